theorem d_M_fits_14 : decode b_M_fits 14 = .ok (.aload_n 2, 1) := by decide +kernel
theorem d_M_fits_15 : decode b_M_fits 15 = .ok (.iload_n 3, 1) := by decide +kernel
theorem d_M_fits_16 : decode b_M_fits 16 = .ok (.iconst 1, 1) := by decide +kernel
theorem d_M_fits_17 : decode b_M_fits 17 = .ok (.invokevirtual 34, 3) := by decide +kernel
theorem d_M_fits_20 : decode b_M_fits 20 = .ok (.ireturn, 1) := by decide +kernel
theorem d_M_fitItems_0 : decode b_M_fitItems 0 = .ok (.iload_n 2, 1) := by decide +kernel
theorem d_M_fitItems_1 : decode b_M_fitItems 1 = .ok (.iconst 1, 1) := by decide +kernel
theorem d_M_fitItems_2 : decode b_M_fitItems 2 = .ok (.iadd, 1) := by decide +kernel
theorem d_M_fitItems_3 : decode b_M_fitItems 3 = .ok (.istore 6, 2) := by decide +kernel
theorem d_M_fitItems_5 : decode b_M_fitItems 5 = .ok (.aload_n 1, 1) := by decide +kernel
theorem d_M_fitItems_6 : decode b_M_fitItems 6 = .ok (.iload_n 2, 1) := by decide +kernel
theorem d_M_fitItems_7 : decode b_M_fitItems 7 = .ok (.invokevirtual 38, 3) := by decide +kernel
theorem d_M_fitItems_10 : decode b_M_fitItems 10 = .ok (.istore 7, 2) := by decide +kernel
theorem d_M_fitItems_12 : decode b_M_fitItems 12 = .ok (.iload 4, 2) := by decide +kernel
theorem d_M_fitItems_14 : decode b_M_fitItems 14 = .ok (.iconst 1, 1) := by decide +kernel
theorem d_M_fitItems_15 : decode b_M_fitItems 15 = .ok (.iadd, 1) := by decide +kernel
theorem d_M_fitItems_16 : decode b_M_fitItems 16 = .ok (.istore 8, 2) := by decide +kernel
theorem d_M_fitItems_18 : decode b_M_fitItems 18 = .ok (.iconst 0, 1) := by decide +kernel
theorem d_M_fitItems_19 : decode b_M_fitItems 19 = .ok (.istore 9, 2) := by decide +kernel
theorem d_M_fitItems_21 : decode b_M_fitItems 21 = .ok (.iload 9, 2) := by decide +kernel
theorem d_M_fitItems_23 : decode b_M_fitItems 23 = .ok (.aload_n 3, 1) := by decide +kernel
theorem d_M_fitItems_24 : decode b_M_fitItems 24 = .ok (.iload 4, 2) := by decide +kernel
theorem d_M_fitItems_26 : decode b_M_fitItems 26 = .ok (.invokevirtual 38, 3) := by decide +kernel
theorem d_M_fitItems_29 : decode b_M_fitItems 29 = .ok (.if_icmp .ge 64, 3) := by decide +kernel
theorem d_M_fitItems_32 : decode b_M_fitItems 32 = .ok (.iload 7, 2) := by decide +kernel
theorem d_M_fitItems_34 : decode b_M_fitItems 34 = .ok (.ifCond .eq 23, 3) := by decide +kernel
theorem d_M_fitItems_37 : decode b_M_fitItems 37 = .ok (.iload 9, 2) := by decide +kernel
theorem d_M_fitItems_39 : decode b_M_fitItems 39 = .ok (.iload 5, 2) := by decide +kernel
theorem d_M_fitItems_41 : decode b_M_fitItems 41 = .ok (.if_icmp .lt 18, 3) := by decide +kernel
theorem d_M_fitItems_44 : decode b_M_fitItems 44 = .ok (.aload_n 0, 1) := by decide +kernel
theorem d_M_fitItems_45 : decode b_M_fitItems 45 = .ok (.aload_n 1, 1) := by decide +kernel
theorem d_M_fitItems_46 : decode b_M_fitItems 46 = .ok (.iload 6, 2) := by decide +kernel
theorem d_M_fitItems_48 : decode b_M_fitItems 48 = .ok (.aload_n 3, 1) := by decide +kernel
theorem d_M_fitItems_49 : decode b_M_fitItems 49 = .ok (.iload 8, 2) := by decide +kernel
theorem d_M_fitItems_51 : decode b_M_fitItems 51 = .ok (.invokevirtual 42, 3) := by decide +kernel
theorem d_M_fitItems_54 : decode b_M_fitItems 54 = .ok (.ifCond .ne 5, 3) := by decide +kernel
theorem d_M_fitItems_57 : decode b_M_fitItems 57 = .ok (.iconst 0, 1) := by decide +kernel
theorem d_M_fitItems_58 : decode b_M_fitItems 58 = .ok (.ireturn, 1) := by decide +kernel
theorem d_M_fitItems_59 : decode b_M_fitItems 59 = .ok (.aload_n 1, 1) := by decide +kernel
theorem d_M_fitItems_60 : decode b_M_fitItems 60 = .ok (.iload 6, 2) := by decide +kernel
theorem d_M_fitItems_62 : decode b_M_fitItems 62 = .ok (.invokevirtual 46, 3) := by decide +kernel
theorem d_M_fitItems_65 : decode b_M_fitItems 65 = .ok (.ifCond .ne 14, 3) := by decide +kernel
theorem d_M_fitItems_68 : decode b_M_fitItems 68 = .ok (.aload_n 1, 1) := by decide +kernel
theorem d_M_fitItems_69 : decode b_M_fitItems 69 = .ok (.iload 6, 2) := by decide +kernel
theorem d_M_fitItems_71 : decode b_M_fitItems 71 = .ok (.invokevirtual 50, 3) := by decide +kernel
theorem d_M_fitItems_74 : decode b_M_fitItems 74 = .ok (.istore 6, 2) := by decide +kernel
theorem d_M_fitItems_76 : decode b_M_fitItems 76 = .ok (.iinc 7 (-1), 3) := by decide +kernel
theorem d_M_fitItems_79 : decode b_M_fitItems 79 = .ok (.aload_n 3, 1) := by decide +kernel
theorem d_M_fitItems_80 : decode b_M_fitItems 80 = .ok (.iload 8, 2) := by decide +kernel
theorem d_M_fitItems_82 : decode b_M_fitItems 82 = .ok (.invokevirtual 50, 3) := by decide +kernel
theorem d_M_fitItems_85 : decode b_M_fitItems 85 = .ok (.istore 8, 2) := by decide +kernel
theorem d_M_fitItems_87 : decode b_M_fitItems 87 = .ok (.iinc 9 1, 3) := by decide +kernel
theorem d_M_fitItems_90 : decode b_M_fitItems 90 = .ok (.goto (-69), 3) := by decide +kernel
theorem d_M_fitItems_93 : decode b_M_fitItems 93 = .ok (.iload 7, 2) := by decide +kernel
theorem d_M_fitItems_95 : decode b_M_fitItems 95 = .ok (.ifCond .eq 18, 3) := by decide +kernel
theorem d_M_fitItems_98 : decode b_M_fitItems 98 = .ok (.iload 7, 2) := by decide +kernel
theorem d_M_fitItems_100 : decode b_M_fitItems 100 = .ok (.iconst 1, 1) := by decide +kernel
theorem d_M_fitItems_101 : decode b_M_fitItems 101 = .ok (.if_icmp .ne 16, 3) := by decide +kernel
theorem d_M_fitItems_104 : decode b_M_fitItems 104 = .ok (.aload_n 1, 1) := by decide +kernel
theorem d_M_fitItems_105 : decode b_M_fitItems 105 = .ok (.iload 6, 2) := by decide +kernel
theorem d_M_fitItems_107 : decode b_M_fitItems 107 = .ok (.invokevirtual 46, 3) := by decide +kernel
theorem d_M_fitItems_110 : decode b_M_fitItems 110 = .ok (.ifCond .eq 7, 3) := by decide +kernel
theorem d_M_fitItems_113 : decode b_M_fitItems 113 = .ok (.iconst 1, 1) := by decide +kernel
theorem d_M_fitItems_114 : decode b_M_fitItems 114 = .ok (.goto 4, 3) := by decide +kernel
theorem d_M_fitItems_117 : decode b_M_fitItems 117 = .ok (.iconst 0, 1) := by decide +kernel
theorem d_M_fitItems_118 : decode b_M_fitItems 118 = .ok (.ireturn, 1) := by decide +kernel
theorem d_M_fitTerm_0 : decode b_M_fitTerm 0 = .ok (.aload_n 1, 1) := by decide +kernel
theorem d_M_fitTerm_1 : decode b_M_fitTerm 1 = .ok (.iload_n 2, 1) := by decide +kernel
theorem d_M_fitTerm_2 : decode b_M_fitTerm 2 = .ok (.invokevirtual 53, 3) := by decide +kernel
theorem d_M_fitTerm_5 : decode b_M_fitTerm 5 = .ok (.istore 5, 2) := by decide +kernel
theorem d_M_fitTerm_7 : decode b_M_fitTerm 7 = .ok (.iload 5, 2) := by decide +kernel
theorem d_M_fitTerm_9 : decode b_M_fitTerm 9 = .ok (.bipush 95, 2) := by decide +kernel
theorem d_M_fitTerm_11 : decode b_M_fitTerm 11 = .ok (.if_icmp .ne 5, 3) := by decide +kernel
theorem d_M_fitTerm_14 : decode b_M_fitTerm 14 = .ok (.iconst 1, 1) := by decide +kernel
theorem d_M_fitTerm_15 : decode b_M_fitTerm 15 = .ok (.ireturn, 1) := by decide +kernel
theorem d_M_fitTerm_16 : decode b_M_fitTerm 16 = .ok (.iload 5, 2) := by decide +kernel
theorem d_M_fitTerm_18 : decode b_M_fitTerm 18 = .ok (.invokestatic 57, 3) := by decide +kernel
theorem d_M_fitTerm_21 : decode b_M_fitTerm 21 = .ok (.ifCond .eq 15, 3) := by decide +kernel
theorem d_M_fitTerm_24 : decode b_M_fitTerm 24 = .ok (.aload_n 0, 1) := by decide +kernel
theorem d_M_fitTerm_25 : decode b_M_fitTerm 25 = .ok (.iload 5, 2) := by decide +kernel
theorem d_M_fitTerm_27 : decode b_M_fitTerm 27 = .ok (.bipush 97, 2) := by decide +kernel
theorem d_M_fitTerm_29 : decode b_M_fitTerm 29 = .ok (.isub, 1) := by decide +kernel
theorem d_M_fitTerm_30 : decode b_M_fitTerm 30 = .ok (.iload 4, 2) := by decide +kernel
theorem d_M_fitTerm_32 : decode b_M_fitTerm 32 = .ok (.invokevirtual 61, 3) := by decide +kernel
theorem d_M_fitTerm_35 : decode b_M_fitTerm 35 = .ok (.ireturn, 1) := by decide +kernel
theorem d_M_fitTerm_36 : decode b_M_fitTerm 36 = .ok (.iload 5, 2) := by decide +kernel
theorem d_M_fitTerm_38 : decode b_M_fitTerm 38 = .ok (.aload_n 3, 1) := by decide +kernel
theorem d_M_fitTerm_39 : decode b_M_fitTerm 39 = .ok (.iload 4, 2) := by decide +kernel
theorem d_M_fitTerm_41 : decode b_M_fitTerm 41 = .ok (.invokevirtual 53, 3) := by decide +kernel
theorem d_M_fitTerm_44 : decode b_M_fitTerm 44 = .ok (.if_icmp .eq 5, 3) := by decide +kernel
theorem d_M_fitTerm_47 : decode b_M_fitTerm 47 = .ok (.iconst 0, 1) := by decide +kernel
theorem d_M_fitTerm_48 : decode b_M_fitTerm 48 = .ok (.ireturn, 1) := by decide +kernel
theorem d_M_fitTerm_49 : decode b_M_fitTerm 49 = .ok (.iload 5, 2) := by decide +kernel
theorem d_M_fitTerm_51 : decode b_M_fitTerm 51 = .ok (.bipush 40, 2) := by decide +kernel
theorem d_M_fitTerm_53 : decode b_M_fitTerm 53 = .ok (.if_icmp .ne 16, 3) := by decide +kernel
theorem d_M_fitTerm_56 : decode b_M_fitTerm 56 = .ok (.aload_n 0, 1) := by decide +kernel
theorem d_M_fitTerm_57 : decode b_M_fitTerm 57 = .ok (.aload_n 1, 1) := by decide +kernel
theorem d_M_fitTerm_58 : decode b_M_fitTerm 58 = .ok (.iload_n 2, 1) := by decide +kernel
theorem d_M_fitTerm_59 : decode b_M_fitTerm 59 = .ok (.aload_n 3, 1) := by decide +kernel
theorem d_M_fitTerm_60 : decode b_M_fitTerm 60 = .ok (.iload 4, 2) := by decide +kernel
theorem d_M_fitTerm_62 : decode b_M_fitTerm 62 = .ok (.iconst 0, 1) := by decide +kernel
theorem d_M_fitTerm_63 : decode b_M_fitTerm 63 = .ok (.invokevirtual 34, 3) := by decide +kernel
theorem d_M_fitTerm_66 : decode b_M_fitTerm 66 = .ok (.ifCond .eq 7, 3) := by decide +kernel
theorem d_M_fitTerm_69 : decode b_M_fitTerm 69 = .ok (.iconst 1, 1) := by decide +kernel
theorem d_M_fitTerm_70 : decode b_M_fitTerm 70 = .ok (.goto 4, 3) := by decide +kernel
theorem d_M_fitTerm_73 : decode b_M_fitTerm 73 = .ok (.iconst 0, 1) := by decide +kernel
theorem d_M_fitTerm_74 : decode b_M_fitTerm 74 = .ok (.ireturn, 1) := by decide +kernel
theorem d_M_bind_0 : decode b_M_bind 0 = .ok (.aload_n 0, 1) := by decide +kernel
theorem d_M_bind_1 : decode b_M_bind 1 = .ok (.getfield 18, 3) := by decide +kernel
theorem d_M_bind_4 : decode b_M_bind 4 = .ok (.iload_n 1, 1) := by decide +kernel
theorem d_M_bind_5 : decode b_M_bind 5 = .ok (.iaload, 1) := by decide +kernel
theorem d_M_bind_6 : decode b_M_bind 6 = .ok (.bipush 60, 2) := by decide +kernel
theorem d_M_bind_8 : decode b_M_bind 8 = .ok (.if_icmp .lt 5, 3) := by decide +kernel
theorem d_M_bind_11 : decode b_M_bind 11 = .ok (.iconst 0, 1) := by decide +kernel
theorem d_M_bind_12 : decode b_M_bind 12 = .ok (.ireturn, 1) := by decide +kernel
theorem d_M_bind_13 : decode b_M_bind 13 = .ok (.aload_n 0, 1) := by decide +kernel
theorem d_M_bind_14 : decode b_M_bind 14 = .ok (.getfield 13, 3) := by decide +kernel
theorem d_M_bind_17 : decode b_M_bind 17 = .ok (.iload_n 1, 1) := by decide +kernel
theorem d_M_bind_18 : decode b_M_bind 18 = .ok (.aaload, 1) := by decide +kernel
theorem d_M_bind_19 : decode b_M_bind 19 = .ok (.aload_n 0, 1) := by decide +kernel
theorem d_M_bind_20 : decode b_M_bind 20 = .ok (.getfield 18, 3) := by decide +kernel
theorem d_M_bind_23 : decode b_M_bind 23 = .ok (.iload_n 1, 1) := by decide +kernel
theorem d_M_bind_24 : decode b_M_bind 24 = .ok (.iaload, 1) := by decide +kernel
theorem d_M_bind_25 : decode b_M_bind 25 = .ok (.iload_n 2, 1) := by decide +kernel
theorem d_M_bind_26 : decode b_M_bind 26 = .ok (.iastore, 1) := by decide +kernel
theorem d_M_bind_27 : decode b_M_bind 27 = .ok (.aload_n 0, 1) := by decide +kernel
theorem d_M_bind_28 : decode b_M_bind 28 = .ok (.getfield 18, 3) := by decide +kernel
theorem d_M_bind_31 : decode b_M_bind 31 = .ok (.iload_n 1, 1) := by decide +kernel
theorem d_M_bind_32 : decode b_M_bind 32 = .ok (.dup2, 1) := by decide +kernel
theorem d_M_bind_33 : decode b_M_bind 33 = .ok (.iaload, 1) := by decide +kernel
theorem d_M_bind_34 : decode b_M_bind 34 = .ok (.iconst 1, 1) := by decide +kernel
theorem d_M_bind_35 : decode b_M_bind 35 = .ok (.iadd, 1) := by decide +kernel
theorem d_M_bind_36 : decode b_M_bind 36 = .ok (.iastore, 1) := by decide +kernel
theorem d_M_bind_37 : decode b_M_bind 37 = .ok (.iconst 1, 1) := by decide +kernel
theorem d_M_bind_38 : decode b_M_bind 38 = .ok (.ireturn, 1) := by decide +kernel
theorem d_M_isEven_0 : decode b_M_isEven 0 = .ok (.aload_n 1, 1) := by decide +kernel
theorem d_M_isEven_1 : decode b_M_isEven 1 = .ok (.invokevirtual 28, 3) := by decide +kernel
theorem d_M_isEven_4 : decode b_M_isEven 4 = .ok (.astore_n 2, 1) := by decide +kernel
theorem d_M_isEven_5 : decode b_M_isEven 5 = .ok (.aload_n 1, 1) := by decide +kernel
theorem d_M_isEven_6 : decode b_M_isEven 6 = .ok (.invokevirtual 65, 3) := by decide +kernel
theorem d_M_isEven_9 : decode b_M_isEven 9 = .ok (.istore_n 3, 1) := by decide +kernel
theorem d_M_isEven_10 : decode b_M_isEven 10 = .ok (.iload_n 3, 1) := by decide +kernel
theorem d_M_isEven_11 : decode b_M_isEven 11 = .ok (.aload_n 2, 1) := by decide +kernel
theorem d_M_isEven_12 : decode b_M_isEven 12 = .ok (.invokevirtual 69, 3) := by decide +kernel
theorem d_M_isEven_15 : decode b_M_isEven 15 = .ok (.if_icmp .ge 28, 3) := by decide +kernel
theorem d_M_isEven_18 : decode b_M_isEven 18 = .ok (.aload_n 2, 1) := by decide +kernel
theorem d_M_isEven_19 : decode b_M_isEven 19 = .ok (.iload_n 3, 1) := by decide +kernel
theorem d_M_isEven_20 : decode b_M_isEven 20 = .ok (.invokevirtual 46, 3) := by decide +kernel
theorem d_M_isEven_23 : decode b_M_isEven 23 = .ok (.ifCond .eq 14, 3) := by decide +kernel
theorem d_M_isEven_26 : decode b_M_isEven 26 = .ok (.aload_n 0, 1) := by decide +kernel
theorem d_M_isEven_27 : decode b_M_isEven 27 = .ok (.aload_n 1, 1) := by decide +kernel
theorem d_M_isEven_28 : decode b_M_isEven 28 = .ok (.iload_n 3, 1) := by decide +kernel
theorem d_M_isEven_29 : decode b_M_isEven 29 = .ok (.invokevirtual 72, 3) := by decide +kernel
theorem d_M_isEven_32 : decode b_M_isEven 32 = .ok (.ifCond .ge 5, 3) := by decide +kernel
theorem d_M_isEven_35 : decode b_M_isEven 35 = .ok (.iconst 0, 1) := by decide +kernel
theorem d_M_isEven_36 : decode b_M_isEven 36 = .ok (.ireturn, 1) := by decide +kernel
theorem d_M_isEven_37 : decode b_M_isEven 37 = .ok (.iinc 3 1, 3) := by decide +kernel
theorem d_M_isEven_40 : decode b_M_isEven 40 = .ok (.goto (-30), 3) := by decide +kernel
theorem d_M_isEven_43 : decode b_M_isEven 43 = .ok (.iconst 1, 1) := by decide +kernel
theorem d_M_isEven_44 : decode b_M_isEven 44 = .ok (.ireturn, 1) := by decide +kernel
theorem d_M_copies_0 : decode b_M_copies 0 = .ok (.iconst (-1), 1) := by decide +kernel
theorem d_M_copies_1 : decode b_M_copies 1 = .ok (.istore_n 3, 1) := by decide +kernel
theorem d_M_copies_2 : decode b_M_copies 2 = .ok (.iload_n 2, 1) := by decide +kernel
theorem d_M_copies_3 : decode b_M_copies 3 = .ok (.istore 4, 2) := by decide +kernel
theorem d_M_copies_5 : decode b_M_copies 5 = .ok (.iload 4, 2) := by decide +kernel
theorem d_M_copies_7 : decode b_M_copies 7 = .ok (.aload_n 1, 1) := by decide +kernel
theorem d_M_copies_8 : decode b_M_copies 8 = .ok (.invokevirtual 28, 3) := by decide +kernel
theorem d_M_copies_11 : decode b_M_copies 11 = .ok (.iload_n 2, 1) := by decide +kernel
theorem d_M_copies_12 : decode b_M_copies 12 = .ok (.invokevirtual 50, 3) := by decide +kernel
theorem d_M_copies_15 : decode b_M_copies 15 = .ok (.if_icmp .ge 56, 3) := by decide +kernel
theorem d_M_copies_18 : decode b_M_copies 18 = .ok (.aload_n 1, 1) := by decide +kernel
theorem d_M_copies_19 : decode b_M_copies 19 = .ok (.invokevirtual 28, 3) := by decide +kernel
theorem d_M_copies_22 : decode b_M_copies 22 = .ok (.iload 4, 2) := by decide +kernel
theorem d_M_copies_24 : decode b_M_copies 24 = .ok (.invokevirtual 53, 3) := by decide +kernel
theorem d_M_copies_27 : decode b_M_copies 27 = .ok (.istore 5, 2) := by decide +kernel
theorem d_M_copies_29 : decode b_M_copies 29 = .ok (.aload_n 1, 1) := by decide +kernel
theorem d_M_copies_30 : decode b_M_copies 30 = .ok (.iload 5, 2) := by decide +kernel
theorem d_M_copies_32 : decode b_M_copies 32 = .ok (.invokevirtual 76, 3) := by decide +kernel
theorem d_M_copies_35 : decode b_M_copies 35 = .ok (.ifCond .eq 30, 3) := by decide +kernel
theorem d_M_copies_38 : decode b_M_copies 38 = .ok (.aload_n 0, 1) := by decide +kernel
theorem d_M_copies_39 : decode b_M_copies 39 = .ok (.getfield 18, 3) := by decide +kernel
theorem d_M_copies_42 : decode b_M_copies 42 = .ok (.iload 5, 2) := by decide +kernel
theorem d_M_copies_44 : decode b_M_copies 44 = .ok (.bipush 97, 2) := by decide +kernel
theorem d_M_copies_46 : decode b_M_copies 46 = .ok (.isub, 1) := by decide +kernel
theorem d_M_copies_47 : decode b_M_copies 47 = .ok (.iaload, 1) := by decide +kernel
theorem d_M_copies_48 : decode b_M_copies 48 = .ok (.istore 6, 2) := by decide +kernel
theorem d_M_copies_50 : decode b_M_copies 50 = .ok (.iload_n 3, 1) := by decide +kernel
theorem d_M_copies_51 : decode b_M_copies 51 = .ok (.ifCond .lt 11, 3) := by decide +kernel
theorem d_M_copies_54 : decode b_M_copies 54 = .ok (.iload_n 3, 1) := by decide +kernel
theorem d_M_copies_55 : decode b_M_copies 55 = .ok (.iload 6, 2) := by decide +kernel
theorem d_M_copies_57 : decode b_M_copies 57 = .ok (.if_icmp .eq 5, 3) := by decide +kernel
theorem d_M_copies_60 : decode b_M_copies 60 = .ok (.iconst (-1), 1) := by decide +kernel
theorem d_M_copies_61 : decode b_M_copies 61 = .ok (.ireturn, 1) := by decide +kernel
theorem d_M_copies_62 : decode b_M_copies 62 = .ok (.iload 6, 2) := by decide +kernel
theorem d_M_copies_64 : decode b_M_copies 64 = .ok (.istore_n 3, 1) := by decide +kernel
theorem d_M_copies_65 : decode b_M_copies 65 = .ok (.iinc 4 1, 3) := by decide +kernel
theorem d_M_copies_68 : decode b_M_copies 68 = .ok (.goto (-63), 3) := by decide +kernel
theorem d_M_copies_71 : decode b_M_copies 71 = .ok (.iload_n 3, 1) := by decide +kernel
theorem d_M_copies_72 : decode b_M_copies 72 = .ok (.ireturn, 1) := by decide +kernel
theorem d_E_fill_0 : decode b_E_fill 0 = .ok (.aload_n 1, 1) := by decide +kernel
theorem d_E_fill_1 : decode b_E_fill 1 = .ok (.invokevirtual 194, 3) := by decide +kernel
theorem d_E_fill_4 : decode b_E_fill 4 = .ok (.astore 4, 2) := by decide +kernel
theorem d_E_fill_6 : decode b_E_fill 6 = .ok (.aload 4, 2) := by decide +kernel
theorem d_E_fill_8 : decode b_E_fill 8 = .ok (.iload_n 2, 1) := by decide +kernel
theorem d_E_fill_9 : decode b_E_fill 9 = .ok (.invokevirtual 92, 3) := by decide +kernel
theorem d_E_fill_12 : decode b_E_fill 12 = .ok (.istore 5, 2) := by decide +kernel
theorem d_E_fill_14 : decode b_E_fill 14 = .ok (.aload_n 1, 1) := by decide +kernel
theorem d_E_fill_15 : decode b_E_fill 15 = .ok (.iload 5, 2) := by decide +kernel
theorem d_E_fill_17 : decode b_E_fill 17 = .ok (.invokevirtual 197, 3) := by decide +kernel
theorem d_E_fill_20 : decode b_E_fill 20 = .ok (.ifCond .eq 31, 3) := by decide +kernel
theorem d_E_fill_23 : decode b_E_fill 23 = .ok (.aload_n 0, 1) := by decide +kernel
theorem d_E_fill_24 : decode b_E_fill 24 = .ok (.aload_n 0, 1) := by decide +kernel
theorem d_E_fill_25 : decode b_E_fill 25 = .ok (.getfield 23, 3) := by decide +kernel
theorem d_E_fill_28 : decode b_E_fill 28 = .ok (.iload 5, 2) := by decide +kernel
theorem d_E_fill_30 : decode b_E_fill 30 = .ok (.aload_n 1, 1) := by decide +kernel
theorem d_E_fill_31 : decode b_E_fill 31 = .ok (.iload 5, 2) := by decide +kernel
theorem d_E_fill_33 : decode b_E_fill 33 = .ok (.invokevirtual 200, 3) := by decide +kernel
theorem d_E_fill_36 : decode b_E_fill 36 = .ok (.ifCond .eq 7, 3) := by decide +kernel
theorem d_E_fill_39 : decode b_E_fill 39 = .ok (.iload_n 3, 1) := by decide +kernel
theorem d_E_fill_40 : decode b_E_fill 40 = .ok (.goto 4, 3) := by decide +kernel
theorem d_E_fill_43 : decode b_E_fill 43 = .ok (.iconst 0, 1) := by decide +kernel
theorem d_E_fill_44 : decode b_E_fill 44 = .ok (.invokevirtual 203, 3) := by decide +kernel
theorem d_E_fill_47 : decode b_E_fill 47 = .ok (.invokevirtual 207, 3) := by decide +kernel
theorem d_E_fill_50 : decode b_E_fill 50 = .ok (.ireturn, 1) := by decide +kernel
theorem d_E_fill_51 : decode b_E_fill 51 = .ok (.aload_n 0, 1) := by decide +kernel
theorem d_E_fill_52 : decode b_E_fill 52 = .ok (.getfield 14, 3) := by decide +kernel
theorem d_E_fill_55 : decode b_E_fill 55 = .ok (.iload 5, 2) := by decide +kernel
theorem d_E_fill_57 : decode b_E_fill 57 = .ok (.iload 5, 2) := by decide +kernel
theorem d_E_fill_59 : decode b_E_fill 59 = .ok (.invokestatic 96, 3) := by decide +kernel
theorem d_E_fill_62 : decode b_E_fill 62 = .ok (.ifCond .eq 12, 3) := by decide +kernel
theorem d_E_fill_65 : decode b_E_fill 65 = .ok (.aload_n 0, 1) := by decide +kernel
theorem d_E_fill_66 : decode b_E_fill 66 = .ok (.getfield 42, 3) := by decide +kernel
theorem d_E_fill_69 : decode b_E_fill 69 = .ok (.iconst 1, 1) := by decide +kernel
theorem d_E_fill_70 : decode b_E_fill 70 = .ok (.iadd, 1) := by decide +kernel
theorem d_E_fill_71 : decode b_E_fill 71 = .ok (.goto 4, 3) := by decide +kernel
theorem d_E_fill_74 : decode b_E_fill 74 = .ok (.iconst 0, 1) := by decide +kernel
theorem d_E_fill_75 : decode b_E_fill 75 = .ok (.invokevirtual 210, 3) := by decide +kernel
theorem d_E_fill_78 : decode b_E_fill 78 = .ok (.ifCond .ne 5, 3) := by decide +kernel
theorem d_E_fill_81 : decode b_E_fill 81 = .ok (.iconst 0, 1) := by decide +kernel
theorem d_E_fill_82 : decode b_E_fill 82 = .ok (.ireturn, 1) := by decide +kernel
theorem d_E_fill_83 : decode b_E_fill 83 = .ok (.iload 5, 2) := by decide +kernel
theorem d_E_fill_85 : decode b_E_fill 85 = .ok (.bipush 40, 2) := by decide +kernel
theorem d_E_fill_87 : decode b_E_fill 87 = .ok (.if_icmp .eq 5, 3) := by decide +kernel
theorem d_E_fill_90 : decode b_E_fill 90 = .ok (.iconst 1, 1) := by decide +kernel
theorem d_E_fill_91 : decode b_E_fill 91 = .ok (.ireturn, 1) := by decide +kernel
theorem d_E_fill_92 : decode b_E_fill 92 = .ok (.iload_n 2, 1) := by decide +kernel
theorem d_E_fill_93 : decode b_E_fill 93 = .ok (.iconst 1, 1) := by decide +kernel
theorem d_E_fill_94 : decode b_E_fill 94 = .ok (.iadd, 1) := by decide +kernel
theorem d_E_fill_95 : decode b_E_fill 95 = .ok (.istore 6, 2) := by decide +kernel
theorem d_E_fill_97 : decode b_E_fill 97 = .ok (.iconst 0, 1) := by decide +kernel
theorem d_E_fill_98 : decode b_E_fill 98 = .ok (.istore 7, 2) := by decide +kernel
theorem d_E_fill_100 : decode b_E_fill 100 = .ok (.iload 7, 2) := by decide +kernel
theorem d_E_fill_102 : decode b_E_fill 102 = .ok (.aload 4, 2) := by decide +kernel
theorem d_E_fill_104 : decode b_E_fill 104 = .ok (.iload_n 2, 1) := by decide +kernel
theorem d_E_fill_105 : decode b_E_fill 105 = .ok (.invokevirtual 137, 3) := by decide +kernel
theorem d_E_fill_108 : decode b_E_fill 108 = .ok (.if_icmp .ge 87, 3) := by decide +kernel
theorem d_E_fill_111 : decode b_E_fill 111 = .ok (.aload 4, 2) := by decide +kernel
theorem d_E_fill_113 : decode b_E_fill 113 = .ok (.iload 6, 2) := by decide +kernel
theorem d_E_fill_115 : decode b_E_fill 115 = .ok (.invokevirtual 214, 3) := by decide +kernel
theorem d_E_fill_118 : decode b_E_fill 118 = .ok (.istore 8, 2) := by decide +kernel
theorem d_E_fill_120 : decode b_E_fill 120 = .ok (.iload 8, 2) := by decide +kernel
theorem d_E_fill_122 : decode b_E_fill 122 = .ok (.ifCond .eq 16, 3) := by decide +kernel
theorem d_E_fill_125 : decode b_E_fill 125 = .ok (.aload_n 0, 1) := by decide +kernel
theorem d_E_fill_126 : decode b_E_fill 126 = .ok (.getfield 23, 3) := by decide +kernel
theorem d_E_fill_129 : decode b_E_fill 129 = .ok (.aload_n 1, 1) := by decide +kernel
theorem d_E_fill_130 : decode b_E_fill 130 = .ok (.iload 6, 2) := by decide +kernel
theorem d_E_fill_132 : decode b_E_fill 132 = .ok (.invokevirtual 217, 3) := by decide +kernel
theorem d_E_fill_135 : decode b_E_fill 135 = .ok (.goto 4, 3) := by decide +kernel
theorem d_E_fill_138 : decode b_E_fill 138 = .ok (.iconst 1, 1) := by decide +kernel
theorem d_E_fill_139 : decode b_E_fill 139 = .ok (.istore 9, 2) := by decide +kernel
theorem d_E_fill_141 : decode b_E_fill 141 = .ok (.iconst 0, 1) := by decide +kernel
theorem d_E_fill_142 : decode b_E_fill 142 = .ok (.istore 10, 2) := by decide +kernel
theorem d_E_fill_144 : decode b_E_fill 144 = .ok (.iload 10, 2) := by decide +kernel
theorem d_E_fill_146 : decode b_E_fill 146 = .ok (.iload 9, 2) := by decide +kernel
theorem d_E_fill_148 : decode b_E_fill 148 = .ok (.if_icmp .ge 32, 3) := by decide +kernel
theorem d_E_fill_151 : decode b_E_fill 151 = .ok (.aload_n 0, 1) := by decide +kernel
theorem d_E_fill_152 : decode b_E_fill 152 = .ok (.aload_n 1, 1) := by decide +kernel
theorem d_E_fill_153 : decode b_E_fill 153 = .ok (.iload 6, 2) := by decide +kernel
theorem d_E_fill_155 : decode b_E_fill 155 = .ok (.iload 8, 2) := by decide +kernel
theorem d_E_fill_157 : decode b_E_fill 157 = .ok (.ifCond .eq 8, 3) := by decide +kernel
theorem d_E_fill_160 : decode b_E_fill 160 = .ok (.iload 10, 2) := by decide +kernel
theorem d_E_fill_162 : decode b_E_fill 162 = .ok (.goto 4, 3) := by decide +kernel
theorem d_E_fill_165 : decode b_E_fill 165 = .ok (.iload_n 3, 1) := by decide +kernel
theorem d_E_fill_166 : decode b_E_fill 166 = .ok (.invokevirtual 174, 3) := by decide +kernel
theorem d_E_fill_169 : decode b_E_fill 169 = .ok (.ifCond .ne 5, 3) := by decide +kernel
theorem d_E_fill_172 : decode b_E_fill 172 = .ok (.iconst 0, 1) := by decide +kernel
theorem d_E_fill_173 : decode b_E_fill 173 = .ok (.ireturn, 1) := by decide +kernel
theorem d_E_fill_174 : decode b_E_fill 174 = .ok (.iinc 10 1, 3) := by decide +kernel
theorem d_E_fill_177 : decode b_E_fill 177 = .ok (.goto (-33), 3) := by decide +kernel
theorem d_E_fill_180 : decode b_E_fill 180 = .ok (.aload 4, 2) := by decide +kernel
theorem d_E_fill_182 : decode b_E_fill 182 = .ok (.iload 6, 2) := by decide +kernel
theorem d_E_fill_184 : decode b_E_fill 184 = .ok (.invokevirtual 140, 3) := by decide +kernel
theorem d_E_fill_187 : decode b_E_fill 187 = .ok (.istore 6, 2) := by decide +kernel
theorem d_E_fill_189 : decode b_E_fill 189 = .ok (.iinc 7 1, 3) := by decide +kernel
theorem d_E_fill_192 : decode b_E_fill 192 = .ok (.goto (-92), 3) := by decide +kernel
theorem d_E_fill_195 : decode b_E_fill 195 = .ok (.aload_n 0, 1) := by decide +kernel
theorem d_E_fill_196 : decode b_E_fill 196 = .ok (.getfield 14, 3) := by decide +kernel
theorem d_E_fill_199 : decode b_E_fill 199 = .ok (.invokevirtual 221, 3) := by decide +kernel
theorem d_E_fill_202 : decode b_E_fill 202 = .ok (.ireturn, 1) := by decide +kernel
theorem d_M_term_0 : decode b_M_term 0 = .ok (.aload_n 0, 1) := by decide +kernel
theorem d_M_term_1 : decode b_M_term 1 = .ok (.getfield 13, 3) := by decide +kernel
theorem d_M_term_4 : decode b_M_term 4 = .ok (.iload_n 1, 1) := by decide +kernel
theorem d_M_term_5 : decode b_M_term 5 = .ok (.bipush 97, 2) := by decide +kernel
theorem d_M_term_7 : decode b_M_term 7 = .ok (.isub, 1) := by decide +kernel
theorem d_M_term_8 : decode b_M_term 8 = .ok (.aaload, 1) := by decide +kernel
theorem d_M_term_9 : decode b_M_term 9 = .ok (.iload_n 2, 1) := by decide +kernel
theorem d_M_term_10 : decode b_M_term 10 = .ok (.iaload, 1) := by decide +kernel
theorem d_M_term_11 : decode b_M_term 11 = .ok (.ireturn, 1) := by decide +kernel
theorem d_E_copy_0 : decode b_E_copy 0 = .ok (.aload_n 0, 1) := by decide +kernel
theorem d_E_copy_1 : decode b_E_copy 1 = .ok (.getfield 14, 3) := by decide +kernel
theorem d_E_copy_4 : decode b_E_copy 4 = .ok (.iload_n 1, 1) := by decide +kernel
theorem d_E_copy_5 : decode b_E_copy 5 = .ok (.invokevirtual 92, 3) := by decide +kernel
theorem d_E_copy_8 : decode b_E_copy 8 = .ok (.istore_n 2, 1) := by decide +kernel
theorem d_E_copy_9 : decode b_E_copy 9 = .ok (.aload_n 0, 1) := by decide +kernel
theorem d_E_copy_10 : decode b_E_copy 10 = .ok (.getfield 14, 3) := by decide +kernel
theorem d_E_copy_13 : decode b_E_copy 13 = .ok (.iload_n 2, 1) := by decide +kernel
theorem d_E_copy_14 : decode b_E_copy 14 = .ok (.aload_n 0, 1) := by decide +kernel
theorem d_E_copy_15 : decode b_E_copy 15 = .ok (.getfield 14, 3) := by decide +kernel
theorem d_E_copy_18 : decode b_E_copy 18 = .ok (.iload_n 1, 1) := by decide +kernel
theorem d_E_copy_19 : decode b_E_copy 19 = .ok (.invokevirtual 146, 3) := by decide +kernel
theorem d_E_copy_22 : decode b_E_copy 22 = .ok (.invokevirtual 210, 3) := by decide +kernel
theorem d_E_copy_25 : decode b_E_copy 25 = .ok (.ifCond .ne 5, 3) := by decide +kernel
theorem d_E_copy_28 : decode b_E_copy 28 = .ok (.iconst 0, 1) := by decide +kernel
theorem d_E_copy_29 : decode b_E_copy 29 = .ok (.ireturn, 1) := by decide +kernel
theorem d_E_copy_30 : decode b_E_copy 30 = .ok (.iload_n 2, 1) := by decide +kernel
theorem d_E_copy_31 : decode b_E_copy 31 = .ok (.bipush 40, 2) := by decide +kernel
theorem d_E_copy_33 : decode b_E_copy 33 = .ok (.if_icmp .eq 5, 3) := by decide +kernel
theorem d_E_copy_36 : decode b_E_copy 36 = .ok (.iconst 1, 1) := by decide +kernel
theorem d_E_copy_37 : decode b_E_copy 37 = .ok (.ireturn, 1) := by decide +kernel
theorem d_E_copy_38 : decode b_E_copy 38 = .ok (.iload_n 1, 1) := by decide +kernel
theorem d_E_copy_39 : decode b_E_copy 39 = .ok (.iconst 1, 1) := by decide +kernel
theorem d_E_copy_40 : decode b_E_copy 40 = .ok (.iadd, 1) := by decide +kernel
theorem d_E_copy_41 : decode b_E_copy 41 = .ok (.istore_n 3, 1) := by decide +kernel
theorem d_E_copy_42 : decode b_E_copy 42 = .ok (.iconst 0, 1) := by decide +kernel
theorem d_E_copy_43 : decode b_E_copy 43 = .ok (.istore 4, 2) := by decide +kernel
theorem d_E_copy_45 : decode b_E_copy 45 = .ok (.iload 4, 2) := by decide +kernel
theorem d_E_copy_47 : decode b_E_copy 47 = .ok (.aload_n 0, 1) := by decide +kernel
theorem d_E_copy_48 : decode b_E_copy 48 = .ok (.getfield 14, 3) := by decide +kernel
theorem d_E_copy_51 : decode b_E_copy 51 = .ok (.iload_n 1, 1) := by decide +kernel
theorem d_E_copy_52 : decode b_E_copy 52 = .ok (.invokevirtual 137, 3) := by decide +kernel
theorem d_E_copy_55 : decode b_E_copy 55 = .ok (.if_icmp .ge 28, 3) := by decide +kernel
theorem d_E_copy_58 : decode b_E_copy 58 = .ok (.aload_n 0, 1) := by decide +kernel
theorem d_E_copy_59 : decode b_E_copy 59 = .ok (.iload_n 3, 1) := by decide +kernel
theorem d_E_copy_60 : decode b_E_copy 60 = .ok (.invokevirtual 207, 3) := by decide +kernel
theorem d_E_copy_63 : decode b_E_copy 63 = .ok (.ifCond .ne 5, 3) := by decide +kernel
theorem d_E_copy_66 : decode b_E_copy 66 = .ok (.iconst 0, 1) := by decide +kernel
theorem d_E_copy_67 : decode b_E_copy 67 = .ok (.ireturn, 1) := by decide +kernel
theorem d_E_copy_68 : decode b_E_copy 68 = .ok (.aload_n 0, 1) := by decide +kernel
theorem d_E_copy_69 : decode b_E_copy 69 = .ok (.getfield 14, 3) := by decide +kernel
theorem d_E_copy_72 : decode b_E_copy 72 = .ok (.iload_n 3, 1) := by decide +kernel
theorem d_E_copy_73 : decode b_E_copy 73 = .ok (.invokevirtual 140, 3) := by decide +kernel
theorem d_E_copy_76 : decode b_E_copy 76 = .ok (.istore_n 3, 1) := by decide +kernel
theorem d_E_copy_77 : decode b_E_copy 77 = .ok (.iinc 4 1, 3) := by decide +kernel
theorem d_E_copy_80 : decode b_E_copy 80 = .ok (.goto (-35), 3) := by decide +kernel
theorem d_E_copy_83 : decode b_E_copy 83 = .ok (.aload_n 0, 1) := by decide +kernel
theorem d_E_copy_84 : decode b_E_copy 84 = .ok (.getfield 14, 3) := by decide +kernel
theorem d_E_copy_87 : decode b_E_copy 87 = .ok (.invokevirtual 221, 3) := by decide +kernel
theorem d_E_copy_90 : decode b_E_copy 90 = .ok (.ireturn, 1) := by decide +kernel
theorem d_E_letterMark_0 : decode b_E_letterMark 0 = .ok (.bipush 100, 2) := by decide +kernel
theorem d_E_letterMark_2 : decode b_E_letterMark 2 = .ok (.iload_n 0, 1) := by decide +kernel
theorem d_E_letterMark_3 : decode b_E_letterMark 3 = .ok (.iadd, 1) := by decide +kernel
theorem d_E_letterMark_4 : decode b_E_letterMark 4 = .ok (.bipush 97, 2) := by decide +kernel
theorem d_E_letterMark_6 : decode b_E_letterMark 6 = .ok (.isub, 1) := by decide +kernel
theorem d_E_letterMark_7 : decode b_E_letterMark 7 = .ok (.ireturn, 1) := by decide +kernel
theorem d_S_put_0 : decode b_S_put 0 = .ok (.aload_n 0, 1) := by decide +kernel
theorem d_S_put_1 : decode b_S_put 1 = .ok (.getfield 15, 3) := by decide +kernel
theorem d_S_put_4 : decode b_S_put 4 = .ok (.sipush 150, 3) := by decide +kernel
theorem d_S_put_7 : decode b_S_put 7 = .ok (.if_icmp .lt 13, 3) := by decide +kernel
theorem d_S_put_10 : decode b_S_put 10 = .ok (.new 22, 3) := by decide +kernel
theorem d_S_put_13 : decode b_S_put 13 = .ok (.dup, 1) := by decide +kernel
theorem d_S_put_14 : decode b_S_put 14 = .ok (.ldc 24, 2) := by decide +kernel
theorem d_S_put_16 : decode b_S_put 16 = .ok (.invokespecial 26, 3) := by decide +kernel
theorem d_S_put_19 : decode b_S_put 19 = .ok (.athrow, 1) := by decide +kernel
theorem d_S_put_20 : decode b_S_put 20 = .ok (.aload_n 0, 1) := by decide +kernel
theorem d_S_put_21 : decode b_S_put 21 = .ok (.getfield 11, 3) := by decide +kernel
theorem d_S_put_24 : decode b_S_put 24 = .ok (.aload_n 0, 1) := by decide +kernel
theorem d_S_put_25 : decode b_S_put 25 = .ok (.getfield 15, 3) := by decide +kernel
theorem d_S_put_28 : decode b_S_put 28 = .ok (.iload_n 1, 1) := by decide +kernel
theorem d_S_put_29 : decode b_S_put 29 = .ok (.iastore, 1) := by decide +kernel
theorem d_S_put_30 : decode b_S_put 30 = .ok (.aload_n 0, 1) := by decide +kernel
theorem d_S_put_31 : decode b_S_put 31 = .ok (.dup, 1) := by decide +kernel
theorem d_S_put_32 : decode b_S_put 32 = .ok (.getfield 15, 3) := by decide +kernel
theorem d_S_put_35 : decode b_S_put 35 = .ok (.iconst 1, 1) := by decide +kernel
theorem d_S_put_36 : decode b_S_put 36 = .ok (.iadd, 1) := by decide +kernel
theorem d_S_put_37 : decode b_S_put 37 = .ok (.putfield 15, 3) := by decide +kernel
theorem d_S_put_40 : decode b_S_put 40 = .ok (.return_, 1) := by decide +kernel
theorem d_E_numeralMark_0 : decode b_E_numeralMark 0 = .ok (.bipush 10, 2) := by decide +kernel
theorem d_E_numeralMark_2 : decode b_E_numeralMark 2 = .ok (.iload_n 0, 1) := by decide +kernel
theorem d_E_numeralMark_3 : decode b_E_numeralMark 3 = .ok (.iadd, 1) := by decide +kernel
theorem d_E_numeralMark_4 : decode b_E_numeralMark 4 = .ok (.bipush 48, 2) := by decide +kernel
theorem d_E_numeralMark_6 : decode b_E_numeralMark 6 = .ok (.isub, 1) := by decide +kernel
theorem d_E_numeralMark_7 : decode b_E_numeralMark 7 = .ok (.ireturn, 1) := by decide +kernel
theorem d_E_form_0 : decode b_E_form 0 = .ok (.aload_n 0, 1) := by decide +kernel
theorem d_E_form_1 : decode b_E_form 1 = .ok (.iload_n 1, 1) := by decide +kernel
theorem d_E_form_2 : decode b_E_form 2 = .ok (.invokevirtual 119, 3) := by decide +kernel
theorem d_E_form_5 : decode b_E_form 5 = .ok (.ifCond .ne 13, 3) := by decide +kernel
theorem d_E_form_8 : decode b_E_form 8 = .ok (.new 122, 3) := by decide +kernel
theorem d_E_form_11 : decode b_E_form 11 = .ok (.dup, 1) := by decide +kernel
theorem d_E_form_12 : decode b_E_form 12 = .ok (.ldc 124, 2) := by decide +kernel
theorem d_E_form_14 : decode b_E_form 14 = .ok (.invokespecial 126, 3) := by decide +kernel
theorem d_E_form_17 : decode b_E_form 17 = .ok (.athrow, 1) := by decide +kernel
theorem d_E_form_18 : decode b_E_form 18 = .ok (.aload_n 0, 1) := by decide +kernel
theorem d_E_form_19 : decode b_E_form 19 = .ok (.getfield 14, 3) := by decide +kernel
theorem d_E_form_22 : decode b_E_form 22 = .ok (.iload_n 1, 1) := by decide +kernel
theorem d_E_form_23 : decode b_E_form 23 = .ok (.iconst 1, 1) := by decide +kernel
theorem d_E_form_24 : decode b_E_form 24 = .ok (.iadd, 1) := by decide +kernel
theorem d_E_form_25 : decode b_E_form 25 = .ok (.invokevirtual 92, 3) := by decide +kernel
theorem d_E_form_28 : decode b_E_form 28 = .ok (.istore_n 3, 1) := by decide +kernel
theorem d_E_form_29 : decode b_E_form 29 = .ok (.aload_n 0, 1) := by decide +kernel
theorem d_E_form_30 : decode b_E_form 30 = .ok (.getfield 30, 3) := by decide +kernel
theorem d_E_form_33 : decode b_E_form 33 = .ok (.iconst 1, 1) := by decide +kernel
theorem d_E_form_34 : decode b_E_form 34 = .ok (.invokevirtual 107, 3) := by decide +kernel
theorem d_E_form_37 : decode b_E_form 37 = .ok (.iload_n 3, 1) := by decide +kernel
theorem d_E_form_38 : decode b_E_form 38 = .ok (.bipush 76, 2) := by decide +kernel
theorem d_E_form_40 : decode b_E_form 40 = .ok (.if_icmp .ne 42, 3) := by decide +kernel
theorem d_E_form_43 : decode b_E_form 43 = .ok (.aload_n 0, 1) := by decide +kernel
theorem d_E_form_44 : decode b_E_form 44 = .ok (.getfield 30, 3) := by decide +kernel
theorem d_E_form_47 : decode b_E_form 47 = .ok (.iconst 3, 1) := by decide +kernel
theorem d_E_form_48 : decode b_E_form 48 = .ok (.invokevirtual 107, 3) := by decide +kernel
theorem d_E_form_51 : decode b_E_form 51 = .ok (.aload_n 0, 1) := by decide +kernel
theorem d_E_form_52 : decode b_E_form 52 = .ok (.iload_n 1, 1) := by decide +kernel
theorem d_E_form_53 : decode b_E_form 53 = .ok (.iconst 2, 1) := by decide +kernel
theorem d_E_form_54 : decode b_E_form 54 = .ok (.iadd, 1) := by decide +kernel
theorem d_E_form_55 : decode b_E_form 55 = .ok (.invokevirtual 127, 3) := by decide +kernel
theorem d_E_form_58 : decode b_E_form 58 = .ok (.aload_n 0, 1) := by decide +kernel
theorem d_E_form_59 : decode b_E_form 59 = .ok (.iload_n 1, 1) := by decide +kernel
theorem d_E_form_60 : decode b_E_form 60 = .ok (.iconst 3, 1) := by decide +kernel
theorem d_E_form_61 : decode b_E_form 61 = .ok (.iadd, 1) := by decide +kernel
theorem d_E_form_62 : decode b_E_form 62 = .ok (.iconst 1, 1) := by decide +kernel
theorem d_E_form_63 : decode b_E_form 63 = .ok (.iload_n 2, 1) := by decide +kernel
theorem d_E_form_64 : decode b_E_form 64 = .ok (.iconst 1, 1) := by decide +kernel
theorem d_E_form_65 : decode b_E_form 65 = .ok (.iadd, 1) := by decide +kernel
theorem d_E_form_66 : decode b_E_form 66 = .ok (.invokevirtual 130, 3) := by decide +kernel
theorem d_E_form_69 : decode b_E_form 69 = .ok (.aload_n 0, 1) := by decide +kernel
theorem d_E_form_70 : decode b_E_form 70 = .ok (.dup, 1) := by decide +kernel
theorem d_E_form_71 : decode b_E_form 71 = .ok (.getfield 66, 3) := by decide +kernel
theorem d_E_form_74 : decode b_E_form 74 = .ok (.iconst 1, 1) := by decide +kernel
theorem d_E_form_75 : decode b_E_form 75 = .ok (.isub, 1) := by decide +kernel
theorem d_E_form_76 : decode b_E_form 76 = .ok (.putfield 66, 3) := by decide +kernel
theorem d_E_form_79 : decode b_E_form 79 = .ok (.goto 73, 3) := by decide +kernel
theorem d_E_form_82 : decode b_E_form 82 = .ok (.iload_n 3, 1) := by decide +kernel
theorem d_E_form_83 : decode b_E_form 83 = .ok (.bipush 73, 2) := by decide +kernel
theorem d_E_form_85 : decode b_E_form 85 = .ok (.if_icmp .ne 25, 3) := by decide +kernel
theorem d_E_form_88 : decode b_E_form 88 = .ok (.aload_n 0, 1) := by decide +kernel
theorem d_E_form_89 : decode b_E_form 89 = .ok (.getfield 30, 3) := by decide +kernel
theorem d_E_form_92 : decode b_E_form 92 = .ok (.iconst 4, 1) := by decide +kernel
theorem d_E_form_93 : decode b_E_form 93 = .ok (.invokevirtual 107, 3) := by decide +kernel
theorem d_E_form_96 : decode b_E_form 96 = .ok (.aload_n 0, 1) := by decide +kernel
theorem d_E_form_97 : decode b_E_form 97 = .ok (.iload_n 1, 1) := by decide +kernel
theorem d_E_form_98 : decode b_E_form 98 = .ok (.iconst 2, 1) := by decide +kernel
theorem d_E_form_99 : decode b_E_form 99 = .ok (.iadd, 1) := by decide +kernel
theorem d_E_form_100 : decode b_E_form 100 = .ok (.iconst 3, 1) := by decide +kernel
theorem d_E_form_101 : decode b_E_form 101 = .ok (.iload_n 2, 1) := by decide +kernel
theorem d_E_form_102 : decode b_E_form 102 = .ok (.iconst 1, 1) := by decide +kernel
theorem d_E_form_103 : decode b_E_form 103 = .ok (.iadd, 1) := by decide +kernel
theorem d_E_form_104 : decode b_E_form 104 = .ok (.invokevirtual 130, 3) := by decide +kernel
theorem d_E_form_107 : decode b_E_form 107 = .ok (.goto 45, 3) := by decide +kernel
theorem d_E_form_110 : decode b_E_form 110 = .ok (.iload_n 3, 1) := by decide +kernel
theorem d_E_form_111 : decode b_E_form 111 = .ok (.bipush 81, 2) := by decide +kernel
theorem d_E_form_113 : decode b_E_form 113 = .ok (.if_icmp .ne 21, 3) := by decide +kernel
theorem d_E_form_116 : decode b_E_form 116 = .ok (.aload_n 0, 1) := by decide +kernel
theorem d_E_form_117 : decode b_E_form 117 = .ok (.getfield 30, 3) := by decide +kernel
theorem d_E_form_120 : decode b_E_form 120 = .ok (.iconst 5, 1) := by decide +kernel
theorem d_E_form_121 : decode b_E_form 121 = .ok (.invokevirtual 107, 3) := by decide +kernel
theorem d_E_form_124 : decode b_E_form 124 = .ok (.aload_n 0, 1) := by decide +kernel
theorem d_E_form_125 : decode b_E_form 125 = .ok (.iload_n 1, 1) := by decide +kernel
theorem d_E_form_126 : decode b_E_form 126 = .ok (.iconst 2, 1) := by decide +kernel
theorem d_E_form_127 : decode b_E_form 127 = .ok (.iadd, 1) := by decide +kernel
theorem d_E_form_128 : decode b_E_form 128 = .ok (.invokevirtual 134, 3) := by decide +kernel
theorem d_E_form_131 : decode b_E_form 131 = .ok (.goto 21, 3) := by decide +kernel
theorem d_E_form_134 : decode b_E_form 134 = .ok (.aload_n 0, 1) := by decide +kernel
theorem d_E_form_135 : decode b_E_form 135 = .ok (.iload_n 1, 1) := by decide +kernel
theorem d_E_form_136 : decode b_E_form 136 = .ok (.iconst 1, 1) := by decide +kernel
theorem d_E_form_137 : decode b_E_form 137 = .ok (.iadd, 1) := by decide +kernel
theorem d_E_form_138 : decode b_E_form 138 = .ok (.aload_n 0, 1) := by decide +kernel
theorem d_E_form_139 : decode b_E_form 139 = .ok (.getfield 14, 3) := by decide +kernel
theorem d_E_form_142 : decode b_E_form 142 = .ok (.iload_n 1, 1) := by decide +kernel
theorem d_E_form_143 : decode b_E_form 143 = .ok (.invokevirtual 137, 3) := by decide +kernel
theorem d_E_form_146 : decode b_E_form 146 = .ok (.iload_n 2, 1) := by decide +kernel
theorem d_E_form_147 : decode b_E_form 147 = .ok (.iconst 1, 1) := by decide +kernel
theorem d_E_form_148 : decode b_E_form 148 = .ok (.iadd, 1) := by decide +kernel
theorem d_E_form_149 : decode b_E_form 149 = .ok (.invokevirtual 130, 3) := by decide +kernel
theorem d_E_form_152 : decode b_E_form 152 = .ok (.aload_n 0, 1) := by decide +kernel
theorem d_E_form_153 : decode b_E_form 153 = .ok (.getfield 30, 3) := by decide +kernel
theorem d_E_form_156 : decode b_E_form 156 = .ok (.iconst 2, 1) := by decide +kernel
theorem d_E_form_157 : decode b_E_form 157 = .ok (.invokevirtual 107, 3) := by decide +kernel
theorem d_E_form_160 : decode b_E_form 160 = .ok (.return_, 1) := by decide +kernel
theorem d_E_isWellFormed_0 : decode b_E_isWellFormed 0 = .ok (.aload_n 0, 1) := by decide +kernel
theorem d_E_isWellFormed_1 : decode b_E_isWellFormed 1 = .ok (.getfield 14, 3) := by decide +kernel
theorem d_E_isWellFormed_4 : decode b_E_isWellFormed 4 = .ok (.iload_n 1, 1) := by decide +kernel
theorem d_E_isWellFormed_5 : decode b_E_isWellFormed 5 = .ok (.invokevirtual 137, 3) := by decide +kernel
theorem d_E_isWellFormed_8 : decode b_E_isWellFormed 8 = .ok (.istore_n 2, 1) := by decide +kernel
theorem d_E_isWellFormed_9 : decode b_E_isWellFormed 9 = .ok (.iload_n 2, 1) := by decide +kernel
theorem d_E_isWellFormed_10 : decode b_E_isWellFormed 10 = .ok (.ifCond .ne 5, 3) := by decide +kernel
theorem d_E_isWellFormed_13 : decode b_E_isWellFormed 13 = .ok (.iconst 0, 1) := by decide +kernel
theorem d_E_isWellFormed_14 : decode b_E_isWellFormed 14 = .ok (.ireturn, 1) := by decide +kernel
theorem d_E_isWellFormed_15 : decode b_E_isWellFormed 15 = .ok (.aload_n 0, 1) := by decide +kernel
theorem d_E_isWellFormed_16 : decode b_E_isWellFormed 16 = .ok (.getfield 14, 3) := by decide +kernel
theorem d_E_isWellFormed_19 : decode b_E_isWellFormed 19 = .ok (.iload_n 1, 1) := by decide +kernel
theorem d_E_isWellFormed_20 : decode b_E_isWellFormed 20 = .ok (.iconst 1, 1) := by decide +kernel
theorem d_E_isWellFormed_21 : decode b_E_isWellFormed 21 = .ok (.iadd, 1) := by decide +kernel
theorem d_E_isWellFormed_22 : decode b_E_isWellFormed 22 = .ok (.invokevirtual 92, 3) := by decide +kernel
theorem d_E_isWellFormed_25 : decode b_E_isWellFormed 25 = .ok (.istore_n 3, 1) := by decide +kernel
theorem d_E_isWellFormed_26 : decode b_E_isWellFormed 26 = .ok (.iload_n 3, 1) := by decide +kernel
theorem d_E_isWellFormed_27 : decode b_E_isWellFormed 27 = .ok (.bipush 76, 2) := by decide +kernel
theorem d_E_isWellFormed_29 : decode b_E_isWellFormed 29 = .ok (.if_icmp .ne 30, 3) := by decide +kernel
theorem d_E_isWellFormed_32 : decode b_E_isWellFormed 32 = .ok (.iload_n 2, 1) := by decide +kernel
theorem d_E_isWellFormed_33 : decode b_E_isWellFormed 33 = .ok (.iconst 3, 1) := by decide +kernel
theorem d_E_isWellFormed_34 : decode b_E_isWellFormed 34 = .ok (.if_icmp .ne 23, 3) := by decide +kernel
theorem d_E_isWellFormed_37 : decode b_E_isWellFormed 37 = .ok (.aload_n 0, 1) := by decide +kernel
theorem d_E_isWellFormed_38 : decode b_E_isWellFormed 38 = .ok (.getfield 14, 3) := by decide +kernel
theorem d_E_isWellFormed_41 : decode b_E_isWellFormed 41 = .ok (.iload_n 1, 1) := by decide +kernel
theorem d_E_isWellFormed_42 : decode b_E_isWellFormed 42 = .ok (.iconst 2, 1) := by decide +kernel
theorem d_E_isWellFormed_43 : decode b_E_isWellFormed 43 = .ok (.iadd, 1) := by decide +kernel
theorem d_E_isWellFormed_44 : decode b_E_isWellFormed 44 = .ok (.invokevirtual 92, 3) := by decide +kernel
theorem d_E_isWellFormed_47 : decode b_E_isWellFormed 47 = .ok (.invokestatic 96, 3) := by decide +kernel
theorem d_E_isWellFormed_50 : decode b_E_isWellFormed 50 = .ok (.ifCond .eq 7, 3) := by decide +kernel
theorem d_E_isWellFormed_53 : decode b_E_isWellFormed 53 = .ok (.iconst 1, 1) := by decide +kernel
theorem d_E_isWellFormed_54 : decode b_E_isWellFormed 54 = .ok (.goto 4, 3) := by decide +kernel
theorem d_E_isWellFormed_57 : decode b_E_isWellFormed 57 = .ok (.iconst 0, 1) := by decide +kernel
theorem d_E_isWellFormed_58 : decode b_E_isWellFormed 58 = .ok (.ireturn, 1) := by decide +kernel
theorem d_E_isWellFormed_59 : decode b_E_isWellFormed 59 = .ok (.iload_n 3, 1) := by decide +kernel
theorem d_E_isWellFormed_60 : decode b_E_isWellFormed 60 = .ok (.bipush 73, 2) := by decide +kernel
theorem d_E_isWellFormed_62 : decode b_E_isWellFormed 62 = .ok (.if_icmp .ne 14, 3) := by decide +kernel
theorem d_E_isWellFormed_65 : decode b_E_isWellFormed 65 = .ok (.iload_n 2, 1) := by decide +kernel
theorem d_E_isWellFormed_66 : decode b_E_isWellFormed 66 = .ok (.iconst 4, 1) := by decide +kernel
theorem d_E_isWellFormed_67 : decode b_E_isWellFormed 67 = .ok (.if_icmp .ne 7, 3) := by decide +kernel
theorem d_E_isWellFormed_70 : decode b_E_isWellFormed 70 = .ok (.iconst 1, 1) := by decide +kernel
theorem d_E_isWellFormed_71 : decode b_E_isWellFormed 71 = .ok (.goto 4, 3) := by decide +kernel
theorem d_E_isWellFormed_74 : decode b_E_isWellFormed 74 = .ok (.iconst 0, 1) := by decide +kernel
theorem d_E_isWellFormed_75 : decode b_E_isWellFormed 75 = .ok (.ireturn, 1) := by decide +kernel
theorem d_E_isWellFormed_76 : decode b_E_isWellFormed 76 = .ok (.iload_n 3, 1) := by decide +kernel
theorem d_E_isWellFormed_77 : decode b_E_isWellFormed 77 = .ok (.bipush 81, 2) := by decide +kernel
theorem d_E_isWellFormed_79 : decode b_E_isWellFormed 79 = .ok (.if_icmp .ne 8, 3) := by decide +kernel
theorem d_E_isWellFormed_82 : decode b_E_isWellFormed 82 = .ok (.iload_n 2, 1) := by decide +kernel
theorem d_E_isWellFormed_83 : decode b_E_isWellFormed 83 = .ok (.iconst 2, 1) := by decide +kernel
theorem d_E_isWellFormed_84 : decode b_E_isWellFormed 84 = .ok (.if_icmp .ne 7, 3) := by decide +kernel
theorem d_E_isWellFormed_87 : decode b_E_isWellFormed 87 = .ok (.iconst 1, 1) := by decide +kernel
theorem d_E_isWellFormed_88 : decode b_E_isWellFormed 88 = .ok (.goto 4, 3) := by decide +kernel
theorem d_E_isWellFormed_91 : decode b_E_isWellFormed 91 = .ok (.iconst 0, 1) := by decide +kernel
theorem d_E_isWellFormed_92 : decode b_E_isWellFormed 92 = .ok (.ireturn, 1) := by decide +kernel
theorem d_E_bind_0 : decode b_E_bind 0 = .ok (.aload_n 0, 1) := by decide +kernel
theorem d_E_bind_1 : decode b_E_bind 1 = .ok (.getfield 66, 3) := by decide +kernel
theorem d_E_bind_4 : decode b_E_bind 4 = .ok (.bipush 12, 2) := by decide +kernel
theorem d_E_bind_6 : decode b_E_bind 6 = .ok (.if_icmp .ge 47, 3) := by decide +kernel
theorem d_E_bind_9 : decode b_E_bind 9 = .ok (.aload_n 0, 1) := by decide +kernel
theorem d_E_bind_10 : decode b_E_bind 10 = .ok (.getfield 34, 3) := by decide +kernel
theorem d_E_bind_13 : decode b_E_bind 13 = .ok (.aload_n 0, 1) := by decide +kernel
theorem d_E_bind_14 : decode b_E_bind 14 = .ok (.getfield 66, 3) := by decide +kernel
theorem d_E_bind_17 : decode b_E_bind 17 = .ok (.aload_n 0, 1) := by decide +kernel
theorem d_E_bind_18 : decode b_E_bind 18 = .ok (.getfield 14, 3) := by decide +kernel
theorem d_E_bind_21 : decode b_E_bind 21 = .ok (.iload_n 1, 1) := by decide +kernel
theorem d_E_bind_22 : decode b_E_bind 22 = .ok (.invokevirtual 92, 3) := by decide +kernel
theorem d_E_bind_25 : decode b_E_bind 25 = .ok (.castore, 1) := by decide +kernel
theorem d_E_bind_26 : decode b_E_bind 26 = .ok (.aload_n 0, 1) := by decide +kernel
theorem d_E_bind_27 : decode b_E_bind 27 = .ok (.getfield 38, 3) := by decide +kernel
theorem d_E_bind_30 : decode b_E_bind 30 = .ok (.aload_n 0, 1) := by decide +kernel
theorem d_E_bind_31 : decode b_E_bind 31 = .ok (.getfield 66, 3) := by decide +kernel
theorem d_E_bind_34 : decode b_E_bind 34 = .ok (.aload_n 0, 1) := by decide +kernel
theorem d_E_bind_35 : decode b_E_bind 35 = .ok (.getfield 14, 3) := by decide +kernel
theorem d_E_bind_38 : decode b_E_bind 38 = .ok (.iload_n 1, 1) := by decide +kernel
theorem d_E_bind_39 : decode b_E_bind 39 = .ok (.invokevirtual 146, 3) := by decide +kernel
theorem d_E_bind_42 : decode b_E_bind 42 = .ok (.iastore, 1) := by decide +kernel
theorem d_E_bind_43 : decode b_E_bind 43 = .ok (.aload_n 0, 1) := by decide +kernel
theorem d_E_bind_44 : decode b_E_bind 44 = .ok (.dup, 1) := by decide +kernel
theorem d_E_bind_45 : decode b_E_bind 45 = .ok (.getfield 66, 3) := by decide +kernel
theorem d_E_bind_48 : decode b_E_bind 48 = .ok (.iconst 1, 1) := by decide +kernel
theorem d_E_bind_49 : decode b_E_bind 49 = .ok (.iadd, 1) := by decide +kernel
theorem d_E_bind_50 : decode b_E_bind 50 = .ok (.putfield 66, 3) := by decide +kernel
theorem d_E_bind_53 : decode b_E_bind 53 = .ok (.return_, 1) := by decide +kernel
theorem d_E_expressions_0 : decode b_E_expressions 0 = .ok (.iload_n 1, 1) := by decide +kernel
theorem d_E_expressions_1 : decode b_E_expressions 1 = .ok (.istore 4, 2) := by decide +kernel
theorem d_E_expressions_3 : decode b_E_expressions 3 = .ok (.iconst 0, 1) := by decide +kernel
theorem d_E_expressions_4 : decode b_E_expressions 4 = .ok (.istore 5, 2) := by decide +kernel
theorem d_E_expressions_6 : decode b_E_expressions 6 = .ok (.iload 5, 2) := by decide +kernel
theorem d_E_expressions_8 : decode b_E_expressions 8 = .ok (.iload_n 2, 1) := by decide +kernel
theorem d_E_expressions_9 : decode b_E_expressions 9 = .ok (.if_icmp .ge 27, 3) := by decide +kernel
theorem d_E_expressions_12 : decode b_E_expressions 12 = .ok (.aload_n 0, 1) := by decide +kernel
theorem d_E_expressions_13 : decode b_E_expressions 13 = .ok (.iload 4, 2) := by decide +kernel
theorem d_E_expressions_15 : decode b_E_expressions 15 = .ok (.iload_n 3, 1) := by decide +kernel
theorem d_E_expressions_16 : decode b_E_expressions 16 = .ok (.invokevirtual 70, 3) := by decide +kernel
theorem d_E_expressions_19 : decode b_E_expressions 19 = .ok (.aload_n 0, 1) := by decide +kernel
theorem d_E_expressions_20 : decode b_E_expressions 20 = .ok (.getfield 14, 3) := by decide +kernel
theorem d_E_expressions_23 : decode b_E_expressions 23 = .ok (.iload 4, 2) := by decide +kernel
theorem d_E_expressions_25 : decode b_E_expressions 25 = .ok (.invokevirtual 140, 3) := by decide +kernel
theorem d_E_expressions_28 : decode b_E_expressions 28 = .ok (.istore 4, 2) := by decide +kernel
theorem d_E_expressions_30 : decode b_E_expressions 30 = .ok (.iinc 5 1, 3) := by decide +kernel
theorem d_E_expressions_33 : decode b_E_expressions 33 = .ok (.goto (-27), 3) := by decide +kernel
theorem d_E_expressions_36 : decode b_E_expressions 36 = .ok (.return_, 1) := by decide +kernel
theorem d_E_quote_0 : decode b_E_quote 0 = .ok (.aload_n 0, 1) := by decide +kernel
theorem d_E_quote_1 : decode b_E_quote 1 = .ok (.getfield 14, 3) := by decide +kernel
theorem d_E_quote_4 : decode b_E_quote 4 = .ok (.iload_n 1, 1) := by decide +kernel
theorem d_E_quote_5 : decode b_E_quote 5 = .ok (.invokevirtual 92, 3) := by decide +kernel
theorem d_E_quote_8 : decode b_E_quote 8 = .ok (.istore_n 2, 1) := by decide +kernel
theorem d_E_quote_9 : decode b_E_quote 9 = .ok (.iload_n 2, 1) := by decide +kernel
theorem d_E_quote_10 : decode b_E_quote 10 = .ok (.bipush 40, 2) := by decide +kernel
theorem d_E_quote_12 : decode b_E_quote 12 = .ok (.if_icmp .eq 15, 3) := by decide +kernel
theorem d_E_quote_15 : decode b_E_quote 15 = .ok (.aload_n 0, 1) := by decide +kernel
theorem d_E_quote_16 : decode b_E_quote 16 = .ok (.getfield 30, 3) := by decide +kernel
theorem d_E_quote_19 : decode b_E_quote 19 = .ok (.iload_n 2, 1) := by decide +kernel
theorem d_E_quote_20 : decode b_E_quote 20 = .ok (.invokestatic 143, 3) := by decide +kernel
theorem d_E_quote_23 : decode b_E_quote 23 = .ok (.invokevirtual 107, 3) := by decide +kernel
theorem d_E_quote_26 : decode b_E_quote 26 = .ok (.return_, 1) := by decide +kernel
theorem d_E_quote_27 : decode b_E_quote 27 = .ok (.aload_n 0, 1) := by decide +kernel
theorem d_E_quote_28 : decode b_E_quote 28 = .ok (.getfield 30, 3) := by decide +kernel
theorem d_E_quote_31 : decode b_E_quote 31 = .ok (.iconst 1, 1) := by decide +kernel
theorem d_E_quote_32 : decode b_E_quote 32 = .ok (.invokevirtual 107, 3) := by decide +kernel
theorem d_E_quote_35 : decode b_E_quote 35 = .ok (.iload_n 1, 1) := by decide +kernel
theorem d_E_quote_36 : decode b_E_quote 36 = .ok (.iconst 1, 1) := by decide +kernel
theorem d_E_quote_37 : decode b_E_quote 37 = .ok (.iadd, 1) := by decide +kernel
theorem d_E_quote_38 : decode b_E_quote 38 = .ok (.istore_n 3, 1) := by decide +kernel
theorem d_E_quote_39 : decode b_E_quote 39 = .ok (.iconst 0, 1) := by decide +kernel
theorem d_E_quote_40 : decode b_E_quote 40 = .ok (.istore 4, 2) := by decide +kernel
theorem d_E_quote_42 : decode b_E_quote 42 = .ok (.iload 4, 2) := by decide +kernel
theorem d_E_quote_44 : decode b_E_quote 44 = .ok (.aload_n 0, 1) := by decide +kernel
theorem d_E_quote_45 : decode b_E_quote 45 = .ok (.getfield 14, 3) := by decide +kernel
theorem d_E_quote_48 : decode b_E_quote 48 = .ok (.iload_n 1, 1) := by decide +kernel
theorem d_E_quote_49 : decode b_E_quote 49 = .ok (.invokevirtual 137, 3) := by decide +kernel
theorem d_E_quote_52 : decode b_E_quote 52 = .ok (.if_icmp .ge 23, 3) := by decide +kernel
theorem d_E_quote_55 : decode b_E_quote 55 = .ok (.aload_n 0, 1) := by decide +kernel
theorem d_E_quote_56 : decode b_E_quote 56 = .ok (.iload_n 3, 1) := by decide +kernel
theorem d_E_quote_57 : decode b_E_quote 57 = .ok (.invokevirtual 134, 3) := by decide +kernel
theorem d_E_quote_60 : decode b_E_quote 60 = .ok (.aload_n 0, 1) := by decide +kernel
theorem d_E_quote_61 : decode b_E_quote 61 = .ok (.getfield 14, 3) := by decide +kernel
theorem d_E_quote_64 : decode b_E_quote 64 = .ok (.iload_n 3, 1) := by decide +kernel
theorem d_E_quote_65 : decode b_E_quote 65 = .ok (.invokevirtual 140, 3) := by decide +kernel
theorem d_E_quote_68 : decode b_E_quote 68 = .ok (.istore_n 3, 1) := by decide +kernel
theorem d_E_quote_69 : decode b_E_quote 69 = .ok (.iinc 4 1, 3) := by decide +kernel
theorem d_E_quote_72 : decode b_E_quote 72 = .ok (.goto (-30), 3) := by decide +kernel
theorem d_E_quote_75 : decode b_E_quote 75 = .ok (.aload_n 0, 1) := by decide +kernel
theorem d_E_quote_76 : decode b_E_quote 76 = .ok (.getfield 30, 3) := by decide +kernel
theorem d_E_quote_79 : decode b_E_quote 79 = .ok (.iconst 2, 1) := by decide +kernel
theorem d_E_quote_80 : decode b_E_quote 80 = .ok (.invokevirtual 107, 3) := by decide +kernel
theorem d_E_quote_83 : decode b_E_quote 83 = .ok (.return_, 1) := by decide +kernel
theorem d_E_quotedMark_0 : decode b_E_quotedMark 0 = .ok (.iload_n 0, 1) := by decide +kernel
theorem d_E_quotedMark_1 : decode b_E_quotedMark 1 = .ok (.bipush 76, 2) := by decide +kernel
theorem d_E_quotedMark_3 : decode b_E_quotedMark 3 = .ok (.if_icmp .ne 5, 3) := by decide +kernel
theorem d_E_quotedMark_6 : decode b_E_quotedMark 6 = .ok (.iconst (-1), 1) := by decide +kernel
theorem d_E_quotedMark_7 : decode b_E_quotedMark 7 = .ok (.ireturn, 1) := by decide +kernel
theorem d_E_quotedMark_8 : decode b_E_quotedMark 8 = .ok (.iload_n 0, 1) := by decide +kernel
theorem d_E_quotedMark_9 : decode b_E_quotedMark 9 = .ok (.bipush 73, 2) := by decide +kernel
theorem d_E_quotedMark_11 : decode b_E_quotedMark 11 = .ok (.if_icmp .ne 6, 3) := by decide +kernel
theorem d_E_quotedMark_14 : decode b_E_quotedMark 14 = .ok (.bipush (-2), 2) := by decide +kernel
theorem d_E_quotedMark_16 : decode b_E_quotedMark 16 = .ok (.ireturn, 1) := by decide +kernel
theorem d_E_quotedMark_17 : decode b_E_quotedMark 17 = .ok (.iload_n 0, 1) := by decide +kernel
theorem d_E_quotedMark_18 : decode b_E_quotedMark 18 = .ok (.bipush 81, 2) := by decide +kernel
theorem d_E_quotedMark_20 : decode b_E_quotedMark 20 = .ok (.if_icmp .ne 6, 3) := by decide +kernel
theorem d_E_quotedMark_23 : decode b_E_quotedMark 23 = .ok (.bipush (-3), 2) := by decide +kernel
theorem d_E_quotedMark_25 : decode b_E_quotedMark 25 = .ok (.ireturn, 1) := by decide +kernel
theorem d_E_quotedMark_26 : decode b_E_quotedMark 26 = .ok (.iload_n 0, 1) := by decide +kernel
theorem d_E_quotedMark_27 : decode b_E_quotedMark 27 = .ok (.invokestatic 96, 3) := by decide +kernel
theorem d_E_quotedMark_30 : decode b_E_quotedMark 30 = .ok (.ifCond .eq 10, 3) := by decide +kernel
theorem d_E_quotedMark_33 : decode b_E_quotedMark 33 = .ok (.iload_n 0, 1) := by decide +kernel
theorem d_E_quotedMark_34 : decode b_E_quotedMark 34 = .ok (.invokestatic 103, 3) := by decide +kernel
theorem d_E_quotedMark_37 : decode b_E_quotedMark 37 = .ok (.goto 7, 3) := by decide +kernel
theorem d_E_quotedMark_40 : decode b_E_quotedMark 40 = .ok (.iload_n 0, 1) := by decide +kernel
theorem d_E_quotedMark_41 : decode b_E_quotedMark 41 = .ok (.invokestatic 113, 3) := by decide +kernel
theorem d_E_quotedMark_44 : decode b_E_quotedMark 44 = .ok (.ireturn, 1) := by decide +kernel
theorem d_O_tokenOf_0 : decode b_O_tokenOf 0 = .ok (.iload_n 0, 1) := by decide +kernel
theorem d_O_tokenOf_1 : decode b_O_tokenOf 1 = .ok (.bipush 97, 2) := by decide +kernel
theorem d_O_tokenOf_3 : decode b_O_tokenOf 3 = .ok (.if_icmp .lt 17, 3) := by decide +kernel
theorem d_O_tokenOf_6 : decode b_O_tokenOf 6 = .ok (.iload_n 0, 1) := by decide +kernel
theorem d_O_tokenOf_7 : decode b_O_tokenOf 7 = .ok (.bipush 122, 2) := by decide +kernel
theorem d_O_tokenOf_9 : decode b_O_tokenOf 9 = .ok (.if_icmp .gt 11, 3) := by decide +kernel
theorem d_O_tokenOf_12 : decode b_O_tokenOf 12 = .ok (.bipush 100, 2) := by decide +kernel
theorem d_O_tokenOf_14 : decode b_O_tokenOf 14 = .ok (.iload_n 0, 1) := by decide +kernel
theorem d_O_tokenOf_15 : decode b_O_tokenOf 15 = .ok (.iadd, 1) := by decide +kernel
theorem d_O_tokenOf_16 : decode b_O_tokenOf 16 = .ok (.bipush 97, 2) := by decide +kernel
theorem d_O_tokenOf_18 : decode b_O_tokenOf 18 = .ok (.isub, 1) := by decide +kernel
theorem d_O_tokenOf_19 : decode b_O_tokenOf 19 = .ok (.ireturn, 1) := by decide +kernel
theorem d_O_tokenOf_20 : decode b_O_tokenOf 20 = .ok (.iload_n 0, 1) := by decide +kernel
theorem d_O_tokenOf_21 : decode b_O_tokenOf 21 = .ok (.bipush 48, 2) := by decide +kernel
theorem d_O_tokenOf_23 : decode b_O_tokenOf 23 = .ok (.if_icmp .lt 17, 3) := by decide +kernel
theorem d_O_tokenOf_26 : decode b_O_tokenOf 26 = .ok (.iload_n 0, 1) := by decide +kernel
theorem d_O_tokenOf_27 : decode b_O_tokenOf 27 = .ok (.bipush 57, 2) := by decide +kernel
theorem d_O_tokenOf_29 : decode b_O_tokenOf 29 = .ok (.if_icmp .gt 11, 3) := by decide +kernel
theorem d_O_tokenOf_32 : decode b_O_tokenOf 32 = .ok (.bipush 10, 2) := by decide +kernel
theorem d_O_tokenOf_34 : decode b_O_tokenOf 34 = .ok (.iload_n 0, 1) := by decide +kernel
theorem d_O_tokenOf_35 : decode b_O_tokenOf 35 = .ok (.iadd, 1) := by decide +kernel
theorem d_O_tokenOf_36 : decode b_O_tokenOf 36 = .ok (.bipush 48, 2) := by decide +kernel
theorem d_O_tokenOf_38 : decode b_O_tokenOf 38 = .ok (.isub, 1) := by decide +kernel
theorem d_O_tokenOf_39 : decode b_O_tokenOf 39 = .ok (.ireturn, 1) := by decide +kernel
theorem d_O_tokenOf_40 : decode b_O_tokenOf 40 = .ok (.iload_n 0, 1) := by decide +kernel
theorem d_O_tokenOf_41 : decode b_O_tokenOf 41 = .ok (.lookupswitch 94 #[(40, 75), (41, 77), (61, 91), (73, 81), (76, 79), (81, 83), (95, 85), (126, 88)], 75) := by decide +kernel
theorem d_O_tokenOf_116 : decode b_O_tokenOf 116 = .ok (.iconst 1, 1) := by decide +kernel
theorem d_O_tokenOf_117 : decode b_O_tokenOf 117 = .ok (.ireturn, 1) := by decide +kernel
theorem d_O_tokenOf_118 : decode b_O_tokenOf 118 = .ok (.iconst 2, 1) := by decide +kernel
theorem d_O_tokenOf_119 : decode b_O_tokenOf 119 = .ok (.ireturn, 1) := by decide +kernel
theorem d_O_tokenOf_120 : decode b_O_tokenOf 120 = .ok (.iconst 3, 1) := by decide +kernel
theorem d_O_tokenOf_121 : decode b_O_tokenOf 121 = .ok (.ireturn, 1) := by decide +kernel
theorem d_O_tokenOf_122 : decode b_O_tokenOf 122 = .ok (.iconst 4, 1) := by decide +kernel
theorem d_O_tokenOf_123 : decode b_O_tokenOf 123 = .ok (.ireturn, 1) := by decide +kernel
theorem d_O_tokenOf_124 : decode b_O_tokenOf 124 = .ok (.iconst 5, 1) := by decide +kernel
theorem d_O_tokenOf_125 : decode b_O_tokenOf 125 = .ok (.ireturn, 1) := by decide +kernel
theorem d_O_tokenOf_126 : decode b_O_tokenOf 126 = .ok (.bipush 6, 2) := by decide +kernel
theorem d_O_tokenOf_128 : decode b_O_tokenOf 128 = .ok (.ireturn, 1) := by decide +kernel
theorem d_O_tokenOf_129 : decode b_O_tokenOf 129 = .ok (.bipush 7, 2) := by decide +kernel
theorem d_O_tokenOf_131 : decode b_O_tokenOf 131 = .ok (.ireturn, 1) := by decide +kernel
theorem d_O_tokenOf_132 : decode b_O_tokenOf 132 = .ok (.bipush 8, 2) := by decide +kernel
theorem d_O_tokenOf_134 : decode b_O_tokenOf 134 = .ok (.ireturn, 1) := by decide +kernel

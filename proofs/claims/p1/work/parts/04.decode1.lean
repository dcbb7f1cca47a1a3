theorem d_F_init_0 : decode b_F_init 0 = .ok (.aload_n 0, 1) := by decide +kernel
theorem d_F_init_1 : decode b_F_init 1 = .ok (.invokespecial 1, 3) := by decide +kernel
theorem d_F_init_4 : decode b_F_init 4 = .ok (.aload_n 0, 1) := by decide +kernel
theorem d_F_init_5 : decode b_F_init 5 = .ok (.new 7, 3) := by decide +kernel
theorem d_F_init_8 : decode b_F_init 8 = .ok (.dup, 1) := by decide +kernel
theorem d_F_init_9 : decode b_F_init 9 = .ok (.invokespecial 9, 3) := by decide +kernel
theorem d_F_init_12 : decode b_F_init 12 = .ok (.putfield 10, 3) := by decide +kernel
theorem d_F_init_15 : decode b_F_init 15 = .ok (.aload_n 0, 1) := by decide +kernel
theorem d_F_init_16 : decode b_F_init 16 = .ok (.new 16, 3) := by decide +kernel
theorem d_F_init_19 : decode b_F_init 19 = .ok (.dup, 1) := by decide +kernel
theorem d_F_init_20 : decode b_F_init 20 = .ok (.invokespecial 18, 3) := by decide +kernel
theorem d_F_init_23 : decode b_F_init 23 = .ok (.putfield 19, 3) := by decide +kernel
theorem d_F_init_26 : decode b_F_init 26 = .ok (.aload_n 0, 1) := by decide +kernel
theorem d_F_init_27 : decode b_F_init 27 = .ok (.new 23, 3) := by decide +kernel
theorem d_F_init_30 : decode b_F_init 30 = .ok (.dup, 1) := by decide +kernel
theorem d_F_init_31 : decode b_F_init 31 = .ok (.invokespecial 25, 3) := by decide +kernel
theorem d_F_init_34 : decode b_F_init 34 = .ok (.putfield 26, 3) := by decide +kernel
theorem d_F_init_37 : decode b_F_init 37 = .ok (.return_, 1) := by decide +kernel
theorem d_D_init_0 : decode b_D_init 0 = .ok (.aload_n 0, 1) := by decide +kernel
theorem d_D_init_1 : decode b_D_init 1 = .ok (.invokespecial 1, 3) := by decide +kernel
theorem d_D_init_4 : decode b_D_init 4 = .ok (.aload_n 0, 1) := by decide +kernel
theorem d_D_init_5 : decode b_D_init 5 = .ok (.bipush 60, 2) := by decide +kernel
theorem d_D_init_7 : decode b_D_init 7 = .ok (.newarray .char, 2) := by decide +kernel
theorem d_D_init_9 : decode b_D_init 9 = .ok (.putfield 9, 3) := by decide +kernel
theorem d_D_init_12 : decode b_D_init 12 = .ok (.return_, 1) := by decide +kernel
theorem d_B_init_0 : decode b_B_init 0 = .ok (.aload_n 0, 1) := by decide +kernel
theorem d_B_init_1 : decode b_B_init 1 = .ok (.invokespecial 1, 3) := by decide +kernel
theorem d_B_init_4 : decode b_B_init 4 = .ok (.aload_n 0, 1) := by decide +kernel
theorem d_B_init_5 : decode b_B_init 5 = .ok (.bipush 13, 2) := by decide +kernel
theorem d_B_init_7 : decode b_B_init 7 = .ok (.anewarray 9, 3) := by decide +kernel
theorem d_B_init_10 : decode b_B_init 10 = .ok (.putfield 11, 3) := by decide +kernel
theorem d_B_init_13 : decode b_B_init 13 = .ok (.iconst 0, 1) := by decide +kernel
theorem d_B_init_14 : decode b_B_init 14 = .ok (.istore_n 1, 1) := by decide +kernel
theorem d_B_init_15 : decode b_B_init 15 = .ok (.iload_n 1, 1) := by decide +kernel
theorem d_B_init_16 : decode b_B_init 16 = .ok (.bipush 12, 2) := by decide +kernel
theorem d_B_init_18 : decode b_B_init 18 = .ok (.if_icmp .gt 22, 3) := by decide +kernel
theorem d_B_init_21 : decode b_B_init 21 = .ok (.aload_n 0, 1) := by decide +kernel
theorem d_B_init_22 : decode b_B_init 22 = .ok (.getfield 11, 3) := by decide +kernel
theorem d_B_init_25 : decode b_B_init 25 = .ok (.iload_n 1, 1) := by decide +kernel
theorem d_B_init_26 : decode b_B_init 26 = .ok (.new 9, 3) := by decide +kernel
theorem d_B_init_29 : decode b_B_init 29 = .ok (.dup, 1) := by decide +kernel
theorem d_B_init_30 : decode b_B_init 30 = .ok (.invokespecial 15, 3) := by decide +kernel
theorem d_B_init_33 : decode b_B_init 33 = .ok (.aastore, 1) := by decide +kernel
theorem d_B_init_34 : decode b_B_init 34 = .ok (.iinc 1 1, 3) := by decide +kernel
theorem d_B_init_37 : decode b_B_init 37 = .ok (.goto (-22), 3) := by decide +kernel
theorem d_B_init_40 : decode b_B_init 40 = .ok (.return_, 1) := by decide +kernel
theorem d_R_init_0 : decode b_R_init 0 = .ok (.aload_n 0, 1) := by decide +kernel
theorem d_R_init_1 : decode b_R_init 1 = .ok (.invokespecial 3, 3) := by decide +kernel
theorem d_R_init_4 : decode b_R_init 4 = .ok (.aload_n 0, 1) := by decide +kernel
theorem d_R_init_5 : decode b_R_init 5 = .ok (.new 9, 3) := by decide +kernel
theorem d_R_init_8 : decode b_R_init 8 = .ok (.dup, 1) := by decide +kernel
theorem d_R_init_9 : decode b_R_init 9 = .ok (.bipush 60, 2) := by decide +kernel
theorem d_R_init_11 : decode b_R_init 11 = .ok (.invokespecial 13, 3) := by decide +kernel
theorem d_R_init_14 : decode b_R_init 14 = .ok (.putfield 16, 3) := by decide +kernel
theorem d_R_init_17 : decode b_R_init 17 = .ok (.aload_n 0, 1) := by decide +kernel
theorem d_R_init_18 : decode b_R_init 18 = .ok (.bipush 26, 2) := by decide +kernel
theorem d_R_init_20 : decode b_R_init 20 = .ok (.newarray .int, 2) := by decide +kernel
theorem d_R_init_22 : decode b_R_init 22 = .ok (.putfield 22, 3) := by decide +kernel
theorem d_R_init_25 : decode b_R_init 25 = .ok (.return_, 1) := by decide +kernel
theorem d_T_init_0 : decode b_T_init 0 = .ok (.aload_n 0, 1) := by decide +kernel
theorem d_T_init_1 : decode b_T_init 1 = .ok (.invokespecial 3, 3) := by decide +kernel
theorem d_T_init_4 : decode b_T_init 4 = .ok (.aload_n 0, 1) := by decide +kernel
theorem d_T_init_5 : decode b_T_init 5 = .ok (.bipush 12, 2) := by decide +kernel
theorem d_T_init_7 : decode b_T_init 7 = .ok (.newarray .int, 2) := by decide +kernel
theorem d_T_init_9 : decode b_T_init 9 = .ok (.putfield 11, 3) := by decide +kernel
theorem d_T_init_12 : decode b_T_init 12 = .ok (.aload_n 0, 1) := by decide +kernel
theorem d_T_init_13 : decode b_T_init 13 = .ok (.iload_n 1, 1) := by decide +kernel
theorem d_T_init_14 : decode b_T_init 14 = .ok (.newarray .char, 2) := by decide +kernel
theorem d_T_init_16 : decode b_T_init 16 = .ok (.putfield 15, 3) := by decide +kernel
theorem d_T_init_19 : decode b_T_init 19 = .ok (.aload_n 0, 1) := by decide +kernel
theorem d_T_init_20 : decode b_T_init 20 = .ok (.iload_n 1, 1) := by decide +kernel
theorem d_T_init_21 : decode b_T_init 21 = .ok (.newarray .int, 2) := by decide +kernel
theorem d_T_init_23 : decode b_T_init 23 = .ok (.putfield 19, 3) := by decide +kernel
theorem d_T_init_26 : decode b_T_init 26 = .ok (.aload_n 0, 1) := by decide +kernel
theorem d_T_init_27 : decode b_T_init 27 = .ok (.iload_n 1, 1) := by decide +kernel
theorem d_T_init_28 : decode b_T_init 28 = .ok (.newarray .int, 2) := by decide +kernel
theorem d_T_init_30 : decode b_T_init 30 = .ok (.putfield 22, 3) := by decide +kernel
theorem d_T_init_33 : decode b_T_init 33 = .ok (.aload_n 0, 1) := by decide +kernel
theorem d_T_init_34 : decode b_T_init 34 = .ok (.iload_n 1, 1) := by decide +kernel
theorem d_T_init_35 : decode b_T_init 35 = .ok (.newarray .int, 2) := by decide +kernel
theorem d_T_init_37 : decode b_T_init 37 = .ok (.putfield 25, 3) := by decide +kernel
theorem d_T_init_40 : decode b_T_init 40 = .ok (.aload_n 0, 1) := by decide +kernel
theorem d_T_init_41 : decode b_T_init 41 = .ok (.iload_n 1, 1) := by decide +kernel
theorem d_T_init_42 : decode b_T_init 42 = .ok (.newarray .boolean, 2) := by decide +kernel
theorem d_T_init_44 : decode b_T_init 44 = .ok (.putfield 28, 3) := by decide +kernel
theorem d_T_init_47 : decode b_T_init 47 = .ok (.return_, 1) := by decide +kernel
theorem d_E_init_0 : decode b_E_init 0 = .ok (.aload_n 0, 1) := by decide +kernel
theorem d_E_init_1 : decode b_E_init 1 = .ok (.invokespecial 3, 3) := by decide +kernel
theorem d_E_init_4 : decode b_E_init 4 = .ok (.aload_n 0, 1) := by decide +kernel
theorem d_E_init_5 : decode b_E_init 5 = .ok (.new 9, 3) := by decide +kernel
theorem d_E_init_8 : decode b_E_init 8 = .ok (.dup, 1) := by decide +kernel
theorem d_E_init_9 : decode b_E_init 9 = .ok (.sipush 780, 3) := by decide +kernel
theorem d_E_init_12 : decode b_E_init 12 = .ok (.invokespecial 11, 3) := by decide +kernel
theorem d_E_init_15 : decode b_E_init 15 = .ok (.putfield 14, 3) := by decide +kernel
theorem d_E_init_18 : decode b_E_init 18 = .ok (.aload_n 0, 1) := by decide +kernel
theorem d_E_init_19 : decode b_E_init 19 = .ok (.new 20, 3) := by decide +kernel
theorem d_E_init_22 : decode b_E_init 22 = .ok (.dup, 1) := by decide +kernel
theorem d_E_init_23 : decode b_E_init 23 = .ok (.invokespecial 22, 3) := by decide +kernel
theorem d_E_init_26 : decode b_E_init 26 = .ok (.putfield 23, 3) := by decide +kernel
theorem d_E_init_29 : decode b_E_init 29 = .ok (.aload_n 0, 1) := by decide +kernel
theorem d_E_init_30 : decode b_E_init 30 = .ok (.new 27, 3) := by decide +kernel
theorem d_E_init_33 : decode b_E_init 33 = .ok (.dup, 1) := by decide +kernel
theorem d_E_init_34 : decode b_E_init 34 = .ok (.invokespecial 29, 3) := by decide +kernel
theorem d_E_init_37 : decode b_E_init 37 = .ok (.putfield 30, 3) := by decide +kernel
theorem d_E_init_40 : decode b_E_init 40 = .ok (.aload_n 0, 1) := by decide +kernel
theorem d_E_init_41 : decode b_E_init 41 = .ok (.bipush 12, 2) := by decide +kernel
theorem d_E_init_43 : decode b_E_init 43 = .ok (.newarray .char, 2) := by decide +kernel
theorem d_E_init_45 : decode b_E_init 45 = .ok (.putfield 34, 3) := by decide +kernel
theorem d_E_init_48 : decode b_E_init 48 = .ok (.aload_n 0, 1) := by decide +kernel
theorem d_E_init_49 : decode b_E_init 49 = .ok (.bipush 12, 2) := by decide +kernel
theorem d_E_init_51 : decode b_E_init 51 = .ok (.newarray .int, 2) := by decide +kernel
theorem d_E_init_53 : decode b_E_init 53 = .ok (.putfield 38, 3) := by decide +kernel
theorem d_E_init_56 : decode b_E_init 56 = .ok (.return_, 1) := by decide +kernel
theorem d_M_init_0 : decode b_M_init 0 = .ok (.aload_n 0, 1) := by decide +kernel
theorem d_M_init_1 : decode b_M_init 1 = .ok (.invokespecial 3, 3) := by decide +kernel
theorem d_M_init_4 : decode b_M_init 4 = .ok (.aload_n 0, 1) := by decide +kernel
theorem d_M_init_5 : decode b_M_init 5 = .ok (.bipush 26, 2) := by decide +kernel
theorem d_M_init_7 : decode b_M_init 7 = .ok (.bipush 60, 2) := by decide +kernel
theorem d_M_init_9 : decode b_M_init 9 = .ok (.multianewarray 11 2, 4) := by decide +kernel
theorem d_M_init_13 : decode b_M_init 13 = .ok (.putfield 13, 3) := by decide +kernel
theorem d_M_init_16 : decode b_M_init 16 = .ok (.aload_n 0, 1) := by decide +kernel
theorem d_M_init_17 : decode b_M_init 17 = .ok (.bipush 26, 2) := by decide +kernel
theorem d_M_init_19 : decode b_M_init 19 = .ok (.newarray .int, 2) := by decide +kernel
theorem d_M_init_21 : decode b_M_init 21 = .ok (.putfield 18, 3) := by decide +kernel
theorem d_M_init_24 : decode b_M_init 24 = .ok (.return_, 1) := by decide +kernel
theorem d_S_init_0 : decode b_S_init 0 = .ok (.aload_n 0, 1) := by decide +kernel
theorem d_S_init_1 : decode b_S_init 1 = .ok (.invokespecial 3, 3) := by decide +kernel
theorem d_S_init_4 : decode b_S_init 4 = .ok (.aload_n 0, 1) := by decide +kernel
theorem d_S_init_5 : decode b_S_init 5 = .ok (.sipush 150, 3) := by decide +kernel
theorem d_S_init_8 : decode b_S_init 8 = .ok (.newarray .int, 2) := by decide +kernel
theorem d_S_init_10 : decode b_S_init 10 = .ok (.putfield 11, 3) := by decide +kernel
theorem d_S_init_13 : decode b_S_init 13 = .ok (.return_, 1) := by decide +kernel
theorem d_F_type_0 : decode b_F_type 0 = .ok (.aload_n 0, 1) := by decide +kernel
theorem d_F_type_1 : decode b_F_type 1 = .ok (.getfield 10, 3) := by decide +kernel
theorem d_F_type_4 : decode b_F_type 4 = .ok (.iload_n 1, 1) := by decide +kernel
theorem d_F_type_5 : decode b_F_type 5 = .ok (.invokevirtual 30, 3) := by decide +kernel
theorem d_F_type_8 : decode b_F_type 8 = .ok (.ireturn, 1) := by decide +kernel
theorem d_D_put_0 : decode b_D_put 0 = .ok (.iload_n 1, 1) := by decide +kernel
theorem d_D_put_1 : decode b_D_put 1 = .ok (.bipush 32, 2) := by decide +kernel
theorem d_D_put_3 : decode b_D_put 3 = .ok (.if_icmp .lt 18, 3) := by decide +kernel
theorem d_D_put_6 : decode b_D_put 6 = .ok (.iload_n 1, 1) := by decide +kernel
theorem d_D_put_7 : decode b_D_put 7 = .ok (.bipush 126, 2) := by decide +kernel
theorem d_D_put_9 : decode b_D_put 9 = .ok (.if_icmp .gt 12, 3) := by decide +kernel
theorem d_D_put_12 : decode b_D_put 12 = .ok (.aload_n 0, 1) := by decide +kernel
theorem d_D_put_13 : decode b_D_put 13 = .ok (.getfield 13, 3) := by decide +kernel
theorem d_D_put_16 : decode b_D_put 16 = .ok (.bipush 60, 2) := by decide +kernel
theorem d_D_put_18 : decode b_D_put 18 = .ok (.if_icmp .lt 5, 3) := by decide +kernel
theorem d_D_put_21 : decode b_D_put 21 = .ok (.iconst 0, 1) := by decide +kernel
theorem d_D_put_22 : decode b_D_put 22 = .ok (.ireturn, 1) := by decide +kernel
theorem d_D_put_23 : decode b_D_put 23 = .ok (.aload_n 0, 1) := by decide +kernel
theorem d_D_put_24 : decode b_D_put 24 = .ok (.dup, 1) := by decide +kernel
theorem d_D_put_25 : decode b_D_put 25 = .ok (.getfield 13, 3) := by decide +kernel
theorem d_D_put_28 : decode b_D_put 28 = .ok (.iconst 1, 1) := by decide +kernel
theorem d_D_put_29 : decode b_D_put 29 = .ok (.iadd, 1) := by decide +kernel
theorem d_D_put_30 : decode b_D_put 30 = .ok (.putfield 13, 3) := by decide +kernel
theorem d_D_put_33 : decode b_D_put 33 = .ok (.iload_n 1, 1) := by decide +kernel
theorem d_D_put_34 : decode b_D_put 34 = .ok (.bipush 32, 2) := by decide +kernel
theorem d_D_put_36 : decode b_D_put 36 = .ok (.if_icmp .eq 23, 3) := by decide +kernel
theorem d_D_put_39 : decode b_D_put 39 = .ok (.aload_n 0, 1) := by decide +kernel
theorem d_D_put_40 : decode b_D_put 40 = .ok (.getfield 9, 3) := by decide +kernel
theorem d_D_put_43 : decode b_D_put 43 = .ok (.aload_n 0, 1) := by decide +kernel
theorem d_D_put_44 : decode b_D_put 44 = .ok (.getfield 17, 3) := by decide +kernel
theorem d_D_put_47 : decode b_D_put 47 = .ok (.iload_n 1, 1) := by decide +kernel
theorem d_D_put_48 : decode b_D_put 48 = .ok (.castore, 1) := by decide +kernel
theorem d_D_put_49 : decode b_D_put 49 = .ok (.aload_n 0, 1) := by decide +kernel
theorem d_D_put_50 : decode b_D_put 50 = .ok (.dup, 1) := by decide +kernel
theorem d_D_put_51 : decode b_D_put 51 = .ok (.getfield 17, 3) := by decide +kernel
theorem d_D_put_54 : decode b_D_put 54 = .ok (.iconst 1, 1) := by decide +kernel
theorem d_D_put_55 : decode b_D_put 55 = .ok (.iadd, 1) := by decide +kernel
theorem d_D_put_56 : decode b_D_put 56 = .ok (.putfield 17, 3) := by decide +kernel
theorem d_D_put_59 : decode b_D_put 59 = .ok (.iconst 1, 1) := by decide +kernel
theorem d_D_put_60 : decode b_D_put 60 = .ok (.ireturn, 1) := by decide +kernel
theorem d_F_forget_0 : decode b_F_forget 0 = .ok (.aload_n 0, 1) := by decide +kernel
theorem d_F_forget_1 : decode b_F_forget 1 = .ok (.getfield 19, 3) := by decide +kernel
theorem d_F_forget_4 : decode b_F_forget 4 = .ok (.iload_n 1, 1) := by decide +kernel
theorem d_F_forget_5 : decode b_F_forget 5 = .ok (.invokevirtual 61, 3) := by decide +kernel
theorem d_F_forget_8 : decode b_F_forget 8 = .ok (.ireturn, 1) := by decide +kernel
theorem d_B_drop_0 : decode b_B_drop 0 = .ok (.aload_n 0, 1) := by decide +kernel
theorem d_B_drop_1 : decode b_B_drop 1 = .ok (.getfield 16, 3) := by decide +kernel
theorem d_B_drop_4 : decode b_B_drop 4 = .ok (.istore_n 2, 1) := by decide +kernel
theorem d_B_drop_5 : decode b_B_drop 5 = .ok (.iconst 0, 1) := by decide +kernel
theorem d_B_drop_6 : decode b_B_drop 6 = .ok (.istore_n 3, 1) := by decide +kernel
theorem d_B_drop_7 : decode b_B_drop 7 = .ok (.iconst 0, 1) := by decide +kernel
theorem d_B_drop_8 : decode b_B_drop 8 = .ok (.istore 4, 2) := by decide +kernel
theorem d_B_drop_10 : decode b_B_drop 10 = .ok (.iload 4, 2) := by decide +kernel
theorem d_B_drop_12 : decode b_B_drop 12 = .ok (.iload_n 2, 1) := by decide +kernel
theorem d_B_drop_13 : decode b_B_drop 13 = .ok (.if_icmp .ge 51, 3) := by decide +kernel
theorem d_B_drop_16 : decode b_B_drop 16 = .ok (.aload_n 0, 1) := by decide +kernel
theorem d_B_drop_17 : decode b_B_drop 17 = .ok (.getfield 11, 3) := by decide +kernel
theorem d_B_drop_20 : decode b_B_drop 20 = .ok (.iload 4, 2) := by decide +kernel
theorem d_B_drop_22 : decode b_B_drop 22 = .ok (.aaload, 1) := by decide +kernel
theorem d_B_drop_23 : decode b_B_drop 23 = .ok (.astore 5, 2) := by decide +kernel
theorem d_B_drop_25 : decode b_B_drop 25 = .ok (.aload 5, 2) := by decide +kernel
theorem d_B_drop_27 : decode b_B_drop 27 = .ok (.invokevirtual 24, 3) := by decide +kernel
theorem d_B_drop_30 : decode b_B_drop 30 = .ok (.iload_n 1, 1) := by decide +kernel
theorem d_B_drop_31 : decode b_B_drop 31 = .ok (.if_icmp .eq 27, 3) := by decide +kernel
theorem d_B_drop_34 : decode b_B_drop 34 = .ok (.aload_n 0, 1) := by decide +kernel
theorem d_B_drop_35 : decode b_B_drop 35 = .ok (.getfield 11, 3) := by decide +kernel
theorem d_B_drop_38 : decode b_B_drop 38 = .ok (.iload 4, 2) := by decide +kernel
theorem d_B_drop_40 : decode b_B_drop 40 = .ok (.aload_n 0, 1) := by decide +kernel
theorem d_B_drop_41 : decode b_B_drop 41 = .ok (.getfield 11, 3) := by decide +kernel
theorem d_B_drop_44 : decode b_B_drop 44 = .ok (.iload_n 3, 1) := by decide +kernel
theorem d_B_drop_45 : decode b_B_drop 45 = .ok (.aaload, 1) := by decide +kernel
theorem d_B_drop_46 : decode b_B_drop 46 = .ok (.aastore, 1) := by decide +kernel
theorem d_B_drop_47 : decode b_B_drop 47 = .ok (.aload_n 0, 1) := by decide +kernel
theorem d_B_drop_48 : decode b_B_drop 48 = .ok (.getfield 11, 3) := by decide +kernel
theorem d_B_drop_51 : decode b_B_drop 51 = .ok (.iload_n 3, 1) := by decide +kernel
theorem d_B_drop_52 : decode b_B_drop 52 = .ok (.aload 5, 2) := by decide +kernel
theorem d_B_drop_54 : decode b_B_drop 54 = .ok (.aastore, 1) := by decide +kernel
theorem d_B_drop_55 : decode b_B_drop 55 = .ok (.iinc 3 1, 3) := by decide +kernel
theorem d_B_drop_58 : decode b_B_drop 58 = .ok (.iinc 4 1, 3) := by decide +kernel
theorem d_B_drop_61 : decode b_B_drop 61 = .ok (.goto (-51), 3) := by decide +kernel
theorem d_B_drop_64 : decode b_B_drop 64 = .ok (.aload_n 0, 1) := by decide +kernel
theorem d_B_drop_65 : decode b_B_drop 65 = .ok (.iload_n 3, 1) := by decide +kernel
theorem d_B_drop_66 : decode b_B_drop 66 = .ok (.putfield 16, 3) := by decide +kernel
theorem d_B_drop_69 : decode b_B_drop 69 = .ok (.iload_n 2, 1) := by decide +kernel
theorem d_B_drop_70 : decode b_B_drop 70 = .ok (.iload_n 3, 1) := by decide +kernel
theorem d_B_drop_71 : decode b_B_drop 71 = .ok (.isub, 1) := by decide +kernel
theorem d_B_drop_72 : decode b_B_drop 72 = .ok (.ireturn, 1) := by decide +kernel
theorem d_R_macro_0 : decode b_R_macro 0 = .ok (.aload_n 0, 1) := by decide +kernel
theorem d_R_macro_1 : decode b_R_macro 1 = .ok (.getfield 16, 3) := by decide +kernel
theorem d_R_macro_4 : decode b_R_macro 4 = .ok (.iconst 1, 1) := by decide +kernel
theorem d_R_macro_5 : decode b_R_macro 5 = .ok (.invokevirtual 30, 3) := by decide +kernel
theorem d_R_macro_8 : decode b_R_macro 8 = .ok (.ireturn, 1) := by decide +kernel
theorem d_T_sign_0 : decode b_T_sign 0 = .ok (.aload_n 0, 1) := by decide +kernel
theorem d_T_sign_1 : decode b_T_sign 1 = .ok (.getfield 15, 3) := by decide +kernel
theorem d_T_sign_4 : decode b_T_sign 4 = .ok (.iload_n 1, 1) := by decide +kernel
theorem d_T_sign_5 : decode b_T_sign 5 = .ok (.caload, 1) := by decide +kernel
theorem d_T_sign_6 : decode b_T_sign 6 = .ok (.ireturn, 1) := by decide +kernel
theorem d_F_rules_0 : decode b_F_rules 0 = .ok (.aload_n 0, 1) := by decide +kernel
theorem d_F_rules_1 : decode b_F_rules 1 = .ok (.getfield 19, 3) := by decide +kernel
theorem d_F_rules_4 : decode b_F_rules 4 = .ok (.invokevirtual 65, 3) := by decide +kernel
theorem d_F_rules_7 : decode b_F_rules 7 = .ok (.ireturn, 1) := by decide +kernel
theorem d_B_size_0 : decode b_B_size 0 = .ok (.aload_n 0, 1) := by decide +kernel
theorem d_B_size_1 : decode b_B_size 1 = .ok (.getfield 16, 3) := by decide +kernel
theorem d_B_size_4 : decode b_B_size 4 = .ok (.ireturn, 1) := by decide +kernel
theorem d_F_replaced_0 : decode b_F_replaced 0 = .ok (.aload_n 0, 1) := by decide +kernel
theorem d_F_replaced_1 : decode b_F_replaced 1 = .ok (.getfield 26, 3) := by decide +kernel
theorem d_F_replaced_4 : decode b_F_replaced 4 = .ok (.invokevirtual 75, 3) := by decide +kernel
theorem d_F_replaced_7 : decode b_F_replaced 7 = .ok (.ireturn, 1) := by decide +kernel
theorem d_E_made_0 : decode b_E_made 0 = .ok (.aload_n 0, 1) := by decide +kernel
theorem d_E_made_1 : decode b_E_made 1 = .ok (.getfield 42, 3) := by decide +kernel
theorem d_E_made_4 : decode b_E_made 4 = .ok (.ireturn, 1) := by decide +kernel
theorem d_F_mark_0 : decode b_F_mark 0 = .ok (.aload_n 0, 1) := by decide +kernel
theorem d_F_mark_1 : decode b_F_mark 1 = .ok (.getfield 26, 3) := by decide +kernel
theorem d_F_mark_4 : decode b_F_mark 4 = .ok (.invokevirtual 78, 3) := by decide +kernel
theorem d_F_mark_7 : decode b_F_mark 7 = .ok (.iload_n 1, 1) := by decide +kernel
theorem d_F_mark_8 : decode b_F_mark 8 = .ok (.invokevirtual 82, 3) := by decide +kernel
theorem d_F_mark_11 : decode b_F_mark 11 = .ok (.ireturn, 1) := by decide +kernel
theorem d_E_result_0 : decode b_E_result 0 = .ok (.aload_n 0, 1) := by decide +kernel
theorem d_E_result_1 : decode b_E_result 1 = .ok (.getfield 30, 3) := by decide +kernel
theorem d_E_result_4 : decode b_E_result 4 = .ok (.areturn, 1) := by decide +kernel
theorem d_S_at_0 : decode b_S_at 0 = .ok (.iload_n 1, 1) := by decide +kernel
theorem d_S_at_1 : decode b_S_at 1 = .ok (.ifCond .lt 20, 3) := by decide +kernel
theorem d_S_at_4 : decode b_S_at 4 = .ok (.iload_n 1, 1) := by decide +kernel
theorem d_S_at_5 : decode b_S_at 5 = .ok (.aload_n 0, 1) := by decide +kernel
theorem d_S_at_6 : decode b_S_at 6 = .ok (.getfield 19, 3) := by decide +kernel
theorem d_S_at_9 : decode b_S_at 9 = .ok (.if_icmp .ge 12, 3) := by decide +kernel
theorem d_S_at_12 : decode b_S_at 12 = .ok (.aload_n 0, 1) := by decide +kernel
theorem d_S_at_13 : decode b_S_at 13 = .ok (.getfield 11, 3) := by decide +kernel
theorem d_S_at_16 : decode b_S_at 16 = .ok (.iload_n 1, 1) := by decide +kernel
theorem d_S_at_17 : decode b_S_at 17 = .ok (.iaload, 1) := by decide +kernel
theorem d_S_at_18 : decode b_S_at 18 = .ok (.goto 5, 3) := by decide +kernel
theorem d_S_at_21 : decode b_S_at 21 = .ok (.bipush (-99), 2) := by decide +kernel
theorem d_S_at_23 : decode b_S_at 23 = .ok (.ireturn, 1) := by decide +kernel
theorem d_F_depth_0 : decode b_F_depth 0 = .ok (.aload_n 0, 1) := by decide +kernel
theorem d_F_depth_1 : decode b_F_depth 1 = .ok (.getfield 26, 3) := by decide +kernel
theorem d_F_depth_4 : decode b_F_depth 4 = .ok (.invokevirtual 78, 3) := by decide +kernel
theorem d_F_depth_7 : decode b_F_depth 7 = .ok (.invokevirtual 88, 3) := by decide +kernel
theorem d_F_depth_10 : decode b_F_depth 10 = .ok (.ireturn, 1) := by decide +kernel
theorem d_S_deepest_0 : decode b_S_deepest 0 = .ok (.iconst 0, 1) := by decide +kernel
theorem d_S_deepest_1 : decode b_S_deepest 1 = .ok (.istore_n 1, 1) := by decide +kernel
theorem d_S_deepest_2 : decode b_S_deepest 2 = .ok (.iconst 0, 1) := by decide +kernel
theorem d_S_deepest_3 : decode b_S_deepest 3 = .ok (.istore_n 2, 1) := by decide +kernel
theorem d_S_deepest_4 : decode b_S_deepest 4 = .ok (.iconst 0, 1) := by decide +kernel
theorem d_S_deepest_5 : decode b_S_deepest 5 = .ok (.istore_n 3, 1) := by decide +kernel
theorem d_S_deepest_6 : decode b_S_deepest 6 = .ok (.iload_n 3, 1) := by decide +kernel
theorem d_S_deepest_7 : decode b_S_deepest 7 = .ok (.aload_n 0, 1) := by decide +kernel
theorem d_S_deepest_8 : decode b_S_deepest 8 = .ok (.getfield 19, 3) := by decide +kernel
theorem d_S_deepest_11 : decode b_S_deepest 11 = .ok (.if_icmp .ge 44, 3) := by decide +kernel
theorem d_S_deepest_14 : decode b_S_deepest 14 = .ok (.aload_n 0, 1) := by decide +kernel
theorem d_S_deepest_15 : decode b_S_deepest 15 = .ok (.getfield 11, 3) := by decide +kernel
theorem d_S_deepest_18 : decode b_S_deepest 18 = .ok (.iload_n 3, 1) := by decide +kernel
theorem d_S_deepest_19 : decode b_S_deepest 19 = .ok (.iaload, 1) := by decide +kernel
theorem d_S_deepest_20 : decode b_S_deepest 20 = .ok (.iconst 1, 1) := by decide +kernel
theorem d_S_deepest_21 : decode b_S_deepest 21 = .ok (.if_icmp .ne 15, 3) := by decide +kernel
theorem d_S_deepest_24 : decode b_S_deepest 24 = .ok (.iinc 1 1, 3) := by decide +kernel
theorem d_S_deepest_27 : decode b_S_deepest 27 = .ok (.iload_n 2, 1) := by decide +kernel
theorem d_S_deepest_28 : decode b_S_deepest 28 = .ok (.iload_n 1, 1) := by decide +kernel
theorem d_S_deepest_29 : decode b_S_deepest 29 = .ok (.invokestatic 29, 3) := by decide +kernel
theorem d_S_deepest_32 : decode b_S_deepest 32 = .ok (.istore_n 2, 1) := by decide +kernel
theorem d_S_deepest_33 : decode b_S_deepest 33 = .ok (.goto 16, 3) := by decide +kernel
theorem d_S_deepest_36 : decode b_S_deepest 36 = .ok (.aload_n 0, 1) := by decide +kernel
theorem d_S_deepest_37 : decode b_S_deepest 37 = .ok (.getfield 11, 3) := by decide +kernel
theorem d_S_deepest_40 : decode b_S_deepest 40 = .ok (.iload_n 3, 1) := by decide +kernel
theorem d_S_deepest_41 : decode b_S_deepest 41 = .ok (.iaload, 1) := by decide +kernel
theorem d_S_deepest_42 : decode b_S_deepest 42 = .ok (.iconst 2, 1) := by decide +kernel
theorem d_S_deepest_43 : decode b_S_deepest 43 = .ok (.if_icmp .ne 6, 3) := by decide +kernel
theorem d_S_deepest_46 : decode b_S_deepest 46 = .ok (.iinc 1 (-1), 3) := by decide +kernel
theorem d_S_deepest_49 : decode b_S_deepest 49 = .ok (.iinc 3 1, 3) := by decide +kernel
theorem d_S_deepest_52 : decode b_S_deepest 52 = .ok (.goto (-46), 3) := by decide +kernel
theorem d_S_deepest_55 : decode b_S_deepest 55 = .ok (.iload_n 2, 1) := by decide +kernel
theorem d_S_deepest_56 : decode b_S_deepest 56 = .ok (.ireturn, 1) := by decide +kernel
theorem d_L_rule_0 : decode b_L_rule 0 = .ok (.aload_n 1, 1) := by decide +kernel
theorem d_L_rule_1 : decode b_L_rule 1 = .ok (.iconst 0, 1) := by decide +kernel
theorem d_L_rule_2 : decode b_L_rule 2 = .ok (.aload_n 0, 1) := by decide +kernel
theorem d_L_rule_3 : decode b_L_rule 3 = .ok (.invokevirtual 7, 3) := by decide +kernel
theorem d_L_rule_6 : decode b_L_rule 6 = .ok (.i2l, 1) := by decide +kernel
theorem d_L_rule_7 : decode b_L_rule 7 = .ok (.lastore, 1) := by decide +kernel
theorem d_L_rule_8 : decode b_L_rule 8 = .ok (.goto 9, 3) := by decide +kernel
theorem d_L_rule_11 : decode b_L_rule 11 = .ok (.astore_n 2, 1) := by decide +kernel
theorem d_L_rule_12 : decode b_L_rule 12 = .ok (.iconst 1, 1) := by decide +kernel
theorem d_L_rule_13 : decode b_L_rule 13 = .ok (.ireturn, 1) := by decide +kernel
theorem d_L_rule_14 : decode b_L_rule 14 = .ok (.astore_n 2, 1) := by decide +kernel
theorem d_L_rule_15 : decode b_L_rule 15 = .ok (.iconst 2, 1) := by decide +kernel
theorem d_L_rule_16 : decode b_L_rule 16 = .ok (.ireturn, 1) := by decide +kernel
theorem d_L_rule_17 : decode b_L_rule 17 = .ok (.iconst 0, 1) := by decide +kernel
theorem d_L_rule_18 : decode b_L_rule 18 = .ok (.ireturn, 1) := by decide +kernel
theorem d_F_rule_0 : decode b_F_rule 0 = .ok (.aload_n 0, 1) := by decide +kernel
theorem d_F_rule_1 : decode b_F_rule 1 = .ok (.getfield 19, 3) := by decide +kernel
theorem d_F_rule_4 : decode b_F_rule 4 = .ok (.aload_n 0, 1) := by decide +kernel
theorem d_F_rule_5 : decode b_F_rule 5 = .ok (.getfield 10, 3) := by decide +kernel
theorem d_F_rule_8 : decode b_F_rule 8 = .ok (.invokevirtual 34, 3) := by decide +kernel
theorem d_F_rule_11 : decode b_F_rule 11 = .ok (.istore_n 1, 1) := by decide +kernel
theorem d_F_rule_12 : decode b_F_rule 12 = .ok (.aload_n 0, 1) := by decide +kernel
theorem d_F_rule_13 : decode b_F_rule 13 = .ok (.getfield 10, 3) := by decide +kernel
theorem d_F_rule_16 : decode b_F_rule 16 = .ok (.invokevirtual 38, 3) := by decide +kernel
theorem d_F_rule_19 : decode b_F_rule 19 = .ok (.iload_n 1, 1) := by decide +kernel
theorem d_F_rule_20 : decode b_F_rule 20 = .ok (.ifCond .ne 13, 3) := by decide +kernel
theorem d_F_rule_23 : decode b_F_rule 23 = .ok (.new 41, 3) := by decide +kernel
theorem d_F_rule_26 : decode b_F_rule 26 = .ok (.dup, 1) := by decide +kernel
theorem d_F_rule_27 : decode b_F_rule 27 = .ok (.ldc 43, 2) := by decide +kernel
theorem d_F_rule_29 : decode b_F_rule 29 = .ok (.invokespecial 45, 3) := by decide +kernel
theorem d_F_rule_32 : decode b_F_rule 32 = .ok (.athrow, 1) := by decide +kernel
theorem d_F_rule_33 : decode b_F_rule 33 = .ok (.aload_n 0, 1) := by decide +kernel
theorem d_F_rule_34 : decode b_F_rule 34 = .ok (.getfield 19, 3) := by decide +kernel
theorem d_F_rule_37 : decode b_F_rule 37 = .ok (.invokevirtual 48, 3) := by decide +kernel
theorem d_F_rule_40 : decode b_F_rule 40 = .ok (.ifCond .eq 13, 3) := by decide +kernel
theorem d_F_rule_43 : decode b_F_rule 43 = .ok (.new 52, 3) := by decide +kernel
theorem d_F_rule_46 : decode b_F_rule 46 = .ok (.dup, 1) := by decide +kernel
theorem d_F_rule_47 : decode b_F_rule 47 = .ok (.ldc 54, 2) := by decide +kernel
theorem d_F_rule_49 : decode b_F_rule 49 = .ok (.invokespecial 56, 3) := by decide +kernel
theorem d_F_rule_52 : decode b_F_rule 52 = .ok (.athrow, 1) := by decide +kernel
theorem d_F_rule_53 : decode b_F_rule 53 = .ok (.aload_n 0, 1) := by decide +kernel
theorem d_F_rule_54 : decode b_F_rule 54 = .ok (.getfield 19, 3) := by decide +kernel
theorem d_F_rule_57 : decode b_F_rule 57 = .ok (.invokevirtual 57, 3) := by decide +kernel
theorem d_F_rule_60 : decode b_F_rule 60 = .ok (.ireturn, 1) := by decide +kernel
theorem d_B_read_0 : decode b_B_read 0 = .ok (.aload_n 0, 1) := by decide +kernel
theorem d_B_read_1 : decode b_B_read 1 = .ok (.getfield 11, 3) := by decide +kernel
theorem d_B_read_4 : decode b_B_read 4 = .ok (.aload_n 0, 1) := by decide +kernel
theorem d_B_read_5 : decode b_B_read 5 = .ok (.getfield 16, 3) := by decide +kernel
theorem d_B_read_8 : decode b_B_read 8 = .ok (.aaload, 1) := by decide +kernel
theorem d_B_read_9 : decode b_B_read 9 = .ok (.aload_n 1, 1) := by decide +kernel
theorem d_B_read_10 : decode b_B_read 10 = .ok (.invokevirtual 20, 3) := by decide +kernel
theorem d_B_read_13 : decode b_B_read 13 = .ok (.ireturn, 1) := by decide +kernel
theorem d_R_read_0 : decode b_R_read 0 = .ok (.aload_n 1, 1) := by decide +kernel
theorem d_R_read_1 : decode b_R_read 1 = .ok (.bipush 61, 2) := by decide +kernel
theorem d_R_read_3 : decode b_R_read 3 = .ok (.invokevirtual 38, 3) := by decide +kernel
theorem d_R_read_6 : decode b_R_read 6 = .ok (.istore_n 2, 1) := by decide +kernel
theorem d_R_read_7 : decode b_R_read 7 = .ok (.aload_n 0, 1) := by decide +kernel
theorem d_R_read_8 : decode b_R_read 8 = .ok (.getfield 16, 3) := by decide +kernel
theorem d_R_read_11 : decode b_R_read 11 = .ok (.invokevirtual 42, 3) := by decide +kernel
theorem d_R_read_14 : decode b_R_read 14 = .ok (.aload_n 1, 1) := by decide +kernel
theorem d_R_read_15 : decode b_R_read 15 = .ok (.invokestatic 45, 3) := by decide +kernel
theorem d_R_read_18 : decode b_R_read 18 = .ok (.ifCond .eq 32, 3) := by decide +kernel
theorem d_R_read_21 : decode b_R_read 21 = .ok (.aload_n 1, 1) := by decide +kernel
theorem d_R_read_22 : decode b_R_read 22 = .ok (.iload_n 2, 1) := by decide +kernel
theorem d_R_read_23 : decode b_R_read 23 = .ok (.invokestatic 49, 3) := by decide +kernel
theorem d_R_read_26 : decode b_R_read 26 = .ok (.ifCond .eq 24, 3) := by decide +kernel
theorem d_R_read_29 : decode b_R_read 29 = .ok (.aload_n 0, 1) := by decide +kernel
theorem d_R_read_30 : decode b_R_read 30 = .ok (.getfield 16, 3) := by decide +kernel
theorem d_R_read_33 : decode b_R_read 33 = .ok (.aload_n 1, 1) := by decide +kernel
theorem d_R_read_34 : decode b_R_read 34 = .ok (.iconst 0, 1) := by decide +kernel
theorem d_R_read_35 : decode b_R_read 35 = .ok (.iload_n 2, 1) := by decide +kernel
theorem d_R_read_36 : decode b_R_read 36 = .ok (.iconst 1, 1) := by decide +kernel
theorem d_R_read_37 : decode b_R_read 37 = .ok (.invokevirtual 53, 3) := by decide +kernel
theorem d_R_read_40 : decode b_R_read 40 = .ok (.ifCond .eq 10, 3) := by decide +kernel
theorem d_R_read_43 : decode b_R_read 43 = .ok (.aload_n 0, 1) := by decide +kernel
theorem d_R_read_44 : decode b_R_read 44 = .ok (.invokevirtual 57, 3) := by decide +kernel
theorem d_R_read_47 : decode b_R_read 47 = .ok (.ifCond .ne 5, 3) := by decide +kernel
theorem d_R_read_50 : decode b_R_read 50 = .ok (.iconst 0, 1) := by decide +kernel
theorem d_R_read_51 : decode b_R_read 51 = .ok (.ireturn, 1) := by decide +kernel
theorem d_R_read_52 : decode b_R_read 52 = .ok (.aload_n 0, 1) := by decide +kernel
theorem d_R_read_53 : decode b_R_read 53 = .ok (.aload_n 0, 1) := by decide +kernel
theorem d_R_read_54 : decode b_R_read 54 = .ok (.getfield 16, 3) := by decide +kernel
theorem d_R_read_57 : decode b_R_read 57 = .ok (.invokevirtual 61, 3) := by decide +kernel
theorem d_R_read_60 : decode b_R_read 60 = .ok (.putfield 26, 3) := by decide +kernel
theorem d_R_read_63 : decode b_R_read 63 = .ok (.aload_n 0, 1) := by decide +kernel
theorem d_R_read_64 : decode b_R_read 64 = .ok (.getfield 16, 3) := by decide +kernel
theorem d_R_read_67 : decode b_R_read 67 = .ok (.aload_n 1, 1) := by decide +kernel
theorem d_R_read_68 : decode b_R_read 68 = .ok (.iload_n 2, 1) := by decide +kernel
theorem d_R_read_69 : decode b_R_read 69 = .ok (.iconst 1, 1) := by decide +kernel
theorem d_R_read_70 : decode b_R_read 70 = .ok (.iadd, 1) := by decide +kernel
theorem d_R_read_71 : decode b_R_read 71 = .ok (.aload_n 1, 1) := by decide +kernel
theorem d_R_read_72 : decode b_R_read 72 = .ok (.invokevirtual 65, 3) := by decide +kernel
theorem d_R_read_75 : decode b_R_read 75 = .ok (.iconst 2, 1) := by decide +kernel
theorem d_R_read_76 : decode b_R_read 76 = .ok (.invokevirtual 53, 3) := by decide +kernel
theorem d_R_read_79 : decode b_R_read 79 = .ok (.ifCond .eq 14, 3) := by decide +kernel
theorem d_R_read_82 : decode b_R_read 82 = .ok (.aload_n 0, 1) := by decide +kernel
theorem d_R_read_83 : decode b_R_read 83 = .ok (.invokevirtual 68, 3) := by decide +kernel
theorem d_R_read_86 : decode b_R_read 86 = .ok (.ifCond .eq 7, 3) := by decide +kernel
theorem d_R_read_89 : decode b_R_read 89 = .ok (.iconst 1, 1) := by decide +kernel
theorem d_R_read_90 : decode b_R_read 90 = .ok (.goto 4, 3) := by decide +kernel
theorem d_R_read_93 : decode b_R_read 93 = .ok (.iconst 0, 1) := by decide +kernel
theorem d_R_read_94 : decode b_R_read 94 = .ok (.ireturn, 1) := by decide +kernel
theorem d_D_find_0 : decode b_D_find 0 = .ok (.iconst 0, 1) := by decide +kernel
theorem d_D_find_1 : decode b_D_find 1 = .ok (.istore_n 2, 1) := by decide +kernel
theorem d_D_find_2 : decode b_D_find 2 = .ok (.iload_n 2, 1) := by decide +kernel
theorem d_D_find_3 : decode b_D_find 3 = .ok (.aload_n 0, 1) := by decide +kernel
theorem d_D_find_4 : decode b_D_find 4 = .ok (.getfield 17, 3) := by decide +kernel
theorem d_D_find_7 : decode b_D_find 7 = .ok (.if_icmp .ge 21, 3) := by decide +kernel
theorem d_D_find_10 : decode b_D_find 10 = .ok (.aload_n 0, 1) := by decide +kernel
theorem d_D_find_11 : decode b_D_find 11 = .ok (.getfield 9, 3) := by decide +kernel
theorem d_D_find_14 : decode b_D_find 14 = .ok (.iload_n 2, 1) := by decide +kernel
theorem d_D_find_15 : decode b_D_find 15 = .ok (.caload, 1) := by decide +kernel
theorem d_D_find_16 : decode b_D_find 16 = .ok (.iload_n 1, 1) := by decide +kernel
theorem d_D_find_17 : decode b_D_find 17 = .ok (.if_icmp .ne 5, 3) := by decide +kernel
theorem d_D_find_20 : decode b_D_find 20 = .ok (.iload_n 2, 1) := by decide +kernel
theorem d_D_find_21 : decode b_D_find 21 = .ok (.ireturn, 1) := by decide +kernel
theorem d_D_find_22 : decode b_D_find 22 = .ok (.iinc 2 1, 3) := by decide +kernel
theorem d_D_find_25 : decode b_D_find 25 = .ok (.goto (-23), 3) := by decide +kernel
theorem d_D_find_28 : decode b_D_find 28 = .ok (.aload_n 0, 1) := by decide +kernel
theorem d_D_find_29 : decode b_D_find 29 = .ok (.getfield 17, 3) := by decide +kernel
theorem d_D_find_32 : decode b_D_find 32 = .ok (.ireturn, 1) := by decide +kernel
theorem d_T_clear_0 : decode b_T_clear 0 = .ok (.aload_n 0, 1) := by decide +kernel
theorem d_T_clear_1 : decode b_T_clear 1 = .ok (.iconst 0, 1) := by decide +kernel
theorem d_T_clear_2 : decode b_T_clear 2 = .ok (.putfield 32, 3) := by decide +kernel
theorem d_T_clear_5 : decode b_T_clear 5 = .ok (.return_, 1) := by decide +kernel
theorem d_R_hasMacro_0 : decode b_R_hasMacro 0 = .ok (.aload_n 0, 1) := by decide +kernel
theorem d_R_hasMacro_1 : decode b_R_hasMacro 1 = .ok (.iconst 0, 1) := by decide +kernel
theorem d_R_hasMacro_2 : decode b_R_hasMacro 2 = .ok (.invokevirtual 71, 3) := by decide +kernel
theorem d_R_hasMacro_5 : decode b_R_hasMacro 5 = .ok (.bipush 40, 2) := by decide +kernel
theorem d_R_hasMacro_7 : decode b_R_hasMacro 7 = .ok (.if_icmp .ne 28, 3) := by decide +kernel
theorem d_R_hasMacro_10 : decode b_R_hasMacro 10 = .ok (.aload_n 0, 1) := by decide +kernel
theorem d_R_hasMacro_11 : decode b_R_hasMacro 11 = .ok (.iconst 1, 1) := by decide +kernel
theorem d_R_hasMacro_12 : decode b_R_hasMacro 12 = .ok (.invokevirtual 71, 3) := by decide +kernel
theorem d_R_hasMacro_15 : decode b_R_hasMacro 15 = .ok (.invokestatic 34, 3) := by decide +kernel
theorem d_R_hasMacro_18 : decode b_R_hasMacro 18 = .ok (.ifCond .eq 17, 3) := by decide +kernel
theorem d_R_hasMacro_21 : decode b_R_hasMacro 21 = .ok (.aload_n 0, 1) := by decide +kernel
theorem d_R_hasMacro_22 : decode b_R_hasMacro 22 = .ok (.iconst 2, 1) := by decide +kernel
theorem d_R_hasMacro_23 : decode b_R_hasMacro 23 = .ok (.invokevirtual 71, 3) := by decide +kernel
theorem d_R_hasMacro_26 : decode b_R_hasMacro 26 = .ok (.bipush 126, 2) := by decide +kernel
theorem d_R_hasMacro_28 : decode b_R_hasMacro 28 = .ok (.if_icmp .eq 7, 3) := by decide +kernel
theorem d_R_hasMacro_31 : decode b_R_hasMacro 31 = .ok (.iconst 1, 1) := by decide +kernel
theorem d_R_hasMacro_32 : decode b_R_hasMacro 32 = .ok (.goto 4, 3) := by decide +kernel
theorem d_R_hasMacro_35 : decode b_R_hasMacro 35 = .ok (.iconst 0, 1) := by decide +kernel
theorem d_R_hasMacro_36 : decode b_R_hasMacro 36 = .ok (.ireturn, 1) := by decide +kernel
theorem d_D_at_0 : decode b_D_at 0 = .ok (.iload_n 1, 1) := by decide +kernel
theorem d_D_at_1 : decode b_D_at 1 = .ok (.ifCond .lt 20, 3) := by decide +kernel
theorem d_D_at_4 : decode b_D_at 4 = .ok (.iload_n 1, 1) := by decide +kernel
theorem d_D_at_5 : decode b_D_at 5 = .ok (.aload_n 0, 1) := by decide +kernel
theorem d_D_at_6 : decode b_D_at 6 = .ok (.getfield 17, 3) := by decide +kernel
theorem d_D_at_9 : decode b_D_at 9 = .ok (.if_icmp .ge 12, 3) := by decide +kernel
theorem d_D_at_12 : decode b_D_at 12 = .ok (.aload_n 0, 1) := by decide +kernel
theorem d_D_at_13 : decode b_D_at 13 = .ok (.getfield 9, 3) := by decide +kernel
theorem d_D_at_16 : decode b_D_at 16 = .ok (.iload_n 1, 1) := by decide +kernel
theorem d_D_at_17 : decode b_D_at 17 = .ok (.caload, 1) := by decide +kernel
theorem d_D_at_18 : decode b_D_at 18 = .ok (.goto 5, 3) := by decide +kernel
theorem d_D_at_21 : decode b_D_at 21 = .ok (.bipush 32, 2) := by decide +kernel
theorem d_D_at_23 : decode b_D_at 23 = .ok (.ireturn, 1) := by decide +kernel
theorem d_F_isName_0 : decode b_F_isName 0 = .ok (.iload_n 0, 1) := by decide +kernel
theorem d_F_isName_1 : decode b_F_isName 1 = .ok (.bipush 97, 2) := by decide +kernel
theorem d_F_isName_3 : decode b_F_isName 3 = .ok (.if_icmp .lt 13, 3) := by decide +kernel
theorem d_F_isName_6 : decode b_F_isName 6 = .ok (.iload_n 0, 1) := by decide +kernel
theorem d_F_isName_7 : decode b_F_isName 7 = .ok (.bipush 122, 2) := by decide +kernel
theorem d_F_isName_9 : decode b_F_isName 9 = .ok (.if_icmp .gt 7, 3) := by decide +kernel
theorem d_F_isName_12 : decode b_F_isName 12 = .ok (.iconst 1, 1) := by decide +kernel
theorem d_F_isName_13 : decode b_F_isName 13 = .ok (.goto 4, 3) := by decide +kernel
theorem d_F_isName_16 : decode b_F_isName 16 = .ok (.iconst 0, 1) := by decide +kernel
theorem d_F_isName_17 : decode b_F_isName 17 = .ok (.ireturn, 1) := by decide +kernel
theorem d_T_read_0 : decode b_T_read 0 = .ok (.aload_n 0, 1) := by decide +kernel
theorem d_T_read_1 : decode b_T_read 1 = .ok (.bipush 8, 2) := by decide +kernel
theorem d_T_read_3 : decode b_T_read 3 = .ok (.invokevirtual 48, 3) := by decide +kernel
theorem d_T_read_6 : decode b_T_read 6 = .ok (.pop, 1) := by decide +kernel
theorem d_T_read_7 : decode b_T_read 7 = .ok (.iload_n 2, 1) := by decide +kernel
theorem d_T_read_8 : decode b_T_read 8 = .ok (.istore 5, 2) := by decide +kernel
theorem d_T_read_10 : decode b_T_read 10 = .ok (.iload 5, 2) := by decide +kernel
theorem d_T_read_12 : decode b_T_read 12 = .ok (.iload_n 3, 1) := by decide +kernel
theorem d_T_read_13 : decode b_T_read 13 = .ok (.if_icmp .ge 26, 3) := by decide +kernel
theorem d_T_read_16 : decode b_T_read 16 = .ok (.aload_n 0, 1) := by decide +kernel
theorem d_T_read_17 : decode b_T_read 17 = .ok (.aload_n 1, 1) := by decide +kernel
theorem d_T_read_18 : decode b_T_read 18 = .ok (.iload 5, 2) := by decide +kernel
theorem d_T_read_20 : decode b_T_read 20 = .ok (.invokevirtual 52, 3) := by decide +kernel
theorem d_T_read_23 : decode b_T_read 23 = .ok (.iload 4, 2) := by decide +kernel
theorem d_T_read_25 : decode b_T_read 25 = .ok (.invokevirtual 58, 3) := by decide +kernel
theorem d_T_read_28 : decode b_T_read 28 = .ok (.ifCond .ne 5, 3) := by decide +kernel
theorem d_T_read_31 : decode b_T_read 31 = .ok (.iconst 0, 1) := by decide +kernel
theorem d_T_read_32 : decode b_T_read 32 = .ok (.ireturn, 1) := by decide +kernel
theorem d_T_read_33 : decode b_T_read 33 = .ok (.iinc 5 1, 3) := by decide +kernel
theorem d_T_read_36 : decode b_T_read 36 = .ok (.goto (-26), 3) := by decide +kernel
theorem d_T_read_39 : decode b_T_read 39 = .ok (.aload_n 0, 1) := by decide +kernel
theorem d_T_read_40 : decode b_T_read 40 = .ok (.getfield 39, 3) := by decide +kernel
theorem d_T_read_43 : decode b_T_read 43 = .ok (.ifCond .ne 18, 3) := by decide +kernel
theorem d_T_read_46 : decode b_T_read 46 = .ok (.aload_n 0, 1) := by decide +kernel
theorem d_T_read_47 : decode b_T_read 47 = .ok (.getfield 32, 3) := by decide +kernel
theorem d_T_read_50 : decode b_T_read 50 = .ok (.aload_n 0, 1) := by decide +kernel
theorem d_T_read_51 : decode b_T_read 51 = .ok (.getfield 36, 3) := by decide +kernel
theorem d_T_read_54 : decode b_T_read 54 = .ok (.if_icmp .le 7, 3) := by decide +kernel
theorem d_T_read_57 : decode b_T_read 57 = .ok (.iconst 1, 1) := by decide +kernel
theorem d_T_read_58 : decode b_T_read 58 = .ok (.goto 4, 3) := by decide +kernel
theorem d_T_read_61 : decode b_T_read 61 = .ok (.iconst 0, 1) := by decide +kernel
theorem d_T_read_62 : decode b_T_read 62 = .ok (.ireturn, 1) := by decide +kernel
theorem d_T_begin_0 : decode b_T_begin 0 = .ok (.aload_n 0, 1) := by decide +kernel
theorem d_T_begin_1 : decode b_T_begin 1 = .ok (.aload_n 0, 1) := by decide +kernel
theorem d_T_begin_2 : decode b_T_begin 2 = .ok (.getfield 32, 3) := by decide +kernel
theorem d_T_begin_5 : decode b_T_begin 5 = .ok (.putfield 36, 3) := by decide +kernel
theorem d_T_begin_8 : decode b_T_begin 8 = .ok (.aload_n 0, 1) := by decide +kernel
theorem d_T_begin_9 : decode b_T_begin 9 = .ok (.iconst 0, 1) := by decide +kernel
theorem d_T_begin_10 : decode b_T_begin 10 = .ok (.putfield 39, 3) := by decide +kernel
theorem d_T_begin_13 : decode b_T_begin 13 = .ok (.aload_n 0, 1) := by decide +kernel
theorem d_T_begin_14 : decode b_T_begin 14 = .ok (.iload_n 1, 1) := by decide +kernel
theorem d_T_begin_15 : decode b_T_begin 15 = .ok (.putfield 42, 3) := by decide +kernel
theorem d_T_begin_18 : decode b_T_begin 18 = .ok (.aload_n 0, 1) := by decide +kernel
theorem d_T_begin_19 : decode b_T_begin 19 = .ok (.iconst (-1), 1) := by decide +kernel
theorem d_T_begin_20 : decode b_T_begin 20 = .ok (.putfield 45, 3) := by decide +kernel
theorem d_T_begin_23 : decode b_T_begin 23 = .ok (.aload_n 0, 1) := by decide +kernel
theorem d_T_begin_24 : decode b_T_begin 24 = .ok (.getfield 36, 3) := by decide +kernel
theorem d_T_begin_27 : decode b_T_begin 27 = .ok (.ireturn, 1) := by decide +kernel
theorem d_F_isNumeral_0 : decode b_F_isNumeral 0 = .ok (.iload_n 0, 1) := by decide +kernel
theorem d_F_isNumeral_1 : decode b_F_isNumeral 1 = .ok (.bipush 48, 2) := by decide +kernel
theorem d_F_isNumeral_3 : decode b_F_isNumeral 3 = .ok (.if_icmp .lt 13, 3) := by decide +kernel
theorem d_F_isNumeral_6 : decode b_F_isNumeral 6 = .ok (.iload_n 0, 1) := by decide +kernel
theorem d_F_isNumeral_7 : decode b_F_isNumeral 7 = .ok (.bipush 57, 2) := by decide +kernel
theorem d_F_isNumeral_9 : decode b_F_isNumeral 9 = .ok (.if_icmp .gt 7, 3) := by decide +kernel
theorem d_F_isNumeral_12 : decode b_F_isNumeral 12 = .ok (.iconst 1, 1) := by decide +kernel
theorem d_F_isNumeral_13 : decode b_F_isNumeral 13 = .ok (.goto 4, 3) := by decide +kernel
theorem d_F_isNumeral_16 : decode b_F_isNumeral 16 = .ok (.iconst 0, 1) := by decide +kernel
theorem d_F_isNumeral_17 : decode b_F_isNumeral 17 = .ok (.ireturn, 1) := by decide +kernel
theorem d_F_isKeyword_0 : decode b_F_isKeyword 0 = .ok (.iload_n 0, 1) := by decide +kernel
theorem d_F_isKeyword_1 : decode b_F_isKeyword 1 = .ok (.bipush 76, 2) := by decide +kernel
theorem d_F_isKeyword_3 : decode b_F_isKeyword 3 = .ok (.if_icmp .eq 15, 3) := by decide +kernel
theorem d_F_isKeyword_6 : decode b_F_isKeyword 6 = .ok (.iload_n 0, 1) := by decide +kernel
theorem d_F_isKeyword_7 : decode b_F_isKeyword 7 = .ok (.bipush 73, 2) := by decide +kernel
theorem d_F_isKeyword_9 : decode b_F_isKeyword 9 = .ok (.if_icmp .eq 9, 3) := by decide +kernel
theorem d_F_isKeyword_12 : decode b_F_isKeyword 12 = .ok (.iload_n 0, 1) := by decide +kernel
theorem d_F_isKeyword_13 : decode b_F_isKeyword 13 = .ok (.bipush 81, 2) := by decide +kernel
theorem d_F_isKeyword_15 : decode b_F_isKeyword 15 = .ok (.if_icmp .ne 7, 3) := by decide +kernel
theorem d_F_isKeyword_18 : decode b_F_isKeyword 18 = .ok (.iconst 1, 1) := by decide +kernel
theorem d_F_isKeyword_19 : decode b_F_isKeyword 19 = .ok (.goto 4, 3) := by decide +kernel
theorem d_F_isKeyword_22 : decode b_F_isKeyword 22 = .ok (.iconst 0, 1) := by decide +kernel
theorem d_F_isKeyword_23 : decode b_F_isKeyword 23 = .ok (.ireturn, 1) := by decide +kernel
theorem d_T_size_0 : decode b_T_size 0 = .ok (.aload_n 0, 1) := by decide +kernel
theorem d_T_size_1 : decode b_T_size 1 = .ok (.getfield 32, 3) := by decide +kernel
theorem d_T_size_4 : decode b_T_size 4 = .ok (.ireturn, 1) := by decide +kernel
theorem d_T_isRepeated_0 : decode b_T_isRepeated 0 = .ok (.aload_n 0, 1) := by decide +kernel
theorem d_T_isRepeated_1 : decode b_T_isRepeated 1 = .ok (.getfield 28, 3) := by decide +kernel
theorem d_T_isRepeated_4 : decode b_T_isRepeated 4 = .ok (.iload_n 1, 1) := by decide +kernel
theorem d_T_isRepeated_5 : decode b_T_isRepeated 5 = .ok (.baload, 1) := by decide +kernel
theorem d_T_isRepeated_6 : decode b_T_isRepeated 6 = .ok (.ireturn, 1) := by decide +kernel
theorem d_T_after_0 : decode b_T_after 0 = .ok (.iload_n 1, 1) := by decide +kernel
theorem d_T_after_1 : decode b_T_after 1 = .ok (.aload_n 0, 1) := by decide +kernel
theorem d_T_after_2 : decode b_T_after 2 = .ok (.getfield 22, 3) := by decide +kernel
theorem d_T_after_5 : decode b_T_after 5 = .ok (.iload_n 1, 1) := by decide +kernel
theorem d_T_after_6 : decode b_T_after 6 = .ok (.iaload, 1) := by decide +kernel
theorem d_T_after_7 : decode b_T_after 7 = .ok (.iadd, 1) := by decide +kernel
theorem d_T_after_8 : decode b_T_after 8 = .ok (.ireturn, 1) := by decide +kernel
theorem d_D_length_0 : decode b_D_length 0 = .ok (.aload_n 0, 1) := by decide +kernel
theorem d_D_length_1 : decode b_D_length 1 = .ok (.getfield 17, 3) := by decide +kernel
theorem d_D_length_4 : decode b_D_length 4 = .ok (.ireturn, 1) := by decide +kernel
theorem d_D_clear_0 : decode b_D_clear 0 = .ok (.aload_n 0, 1) := by decide +kernel
theorem d_D_clear_1 : decode b_D_clear 1 = .ok (.iconst 0, 1) := by decide +kernel
theorem d_D_clear_2 : decode b_D_clear 2 = .ok (.putfield 17, 3) := by decide +kernel
theorem d_D_clear_5 : decode b_D_clear 5 = .ok (.aload_n 0, 1) := by decide +kernel
theorem d_D_clear_6 : decode b_D_clear 6 = .ok (.iconst 0, 1) := by decide +kernel
theorem d_D_clear_7 : decode b_D_clear 7 = .ok (.putfield 13, 3) := by decide +kernel
theorem d_D_clear_10 : decode b_D_clear 10 = .ok (.return_, 1) := by decide +kernel
theorem d_B_isFull_0 : decode b_B_isFull 0 = .ok (.aload_n 0, 1) := by decide +kernel
theorem d_B_isFull_1 : decode b_B_isFull 1 = .ok (.getfield 16, 3) := by decide +kernel
theorem d_B_isFull_4 : decode b_B_isFull 4 = .ok (.bipush 12, 2) := by decide +kernel
theorem d_B_isFull_6 : decode b_B_isFull 6 = .ok (.if_icmp .lt 7, 3) := by decide +kernel
theorem d_B_isFull_9 : decode b_B_isFull 9 = .ok (.iconst 1, 1) := by decide +kernel
theorem d_B_isFull_10 : decode b_B_isFull 10 = .ok (.goto 4, 3) := by decide +kernel
theorem d_B_isFull_13 : decode b_B_isFull 13 = .ok (.iconst 0, 1) := by decide +kernel
theorem d_B_isFull_14 : decode b_B_isFull 14 = .ok (.ireturn, 1) := by decide +kernel
theorem d_L_expand_0 : decode b_L_expand 0 = .ok (.aload_n 2, 1) := by decide +kernel
theorem d_L_expand_1 : decode b_L_expand 1 = .ok (.iconst 0, 1) := by decide +kernel
theorem d_L_expand_2 : decode b_L_expand 2 = .ok (.aload_n 0, 1) := by decide +kernel
theorem d_L_expand_3 : decode b_L_expand 3 = .ok (.iload_n 1, 1) := by decide +kernel
theorem d_L_expand_4 : decode b_L_expand 4 = .ok (.invokevirtual 17, 3) := by decide +kernel
theorem d_L_expand_7 : decode b_L_expand 7 = .ok (.i2l, 1) := by decide +kernel
theorem d_L_expand_8 : decode b_L_expand 8 = .ok (.lastore, 1) := by decide +kernel
theorem d_L_expand_9 : decode b_L_expand 9 = .ok (.goto 12, 3) := by decide +kernel
theorem d_L_expand_12 : decode b_L_expand 12 = .ok (.astore_n 3, 1) := by decide +kernel
theorem d_L_expand_13 : decode b_L_expand 13 = .ok (.iconst 1, 1) := by decide +kernel
theorem d_L_expand_14 : decode b_L_expand 14 = .ok (.ireturn, 1) := by decide +kernel
theorem d_L_expand_15 : decode b_L_expand 15 = .ok (.astore_n 3, 1) := by decide +kernel
theorem d_L_expand_16 : decode b_L_expand 16 = .ok (.iconst 2, 1) := by decide +kernel
theorem d_L_expand_17 : decode b_L_expand 17 = .ok (.ireturn, 1) := by decide +kernel
theorem d_L_expand_18 : decode b_L_expand 18 = .ok (.astore_n 3, 1) := by decide +kernel
theorem d_L_expand_19 : decode b_L_expand 19 = .ok (.iconst 3, 1) := by decide +kernel
theorem d_L_expand_20 : decode b_L_expand 20 = .ok (.ireturn, 1) := by decide +kernel
theorem d_L_expand_21 : decode b_L_expand 21 = .ok (.iconst 0, 1) := by decide +kernel
theorem d_L_expand_22 : decode b_L_expand 22 = .ok (.ireturn, 1) := by decide +kernel
theorem d_F_expand_0 : decode b_F_expand 0 = .ok (.aload_n 0, 1) := by decide +kernel
theorem d_F_expand_1 : decode b_F_expand 1 = .ok (.getfield 26, 3) := by decide +kernel
theorem d_F_expand_4 : decode b_F_expand 4 = .ok (.aload_n 0, 1) := by decide +kernel
theorem d_F_expand_5 : decode b_F_expand 5 = .ok (.getfield 10, 3) := by decide +kernel
theorem d_F_expand_8 : decode b_F_expand 8 = .ok (.invokevirtual 68, 3) := by decide +kernel
theorem d_F_expand_11 : decode b_F_expand 11 = .ok (.istore_n 2, 1) := by decide +kernel
theorem d_F_expand_12 : decode b_F_expand 12 = .ok (.aload_n 0, 1) := by decide +kernel
theorem d_F_expand_13 : decode b_F_expand 13 = .ok (.getfield 10, 3) := by decide +kernel
theorem d_F_expand_16 : decode b_F_expand 16 = .ok (.invokevirtual 38, 3) := by decide +kernel
theorem d_F_expand_19 : decode b_F_expand 19 = .ok (.iload_n 2, 1) := by decide +kernel
theorem d_F_expand_20 : decode b_F_expand 20 = .ok (.ifCond .eq 13, 3) := by decide +kernel
theorem d_F_expand_23 : decode b_F_expand 23 = .ok (.iload_n 1, 1) := by decide +kernel
theorem d_F_expand_24 : decode b_F_expand 24 = .ok (.ifCond .lt 9, 3) := by decide +kernel
theorem d_F_expand_27 : decode b_F_expand 27 = .ok (.iload_n 1, 1) := by decide +kernel
theorem d_F_expand_28 : decode b_F_expand 28 = .ok (.bipush 12, 2) := by decide +kernel
theorem d_F_expand_30 : decode b_F_expand 30 = .ok (.if_icmp .le 13, 3) := by decide +kernel
theorem d_F_expand_33 : decode b_F_expand 33 = .ok (.new 41, 3) := by decide +kernel
theorem d_F_expand_36 : decode b_F_expand 36 = .ok (.dup, 1) := by decide +kernel
theorem d_F_expand_37 : decode b_F_expand 37 = .ok (.ldc 69, 2) := by decide +kernel
theorem d_F_expand_39 : decode b_F_expand 39 = .ok (.invokespecial 45, 3) := by decide +kernel
theorem d_F_expand_42 : decode b_F_expand 42 = .ok (.athrow, 1) := by decide +kernel
theorem d_F_expand_43 : decode b_F_expand 43 = .ok (.aload_n 0, 1) := by decide +kernel
theorem d_F_expand_44 : decode b_F_expand 44 = .ok (.getfield 26, 3) := by decide +kernel
theorem d_F_expand_47 : decode b_F_expand 47 = .ok (.aload_n 0, 1) := by decide +kernel
theorem d_F_expand_48 : decode b_F_expand 48 = .ok (.getfield 19, 3) := by decide +kernel
theorem d_F_expand_51 : decode b_F_expand 51 = .ok (.iload_n 1, 1) := by decide +kernel
theorem d_F_expand_52 : decode b_F_expand 52 = .ok (.invokevirtual 71, 3) := by decide +kernel
theorem d_F_expand_55 : decode b_F_expand 55 = .ok (.ireturn, 1) := by decide +kernel
theorem d_E_read_0 : decode b_E_read 0 = .ok (.aload_n 0, 1) := by decide +kernel
theorem d_E_read_1 : decode b_E_read 1 = .ok (.getfield 14, 3) := by decide +kernel
theorem d_E_read_4 : decode b_E_read 4 = .ok (.invokevirtual 46, 3) := by decide +kernel
theorem d_E_read_7 : decode b_E_read 7 = .ok (.aload_n 0, 1) := by decide +kernel
theorem d_E_read_8 : decode b_E_read 8 = .ok (.getfield 14, 3) := by decide +kernel
theorem d_E_read_11 : decode b_E_read 11 = .ok (.aload_n 1, 1) := by decide +kernel
theorem d_E_read_12 : decode b_E_read 12 = .ok (.iconst 0, 1) := by decide +kernel
theorem d_E_read_13 : decode b_E_read 13 = .ok (.aload_n 1, 1) := by decide +kernel
theorem d_E_read_14 : decode b_E_read 14 = .ok (.invokevirtual 49, 3) := by decide +kernel
theorem d_E_read_17 : decode b_E_read 17 = .ok (.iconst 0, 1) := by decide +kernel
theorem d_E_read_18 : decode b_E_read 18 = .ok (.invokevirtual 55, 3) := by decide +kernel
theorem d_E_read_21 : decode b_E_read 21 = .ok (.ireturn, 1) := by decide +kernel
theorem d_S_clear_0 : decode b_S_clear 0 = .ok (.aload_n 0, 1) := by decide +kernel
theorem d_S_clear_1 : decode b_S_clear 1 = .ok (.iconst 0, 1) := by decide +kernel
theorem d_S_clear_2 : decode b_S_clear 2 = .ok (.putfield 15, 3) := by decide +kernel
theorem d_S_clear_5 : decode b_S_clear 5 = .ok (.aload_n 0, 1) := by decide +kernel
theorem d_S_clear_6 : decode b_S_clear 6 = .ok (.iconst 0, 1) := by decide +kernel
theorem d_S_clear_7 : decode b_S_clear 7 = .ok (.putfield 19, 3) := by decide +kernel
theorem d_S_clear_10 : decode b_S_clear 10 = .ok (.return_, 1) := by decide +kernel
theorem d_T_items_0 : decode b_T_items 0 = .ok (.aload_n 0, 1) := by decide +kernel
theorem d_T_items_1 : decode b_T_items 1 = .ok (.getfield 25, 3) := by decide +kernel
theorem d_T_items_4 : decode b_T_items 4 = .ok (.iload_n 1, 1) := by decide +kernel
theorem d_T_items_5 : decode b_T_items 5 = .ok (.iaload, 1) := by decide +kernel
theorem d_T_items_6 : decode b_T_items 6 = .ok (.ireturn, 1) := by decide +kernel
theorem d_T_stamp_0 : decode b_T_stamp 0 = .ok (.aload_n 0, 1) := by decide +kernel
theorem d_T_stamp_1 : decode b_T_stamp 1 = .ok (.getfield 19, 3) := by decide +kernel
theorem d_T_stamp_4 : decode b_T_stamp 4 = .ok (.iload_n 1, 1) := by decide +kernel
theorem d_T_stamp_5 : decode b_T_stamp 5 = .ok (.iaload, 1) := by decide +kernel
theorem d_T_stamp_6 : decode b_T_stamp 6 = .ok (.ireturn, 1) := by decide +kernel
theorem d_B_get_0 : decode b_B_get 0 = .ok (.aload_n 0, 1) := by decide +kernel
theorem d_B_get_1 : decode b_B_get 1 = .ok (.getfield 11, 3) := by decide +kernel
theorem d_B_get_4 : decode b_B_get 4 = .ok (.iload_n 1, 1) := by decide +kernel
theorem d_B_get_5 : decode b_B_get 5 = .ok (.aaload, 1) := by decide +kernel
theorem d_B_get_6 : decode b_B_get 6 = .ok (.areturn, 1) := by decide +kernel
theorem d_R_terms_0 : decode b_R_terms 0 = .ok (.aload_n 0, 1) := by decide +kernel
theorem d_R_terms_1 : decode b_R_terms 1 = .ok (.getfield 16, 3) := by decide +kernel
theorem d_R_terms_4 : decode b_R_terms 4 = .ok (.areturn, 1) := by decide +kernel
theorem d_R_template_0 : decode b_R_template 0 = .ok (.aload_n 0, 1) := by decide +kernel
theorem d_R_template_1 : decode b_R_template 1 = .ok (.getfield 26, 3) := by decide +kernel
theorem d_R_template_4 : decode b_R_template 4 = .ok (.ireturn, 1) := by decide +kernel
theorem d_S_finish_0 : decode b_S_finish 0 = .ok (.aload_n 0, 1) := by decide +kernel
theorem d_S_finish_1 : decode b_S_finish 1 = .ok (.aload_n 0, 1) := by decide +kernel
theorem d_S_finish_2 : decode b_S_finish 2 = .ok (.getfield 15, 3) := by decide +kernel
theorem d_S_finish_5 : decode b_S_finish 5 = .ok (.putfield 19, 3) := by decide +kernel
theorem d_S_finish_8 : decode b_S_finish 8 = .ok (.aload_n 0, 1) := by decide +kernel
theorem d_S_finish_9 : decode b_S_finish 9 = .ok (.getfield 19, 3) := by decide +kernel
theorem d_S_finish_12 : decode b_S_finish 12 = .ok (.ireturn, 1) := by decide +kernel
theorem d_O_init_0 : decode b_O_init 0 = .ok (.aload_n 0, 1) := by decide +kernel
theorem d_O_init_1 : decode b_O_init 1 = .ok (.invokespecial 1, 3) := by decide +kernel
theorem d_O_init_4 : decode b_O_init 4 = .ok (.aload_n 0, 1) := by decide +kernel
theorem d_O_init_5 : decode b_O_init 5 = .ok (.bipush 60, 2) := by decide +kernel
theorem d_O_init_7 : decode b_O_init 7 = .ok (.newarray .char, 2) := by decide +kernel
theorem d_O_init_9 : decode b_O_init 9 = .ok (.putfield 7, 3) := by decide +kernel
theorem d_O_init_12 : decode b_O_init 12 = .ok (.aload_n 0, 1) := by decide +kernel
theorem d_O_init_13 : decode b_O_init 13 = .ok (.bipush 61, 2) := by decide +kernel
theorem d_O_init_15 : decode b_O_init 15 = .ok (.newarray .int, 2) := by decide +kernel
theorem d_O_init_17 : decode b_O_init 17 = .ok (.putfield 13, 3) := by decide +kernel
theorem d_O_init_20 : decode b_O_init 20 = .ok (.aload_n 0, 1) := by decide +kernel
theorem d_O_init_21 : decode b_O_init 21 = .ok (.bipush 12, 2) := by decide +kernel
theorem d_O_init_23 : decode b_O_init 23 = .ok (.newarray .int, 2) := by decide +kernel
theorem d_O_init_25 : decode b_O_init 25 = .ok (.putfield 17, 3) := by decide +kernel
theorem d_O_init_28 : decode b_O_init 28 = .ok (.aload_n 0, 1) := by decide +kernel
theorem d_O_init_29 : decode b_O_init 29 = .ok (.bipush 12, 2) := by decide +kernel
theorem d_O_init_31 : decode b_O_init 31 = .ok (.newarray .int, 2) := by decide +kernel
theorem d_O_init_33 : decode b_O_init 33 = .ok (.putfield 20, 3) := by decide +kernel
theorem d_O_init_36 : decode b_O_init 36 = .ok (.aload_n 0, 1) := by decide +kernel
theorem d_O_init_37 : decode b_O_init 37 = .ok (.sipush 768, 3) := by decide +kernel
theorem d_O_init_40 : decode b_O_init 40 = .ok (.newarray .int, 2) := by decide +kernel
theorem d_O_init_42 : decode b_O_init 42 = .ok (.putfield 23, 3) := by decide +kernel
theorem d_O_init_45 : decode b_O_init 45 = .ok (.aload_n 0, 1) := by decide +kernel
theorem d_O_init_46 : decode b_O_init 46 = .ok (.bipush 12, 2) := by decide +kernel
theorem d_O_init_48 : decode b_O_init 48 = .ok (.newarray .int, 2) := by decide +kernel
theorem d_O_init_50 : decode b_O_init 50 = .ok (.putfield 26, 3) := by decide +kernel
theorem d_O_init_53 : decode b_O_init 53 = .ok (.aload_n 0, 1) := by decide +kernel
theorem d_O_init_54 : decode b_O_init 54 = .ok (.sipush 768, 3) := by decide +kernel
theorem d_O_init_57 : decode b_O_init 57 = .ok (.newarray .int, 2) := by decide +kernel
theorem d_O_init_59 : decode b_O_init 59 = .ok (.putfield 29, 3) := by decide +kernel
theorem d_O_init_62 : decode b_O_init 62 = .ok (.aload_n 0, 1) := by decide +kernel
theorem d_O_init_63 : decode b_O_init 63 = .ok (.bipush 12, 2) := by decide +kernel
theorem d_O_init_65 : decode b_O_init 65 = .ok (.newarray .int, 2) := by decide +kernel
theorem d_O_init_67 : decode b_O_init 67 = .ok (.putfield 32, 3) := by decide +kernel
theorem d_O_init_70 : decode b_O_init 70 = .ok (.aload_n 0, 1) := by decide +kernel
theorem d_O_init_71 : decode b_O_init 71 = .ok (.bipush 12, 2) := by decide +kernel
theorem d_O_init_73 : decode b_O_init 73 = .ok (.newarray .int, 2) := by decide +kernel
theorem d_O_init_75 : decode b_O_init 75 = .ok (.putfield 35, 3) := by decide +kernel
theorem d_O_init_78 : decode b_O_init 78 = .ok (.aload_n 0, 1) := by decide +kernel
theorem d_O_init_79 : decode b_O_init 79 = .ok (.bipush 12, 2) := by decide +kernel
theorem d_O_init_81 : decode b_O_init 81 = .ok (.newarray .int, 2) := by decide +kernel
theorem d_O_init_83 : decode b_O_init 83 = .ok (.putfield 38, 3) := by decide +kernel
theorem d_O_init_86 : decode b_O_init 86 = .ok (.aload_n 0, 1) := by decide +kernel
theorem d_O_init_87 : decode b_O_init 87 = .ok (.bipush 12, 2) := by decide +kernel
theorem d_O_init_89 : decode b_O_init 89 = .ok (.newarray .boolean, 2) := by decide +kernel
theorem d_O_init_91 : decode b_O_init 91 = .ok (.putfield 41, 3) := by decide +kernel
theorem d_O_init_94 : decode b_O_init 94 = .ok (.aload_n 0, 1) := by decide +kernel
theorem d_O_init_95 : decode b_O_init 95 = .ok (.bipush 61, 2) := by decide +kernel
theorem d_O_init_97 : decode b_O_init 97 = .ok (.newarray .boolean, 2) := by decide +kernel
theorem d_O_init_99 : decode b_O_init 99 = .ok (.putfield 45, 3) := by decide +kernel
theorem d_O_init_102 : decode b_O_init 102 = .ok (.aload_n 0, 1) := by decide +kernel
theorem d_O_init_103 : decode b_O_init 103 = .ok (.sipush 2400, 3) := by decide +kernel
theorem d_O_init_106 : decode b_O_init 106 = .ok (.newarray .int, 2) := by decide +kernel
theorem d_O_init_108 : decode b_O_init 108 = .ok (.putfield 48, 3) := by decide +kernel
theorem d_O_init_111 : decode b_O_init 111 = .ok (.aload_n 0, 1) := by decide +kernel
theorem d_O_init_112 : decode b_O_init 112 = .ok (.sipush 260, 3) := by decide +kernel
theorem d_O_init_115 : decode b_O_init 115 = .ok (.newarray .int, 2) := by decide +kernel
theorem d_O_init_117 : decode b_O_init 117 = .ok (.putfield 51, 3) := by decide +kernel
theorem d_O_init_120 : decode b_O_init 120 = .ok (.aload_n 0, 1) := by decide +kernel
theorem d_O_init_121 : decode b_O_init 121 = .ok (.bipush 26, 2) := by decide +kernel
theorem d_O_init_123 : decode b_O_init 123 = .ok (.newarray .int, 2) := by decide +kernel
theorem d_O_init_125 : decode b_O_init 125 = .ok (.putfield 54, 3) := by decide +kernel
theorem d_O_init_128 : decode b_O_init 128 = .ok (.aload_n 0, 1) := by decide +kernel
theorem d_O_init_129 : decode b_O_init 129 = .ok (.bipush 26, 2) := by decide +kernel
theorem d_O_init_131 : decode b_O_init 131 = .ok (.newarray .int, 2) := by decide +kernel
theorem d_O_init_133 : decode b_O_init 133 = .ok (.putfield 57, 3) := by decide +kernel
theorem d_O_init_136 : decode b_O_init 136 = .ok (.aload_n 0, 1) := by decide +kernel
theorem d_O_init_137 : decode b_O_init 137 = .ok (.sipush 1664, 3) := by decide +kernel
theorem d_O_init_140 : decode b_O_init 140 = .ok (.newarray .int, 2) := by decide +kernel
theorem d_O_init_142 : decode b_O_init 142 = .ok (.putfield 60, 3) := by decide +kernel
theorem d_O_init_145 : decode b_O_init 145 = .ok (.aload_n 0, 1) := by decide +kernel
theorem d_O_init_146 : decode b_O_init 146 = .ok (.bipush 16, 2) := by decide +kernel
theorem d_O_init_148 : decode b_O_init 148 = .ok (.newarray .boolean, 2) := by decide +kernel
theorem d_O_init_150 : decode b_O_init 150 = .ok (.putfield 63, 3) := by decide +kernel
theorem d_O_init_153 : decode b_O_init 153 = .ok (.aload_n 0, 1) := by decide +kernel
theorem d_O_init_154 : decode b_O_init 154 = .ok (.bipush 16, 2) := by decide +kernel
theorem d_O_init_156 : decode b_O_init 156 = .ok (.newarray .int, 2) := by decide +kernel
theorem d_O_init_158 : decode b_O_init 158 = .ok (.putfield 66, 3) := by decide +kernel
theorem d_O_init_161 : decode b_O_init 161 = .ok (.aload_n 0, 1) := by decide +kernel
theorem d_O_init_162 : decode b_O_init 162 = .ok (.sipush 150, 3) := by decide +kernel
theorem d_O_init_165 : decode b_O_init 165 = .ok (.newarray .int, 2) := by decide +kernel
theorem d_O_init_167 : decode b_O_init 167 = .ok (.putfield 69, 3) := by decide +kernel
theorem d_O_init_170 : decode b_O_init 170 = .ok (.return_, 1) := by decide +kernel
theorem d_O_thrown_0 : decode b_O_thrown 0 = .ok (.aload_n 0, 1) := by decide +kernel
theorem d_O_thrown_1 : decode b_O_thrown 1 = .ok (.getfield 72, 3) := by decide +kernel
theorem d_O_thrown_4 : decode b_O_thrown 4 = .ok (.ireturn, 1) := by decide +kernel
theorem d_O_type_0 : decode b_O_type 0 = .ok (.aload_n 0, 1) := by decide +kernel
theorem d_O_type_1 : decode b_O_type 1 = .ok (.iconst 0, 1) := by decide +kernel
theorem d_O_type_2 : decode b_O_type 2 = .ok (.putfield 72, 3) := by decide +kernel
theorem d_O_type_5 : decode b_O_type 5 = .ok (.iload_n 1, 1) := by decide +kernel
theorem d_O_type_6 : decode b_O_type 6 = .ok (.bipush 32, 2) := by decide +kernel
theorem d_O_type_8 : decode b_O_type 8 = .ok (.if_icmp .lt 18, 3) := by decide +kernel
theorem d_O_type_11 : decode b_O_type 11 = .ok (.iload_n 1, 1) := by decide +kernel
theorem d_O_type_12 : decode b_O_type 12 = .ok (.bipush 126, 2) := by decide +kernel
theorem d_O_type_14 : decode b_O_type 14 = .ok (.if_icmp .gt 12, 3) := by decide +kernel
theorem d_O_type_17 : decode b_O_type 17 = .ok (.aload_n 0, 1) := by decide +kernel
theorem d_O_type_18 : decode b_O_type 18 = .ok (.getfield 76, 3) := by decide +kernel
theorem d_O_type_21 : decode b_O_type 21 = .ok (.bipush 60, 2) := by decide +kernel
theorem d_O_type_23 : decode b_O_type 23 = .ok (.if_icmp .ne 5, 3) := by decide +kernel
theorem d_O_type_26 : decode b_O_type 26 = .ok (.iconst 0, 1) := by decide +kernel
theorem d_O_type_27 : decode b_O_type 27 = .ok (.ireturn, 1) := by decide +kernel
theorem d_O_type_28 : decode b_O_type 28 = .ok (.aload_n 0, 1) := by decide +kernel
theorem d_O_type_29 : decode b_O_type 29 = .ok (.getfield 7, 3) := by decide +kernel
theorem d_O_type_32 : decode b_O_type 32 = .ok (.aload_n 0, 1) := by decide +kernel
theorem d_O_type_33 : decode b_O_type 33 = .ok (.getfield 76, 3) := by decide +kernel
theorem d_O_type_36 : decode b_O_type 36 = .ok (.iload_n 1, 1) := by decide +kernel
theorem d_O_type_37 : decode b_O_type 37 = .ok (.castore, 1) := by decide +kernel
theorem d_O_type_38 : decode b_O_type 38 = .ok (.aload_n 0, 1) := by decide +kernel
theorem d_O_type_39 : decode b_O_type 39 = .ok (.dup, 1) := by decide +kernel
theorem d_O_type_40 : decode b_O_type 40 = .ok (.getfield 76, 3) := by decide +kernel
theorem d_O_type_43 : decode b_O_type 43 = .ok (.iconst 1, 1) := by decide +kernel
theorem d_O_type_44 : decode b_O_type 44 = .ok (.iadd, 1) := by decide +kernel
theorem d_O_type_45 : decode b_O_type 45 = .ok (.putfield 76, 3) := by decide +kernel
theorem d_O_type_48 : decode b_O_type 48 = .ok (.iconst 1, 1) := by decide +kernel
theorem d_O_type_49 : decode b_O_type 49 = .ok (.ireturn, 1) := by decide +kernel
theorem d_O_rule_0 : decode b_O_rule 0 = .ok (.aload_n 0, 1) := by decide +kernel
theorem d_O_rule_1 : decode b_O_rule 1 = .ok (.iconst 0, 1) := by decide +kernel
theorem d_O_rule_2 : decode b_O_rule 2 = .ok (.putfield 72, 3) := by decide +kernel
theorem d_O_rule_5 : decode b_O_rule 5 = .ok (.aload_n 0, 1) := by decide +kernel
theorem d_O_rule_6 : decode b_O_rule 6 = .ok (.invokevirtual 153, 3) := by decide +kernel
theorem d_O_rule_9 : decode b_O_rule 9 = .ok (.istore_n 1, 1) := by decide +kernel
theorem d_O_rule_10 : decode b_O_rule 10 = .ok (.iload_n 1, 1) := by decide +kernel
theorem d_O_rule_11 : decode b_O_rule 11 = .ok (.ifCond .eq 10, 3) := by decide +kernel
theorem d_O_rule_14 : decode b_O_rule 14 = .ok (.aload_n 0, 1) := by decide +kernel
theorem d_O_rule_15 : decode b_O_rule 15 = .ok (.invokevirtual 156, 3) := by decide +kernel
theorem d_O_rule_18 : decode b_O_rule 18 = .ok (.goto 4, 3) := by decide +kernel
theorem d_O_rule_21 : decode b_O_rule 21 = .ok (.iconst (-1), 1) := by decide +kernel
theorem d_O_rule_22 : decode b_O_rule 22 = .ok (.istore_n 2, 1) := by decide +kernel
theorem d_O_rule_23 : decode b_O_rule 23 = .ok (.iload_n 2, 1) := by decide +kernel
theorem d_O_rule_24 : decode b_O_rule 24 = .ok (.ifCond .lt 14, 3) := by decide +kernel
theorem d_O_rule_27 : decode b_O_rule 27 = .ok (.aload_n 0, 1) := by decide +kernel
theorem d_O_rule_28 : decode b_O_rule 28 = .ok (.getfield 13, 3) := by decide +kernel
theorem d_O_rule_31 : decode b_O_rule 31 = .ok (.iload_n 2, 1) := by decide +kernel
theorem d_O_rule_32 : decode b_O_rule 32 = .ok (.iaload, 1) := by decide +kernel
theorem d_O_rule_33 : decode b_O_rule 33 = .ok (.bipush 8, 2) := by decide +kernel
theorem d_O_rule_35 : decode b_O_rule 35 = .ok (.if_icmp .eq 9, 3) := by decide +kernel
theorem d_O_rule_38 : decode b_O_rule 38 = .ok (.aload_n 0, 1) := by decide +kernel
theorem d_O_rule_39 : decode b_O_rule 39 = .ok (.iconst 1, 1) := by decide +kernel
theorem d_O_rule_40 : decode b_O_rule 40 = .ok (.invokevirtual 160, 3) := by decide +kernel
theorem d_O_rule_43 : decode b_O_rule 43 = .ok (.ireturn, 1) := by decide +kernel
theorem d_O_rule_44 : decode b_O_rule 44 = .ok (.aload_n 0, 1) := by decide +kernel
theorem d_O_rule_45 : decode b_O_rule 45 = .ok (.iload_n 2, 1) := by decide +kernel
theorem d_O_rule_46 : decode b_O_rule 46 = .ok (.iconst 1, 1) := by decide +kernel
theorem d_O_rule_47 : decode b_O_rule 47 = .ok (.iadd, 1) := by decide +kernel
theorem d_O_rule_48 : decode b_O_rule 48 = .ok (.invokevirtual 163, 3) := by decide +kernel
theorem d_O_rule_51 : decode b_O_rule 51 = .ok (.ifCond .ne 9, 3) := by decide +kernel
theorem d_O_rule_54 : decode b_O_rule 54 = .ok (.aload_n 0, 1) := by decide +kernel
theorem d_O_rule_55 : decode b_O_rule 55 = .ok (.iconst 1, 1) := by decide +kernel
theorem d_O_rule_56 : decode b_O_rule 56 = .ok (.invokevirtual 160, 3) := by decide +kernel
theorem d_O_rule_59 : decode b_O_rule 59 = .ok (.ireturn, 1) := by decide +kernel
theorem d_O_rule_60 : decode b_O_rule 60 = .ok (.aload_n 0, 1) := by decide +kernel
theorem d_O_rule_61 : decode b_O_rule 61 = .ok (.getfield 150, 3) := by decide +kernel
theorem d_O_rule_64 : decode b_O_rule 64 = .ok (.bipush 12, 2) := by decide +kernel
theorem d_O_rule_66 : decode b_O_rule 66 = .ok (.if_icmp .ne 9, 3) := by decide +kernel
theorem d_O_rule_69 : decode b_O_rule 69 = .ok (.aload_n 0, 1) := by decide +kernel
theorem d_O_rule_70 : decode b_O_rule 70 = .ok (.iconst 2, 1) := by decide +kernel
theorem d_O_rule_71 : decode b_O_rule 71 = .ok (.invokevirtual 160, 3) := by decide +kernel
theorem d_O_rule_74 : decode b_O_rule 74 = .ok (.ireturn, 1) := by decide +kernel
theorem d_O_rule_75 : decode b_O_rule 75 = .ok (.aload_n 0, 1) := by decide +kernel
theorem d_O_rule_76 : decode b_O_rule 76 = .ok (.getfield 17, 3) := by decide +kernel
theorem d_O_rule_79 : decode b_O_rule 79 = .ok (.aload_n 0, 1) := by decide +kernel
theorem d_O_rule_80 : decode b_O_rule 80 = .ok (.getfield 150, 3) := by decide +kernel
theorem d_O_rule_83 : decode b_O_rule 83 = .ok (.aload_n 0, 1) := by decide +kernel
theorem d_O_rule_84 : decode b_O_rule 84 = .ok (.getfield 13, 3) := by decide +kernel
theorem d_O_rule_87 : decode b_O_rule 87 = .ok (.iconst 1, 1) := by decide +kernel
theorem d_O_rule_88 : decode b_O_rule 88 = .ok (.iaload, 1) := by decide +kernel
theorem d_O_rule_89 : decode b_O_rule 89 = .ok (.invokestatic 106, 3) := by decide +kernel
theorem d_O_rule_92 : decode b_O_rule 92 = .ok (.iastore, 1) := by decide +kernel
theorem d_O_rule_93 : decode b_O_rule 93 = .ok (.aload_n 0, 1) := by decide +kernel
theorem d_O_rule_94 : decode b_O_rule 94 = .ok (.getfield 20, 3) := by decide +kernel
theorem d_O_rule_97 : decode b_O_rule 97 = .ok (.aload_n 0, 1) := by decide +kernel
theorem d_O_rule_98 : decode b_O_rule 98 = .ok (.getfield 150, 3) := by decide +kernel
theorem d_O_rule_101 : decode b_O_rule 101 = .ok (.iload_n 2, 1) := by decide +kernel
theorem d_O_rule_102 : decode b_O_rule 102 = .ok (.iastore, 1) := by decide +kernel
theorem d_O_rule_103 : decode b_O_rule 103 = .ok (.iconst 0, 1) := by decide +kernel
theorem d_O_rule_104 : decode b_O_rule 104 = .ok (.istore_n 3, 1) := by decide +kernel
theorem d_O_rule_105 : decode b_O_rule 105 = .ok (.iload_n 3, 1) := by decide +kernel
theorem d_O_rule_106 : decode b_O_rule 106 = .ok (.iload_n 2, 1) := by decide +kernel
theorem d_O_rule_107 : decode b_O_rule 107 = .ok (.if_icmp .ge 29, 3) := by decide +kernel
theorem d_O_rule_110 : decode b_O_rule 110 = .ok (.aload_n 0, 1) := by decide +kernel
theorem d_O_rule_111 : decode b_O_rule 111 = .ok (.getfield 23, 3) := by decide +kernel
theorem d_O_rule_114 : decode b_O_rule 114 = .ok (.bipush 64, 2) := by decide +kernel
theorem d_O_rule_116 : decode b_O_rule 116 = .ok (.aload_n 0, 1) := by decide +kernel
theorem d_O_rule_117 : decode b_O_rule 117 = .ok (.getfield 150, 3) := by decide +kernel
theorem d_O_rule_120 : decode b_O_rule 120 = .ok (.imul, 1) := by decide +kernel
theorem d_O_rule_121 : decode b_O_rule 121 = .ok (.iload_n 3, 1) := by decide +kernel
theorem d_O_rule_122 : decode b_O_rule 122 = .ok (.iadd, 1) := by decide +kernel
theorem d_O_rule_123 : decode b_O_rule 123 = .ok (.aload_n 0, 1) := by decide +kernel
theorem d_O_rule_124 : decode b_O_rule 124 = .ok (.getfield 13, 3) := by decide +kernel
theorem d_O_rule_127 : decode b_O_rule 127 = .ok (.iload_n 3, 1) := by decide +kernel
theorem d_O_rule_128 : decode b_O_rule 128 = .ok (.iaload, 1) := by decide +kernel
theorem d_O_rule_129 : decode b_O_rule 129 = .ok (.iastore, 1) := by decide +kernel
theorem d_O_rule_130 : decode b_O_rule 130 = .ok (.iinc 3 1, 3) := by decide +kernel
theorem d_O_rule_133 : decode b_O_rule 133 = .ok (.goto (-28), 3) := by decide +kernel
theorem d_O_rule_136 : decode b_O_rule 136 = .ok (.aload_n 0, 1) := by decide +kernel
theorem d_O_rule_137 : decode b_O_rule 137 = .ok (.getfield 26, 3) := by decide +kernel
theorem d_O_rule_140 : decode b_O_rule 140 = .ok (.aload_n 0, 1) := by decide +kernel
theorem d_O_rule_141 : decode b_O_rule 141 = .ok (.getfield 150, 3) := by decide +kernel
theorem d_O_rule_144 : decode b_O_rule 144 = .ok (.aload_n 0, 1) := by decide +kernel
theorem d_O_rule_145 : decode b_O_rule 145 = .ok (.getfield 79, 3) := by decide +kernel
theorem d_O_rule_148 : decode b_O_rule 148 = .ok (.iload_n 2, 1) := by decide +kernel
theorem d_O_rule_149 : decode b_O_rule 149 = .ok (.isub, 1) := by decide +kernel
theorem d_O_rule_150 : decode b_O_rule 150 = .ok (.iconst 1, 1) := by decide +kernel
theorem d_O_rule_151 : decode b_O_rule 151 = .ok (.isub, 1) := by decide +kernel
theorem d_O_rule_152 : decode b_O_rule 152 = .ok (.iastore, 1) := by decide +kernel
theorem d_O_rule_153 : decode b_O_rule 153 = .ok (.iload_n 2, 1) := by decide +kernel
theorem d_O_rule_154 : decode b_O_rule 154 = .ok (.iconst 1, 1) := by decide +kernel
theorem d_O_rule_155 : decode b_O_rule 155 = .ok (.iadd, 1) := by decide +kernel
theorem d_O_rule_156 : decode b_O_rule 156 = .ok (.istore_n 3, 1) := by decide +kernel
theorem d_O_rule_157 : decode b_O_rule 157 = .ok (.iload_n 3, 1) := by decide +kernel
theorem d_O_rule_158 : decode b_O_rule 158 = .ok (.aload_n 0, 1) := by decide +kernel
theorem d_O_rule_159 : decode b_O_rule 159 = .ok (.getfield 79, 3) := by decide +kernel
theorem d_O_rule_162 : decode b_O_rule 162 = .ok (.if_icmp .ge 33, 3) := by decide +kernel
theorem d_O_rule_165 : decode b_O_rule 165 = .ok (.aload_n 0, 1) := by decide +kernel
theorem d_O_rule_166 : decode b_O_rule 166 = .ok (.getfield 29, 3) := by decide +kernel
theorem d_O_rule_169 : decode b_O_rule 169 = .ok (.bipush 64, 2) := by decide +kernel
theorem d_O_rule_171 : decode b_O_rule 171 = .ok (.aload_n 0, 1) := by decide +kernel
theorem d_O_rule_172 : decode b_O_rule 172 = .ok (.getfield 150, 3) := by decide +kernel
theorem d_O_rule_175 : decode b_O_rule 175 = .ok (.imul, 1) := by decide +kernel
theorem d_O_rule_176 : decode b_O_rule 176 = .ok (.iload_n 3, 1) := by decide +kernel
theorem d_O_rule_177 : decode b_O_rule 177 = .ok (.iadd, 1) := by decide +kernel
theorem d_O_rule_178 : decode b_O_rule 178 = .ok (.iload_n 2, 1) := by decide +kernel
theorem d_O_rule_179 : decode b_O_rule 179 = .ok (.isub, 1) := by decide +kernel
theorem d_O_rule_180 : decode b_O_rule 180 = .ok (.iconst 1, 1) := by decide +kernel
theorem d_O_rule_181 : decode b_O_rule 181 = .ok (.isub, 1) := by decide +kernel
theorem d_O_rule_182 : decode b_O_rule 182 = .ok (.aload_n 0, 1) := by decide +kernel
theorem d_O_rule_183 : decode b_O_rule 183 = .ok (.getfield 13, 3) := by decide +kernel
theorem d_O_rule_186 : decode b_O_rule 186 = .ok (.iload_n 3, 1) := by decide +kernel
theorem d_O_rule_187 : decode b_O_rule 187 = .ok (.iaload, 1) := by decide +kernel
theorem d_O_rule_188 : decode b_O_rule 188 = .ok (.iastore, 1) := by decide +kernel
theorem d_O_rule_189 : decode b_O_rule 189 = .ok (.iinc 3 1, 3) := by decide +kernel
theorem d_O_rule_192 : decode b_O_rule 192 = .ok (.goto (-35), 3) := by decide +kernel

theorem d_O_goThrough_105 : decode b_O_goThrough 105 = .ok (.ifCond .lt 7, 3) := by decide +kernel
theorem d_O_goThrough_108 : decode b_O_goThrough 108 = .ok (.iconst 1, 1) := by decide +kernel
theorem d_O_goThrough_109 : decode b_O_goThrough 109 = .ok (.goto 4, 3) := by decide +kernel
theorem d_O_goThrough_112 : decode b_O_goThrough 112 = .ok (.iconst 0, 1) := by decide +kernel
theorem d_O_goThrough_113 : decode b_O_goThrough 113 = .ok (.istore 5, 2) := by decide +kernel
theorem d_O_goThrough_115 : decode b_O_goThrough 115 = .ok (.iconst 0, 1) := by decide +kernel
theorem d_O_goThrough_116 : decode b_O_goThrough 116 = .ok (.istore 8, 2) := by decide +kernel
theorem d_O_goThrough_118 : decode b_O_goThrough 118 = .ok (.iload 8, 2) := by decide +kernel
theorem d_O_goThrough_120 : decode b_O_goThrough 120 = .ok (.iload 7, 2) := by decide +kernel
theorem d_O_goThrough_122 : decode b_O_goThrough 122 = .ok (.if_icmp .ge 23, 3) := by decide +kernel
theorem d_O_goThrough_125 : decode b_O_goThrough 125 = .ok (.iload_n 2, 1) := by decide +kernel
theorem d_O_goThrough_126 : decode b_O_goThrough 126 = .ok (.ifCond .eq 19, 3) := by decide +kernel
theorem d_O_goThrough_129 : decode b_O_goThrough 129 = .ok (.aload_n 0, 1) := by decide +kernel
theorem d_O_goThrough_130 : decode b_O_goThrough 130 = .ok (.iload_n 1, 1) := by decide +kernel
theorem d_O_goThrough_131 : decode b_O_goThrough 131 = .ok (.iload_n 3, 1) := by decide +kernel
theorem d_O_goThrough_132 : decode b_O_goThrough 132 = .ok (.iload 6, 2) := by decide +kernel
theorem d_O_goThrough_134 : decode b_O_goThrough 134 = .ok (.iload 8, 2) := by decide +kernel
theorem d_O_goThrough_136 : decode b_O_goThrough 136 = .ok (.invokevirtual 217, 3) := by decide +kernel
theorem d_O_goThrough_139 : decode b_O_goThrough 139 = .ok (.iinc 8 1, 3) := by decide +kernel
theorem d_O_goThrough_142 : decode b_O_goThrough 142 = .ok (.goto (-24), 3) := by decide +kernel
theorem d_O_goThrough_145 : decode b_O_goThrough 145 = .ok (.iload 6, 2) := by decide +kernel
theorem d_O_goThrough_147 : decode b_O_goThrough 147 = .ok (.iconst 1, 1) := by decide +kernel
theorem d_O_goThrough_148 : decode b_O_goThrough 148 = .ok (.iadd, 1) := by decide +kernel
theorem d_O_goThrough_149 : decode b_O_goThrough 149 = .ok (.istore_n 3, 1) := by decide +kernel
theorem d_O_goThrough_150 : decode b_O_goThrough 150 = .ok (.goto (-132), 3) := by decide +kernel
theorem d_O_goThrough_153 : decode b_O_goThrough 153 = .ok (.iload 5, 2) := by decide +kernel
theorem d_O_goThrough_155 : decode b_O_goThrough 155 = .ok (.ireturn, 1) := by decide +kernel
theorem d_O_emitPlain_0 : decode b_O_emitPlain 0 = .ok (.iload_n 2, 1) := by decide +kernel
theorem d_O_emitPlain_1 : decode b_O_emitPlain 1 = .ok (.istore 5, 2) := by decide +kernel
theorem d_O_emitPlain_3 : decode b_O_emitPlain 3 = .ok (.iload 5, 2) := by decide +kernel
theorem d_O_emitPlain_5 : decode b_O_emitPlain 5 = .ok (.iload_n 3, 1) := by decide +kernel
theorem d_O_emitPlain_6 : decode b_O_emitPlain 6 = .ok (.if_icmp .ge 129, 3) := by decide +kernel
theorem d_O_emitPlain_9 : decode b_O_emitPlain 9 = .ok (.aload_n 0, 1) := by decide +kernel
theorem d_O_emitPlain_10 : decode b_O_emitPlain 10 = .ok (.getfield 202, 3) := by decide +kernel
theorem d_O_emitPlain_13 : decode b_O_emitPlain 13 = .ok (.ifCond .ne 122, 3) := by decide +kernel
theorem d_O_emitPlain_16 : decode b_O_emitPlain 16 = .ok (.aload_n 0, 1) := by decide +kernel
theorem d_O_emitPlain_17 : decode b_O_emitPlain 17 = .ok (.getfield 29, 3) := by decide +kernel
theorem d_O_emitPlain_20 : decode b_O_emitPlain 20 = .ok (.iload 5, 2) := by decide +kernel
theorem d_O_emitPlain_22 : decode b_O_emitPlain 22 = .ok (.iaload, 1) := by decide +kernel
theorem d_O_emitPlain_23 : decode b_O_emitPlain 23 = .ok (.istore 6, 2) := by decide +kernel
theorem d_O_emitPlain_25 : decode b_O_emitPlain 25 = .ok (.iload 6, 2) := by decide +kernel
theorem d_O_emitPlain_27 : decode b_O_emitPlain 27 = .ok (.invokestatic 106, 3) := by decide +kernel
theorem d_O_emitPlain_30 : decode b_O_emitPlain 30 = .ok (.istore 7, 2) := by decide +kernel
theorem d_O_emitPlain_32 : decode b_O_emitPlain 32 = .ok (.iload 6, 2) := by decide +kernel
theorem d_O_emitPlain_34 : decode b_O_emitPlain 34 = .ok (.invokestatic 86, 3) := by decide +kernel
theorem d_O_emitPlain_37 : decode b_O_emitPlain 37 = .ok (.ifCond .ne 12, 3) := by decide +kernel
theorem d_O_emitPlain_40 : decode b_O_emitPlain 40 = .ok (.aload_n 0, 1) := by decide +kernel
theorem d_O_emitPlain_41 : decode b_O_emitPlain 41 = .ok (.iload 6, 2) := by decide +kernel
theorem d_O_emitPlain_43 : decode b_O_emitPlain 43 = .ok (.invokevirtual 208, 3) := by decide +kernel
theorem d_O_emitPlain_46 : decode b_O_emitPlain 46 = .ok (.goto 83, 3) := by decide +kernel
theorem d_O_emitPlain_49 : decode b_O_emitPlain 49 = .ok (.aload_n 0, 1) := by decide +kernel
theorem d_O_emitPlain_50 : decode b_O_emitPlain 50 = .ok (.getfield 32, 3) := by decide +kernel
theorem d_O_emitPlain_53 : decode b_O_emitPlain 53 = .ok (.iload_n 1, 1) := by decide +kernel
theorem d_O_emitPlain_54 : decode b_O_emitPlain 54 = .ok (.iaload, 1) := by decide +kernel
theorem d_O_emitPlain_55 : decode b_O_emitPlain 55 = .ok (.iload 7, 2) := by decide +kernel
theorem d_O_emitPlain_57 : decode b_O_emitPlain 57 = .ok (.ishr, 1) := by decide +kernel
theorem d_O_emitPlain_58 : decode b_O_emitPlain 58 = .ok (.iconst 1, 1) := by decide +kernel
theorem d_O_emitPlain_59 : decode b_O_emitPlain 59 = .ok (.iand, 1) := by decide +kernel
theorem d_O_emitPlain_60 : decode b_O_emitPlain 60 = .ok (.iconst 1, 1) := by decide +kernel
theorem d_O_emitPlain_61 : decode b_O_emitPlain 61 = .ok (.if_icmp .ne 17, 3) := by decide +kernel
theorem d_O_emitPlain_64 : decode b_O_emitPlain 64 = .ok (.aload_n 0, 1) := by decide +kernel
theorem d_O_emitPlain_65 : decode b_O_emitPlain 65 = .ok (.aload_n 0, 1) := by decide +kernel
theorem d_O_emitPlain_66 : decode b_O_emitPlain 66 = .ok (.getfield 54, 3) := by decide +kernel
theorem d_O_emitPlain_69 : decode b_O_emitPlain 69 = .ok (.iload 7, 2) := by decide +kernel
theorem d_O_emitPlain_71 : decode b_O_emitPlain 71 = .ok (.iaload, 1) := by decide +kernel
theorem d_O_emitPlain_72 : decode b_O_emitPlain 72 = .ok (.invokevirtual 211, 3) := by decide +kernel
theorem d_O_emitPlain_75 : decode b_O_emitPlain 75 = .ok (.goto 54, 3) := by decide +kernel
theorem d_O_emitPlain_78 : decode b_O_emitPlain 78 = .ok (.aload_n 0, 1) := by decide +kernel
theorem d_O_emitPlain_79 : decode b_O_emitPlain 79 = .ok (.getfield 35, 3) := by decide +kernel
theorem d_O_emitPlain_82 : decode b_O_emitPlain 82 = .ok (.iload_n 1, 1) := by decide +kernel
theorem d_O_emitPlain_83 : decode b_O_emitPlain 83 = .ok (.iaload, 1) := by decide +kernel
theorem d_O_emitPlain_84 : decode b_O_emitPlain 84 = .ok (.iload 7, 2) := by decide +kernel
theorem d_O_emitPlain_86 : decode b_O_emitPlain 86 = .ok (.ishr, 1) := by decide +kernel
theorem d_O_emitPlain_87 : decode b_O_emitPlain 87 = .ok (.iconst 1, 1) := by decide +kernel
theorem d_O_emitPlain_88 : decode b_O_emitPlain 88 = .ok (.iand, 1) := by decide +kernel
theorem d_O_emitPlain_89 : decode b_O_emitPlain 89 = .ok (.iconst 1, 1) := by decide +kernel
theorem d_O_emitPlain_90 : decode b_O_emitPlain 90 = .ok (.if_icmp .ne 23, 3) := by decide +kernel
theorem d_O_emitPlain_93 : decode b_O_emitPlain 93 = .ok (.aload_n 0, 1) := by decide +kernel
theorem d_O_emitPlain_94 : decode b_O_emitPlain 94 = .ok (.aload_n 0, 1) := by decide +kernel
theorem d_O_emitPlain_95 : decode b_O_emitPlain 95 = .ok (.getfield 60, 3) := by decide +kernel
theorem d_O_emitPlain_98 : decode b_O_emitPlain 98 = .ok (.bipush 64, 2) := by decide +kernel
theorem d_O_emitPlain_100 : decode b_O_emitPlain 100 = .ok (.iload 7, 2) := by decide +kernel
theorem d_O_emitPlain_102 : decode b_O_emitPlain 102 = .ok (.imul, 1) := by decide +kernel
theorem d_O_emitPlain_103 : decode b_O_emitPlain 103 = .ok (.iload 4, 2) := by decide +kernel
theorem d_O_emitPlain_105 : decode b_O_emitPlain 105 = .ok (.iadd, 1) := by decide +kernel
theorem d_O_emitPlain_106 : decode b_O_emitPlain 106 = .ok (.iaload, 1) := by decide +kernel
theorem d_O_emitPlain_107 : decode b_O_emitPlain 107 = .ok (.invokevirtual 211, 3) := by decide +kernel
theorem d_O_emitPlain_110 : decode b_O_emitPlain 110 = .ok (.goto 19, 3) := by decide +kernel
theorem d_O_emitPlain_113 : decode b_O_emitPlain 113 = .ok (.aload_n 0, 1) := by decide +kernel
theorem d_O_emitPlain_114 : decode b_O_emitPlain 114 = .ok (.iload 6, 2) := by decide +kernel
theorem d_O_emitPlain_116 : decode b_O_emitPlain 116 = .ok (.bipush 32, 2) := by decide +kernel
theorem d_O_emitPlain_118 : decode b_O_emitPlain 118 = .ok (.aload_n 0, 1) := by decide +kernel
theorem d_O_emitPlain_119 : decode b_O_emitPlain 119 = .ok (.getfield 214, 3) := by decide +kernel
theorem d_O_emitPlain_122 : decode b_O_emitPlain 122 = .ok (.iconst 1, 1) := by decide +kernel
theorem d_O_emitPlain_123 : decode b_O_emitPlain 123 = .ok (.iadd, 1) := by decide +kernel
theorem d_O_emitPlain_124 : decode b_O_emitPlain 124 = .ok (.imul, 1) := by decide +kernel
theorem d_O_emitPlain_125 : decode b_O_emitPlain 125 = .ok (.iadd, 1) := by decide +kernel
theorem d_O_emitPlain_126 : decode b_O_emitPlain 126 = .ok (.invokevirtual 208, 3) := by decide +kernel
theorem d_O_emitPlain_129 : decode b_O_emitPlain 129 = .ok (.iinc 5 1, 3) := by decide +kernel
theorem d_O_emitPlain_132 : decode b_O_emitPlain 132 = .ok (.goto (-129), 3) := by decide +kernel
theorem d_O_emitPlain_135 : decode b_O_emitPlain 135 = .ok (.return_, 1) := by decide +kernel
theorem d_O_emit_0 : decode b_O_emit 0 = .ok (.iload_n 1, 1) := by decide +kernel
theorem d_O_emit_1 : decode b_O_emit 1 = .ok (.iconst 1, 1) := by decide +kernel
theorem d_O_emit_2 : decode b_O_emit 2 = .ok (.if_icmp .ne 39, 3) := by decide +kernel
theorem d_O_emit_5 : decode b_O_emit 5 = .ok (.aload_n 0, 1) := by decide +kernel
theorem d_O_emit_6 : decode b_O_emit 6 = .ok (.dup, 1) := by decide +kernel
theorem d_O_emit_7 : decode b_O_emit 7 = .ok (.getfield 193, 3) := by decide +kernel
theorem d_O_emit_10 : decode b_O_emit 10 = .ok (.iconst 1, 1) := by decide +kernel
theorem d_O_emit_11 : decode b_O_emit 11 = .ok (.iadd, 1) := by decide +kernel
theorem d_O_emit_12 : decode b_O_emit 12 = .ok (.putfield 193, 3) := by decide +kernel
theorem d_O_emit_15 : decode b_O_emit 15 = .ok (.aload_n 0, 1) := by decide +kernel
theorem d_O_emit_16 : decode b_O_emit 16 = .ok (.aload_n 0, 1) := by decide +kernel
theorem d_O_emit_17 : decode b_O_emit 17 = .ok (.getfield 193, 3) := by decide +kernel
theorem d_O_emit_20 : decode b_O_emit 20 = .ok (.aload_n 0, 1) := by decide +kernel
theorem d_O_emit_21 : decode b_O_emit 21 = .ok (.getfield 196, 3) := by decide +kernel
theorem d_O_emit_24 : decode b_O_emit 24 = .ok (.if_icmp .le 10, 3) := by decide +kernel
theorem d_O_emit_27 : decode b_O_emit 27 = .ok (.aload_n 0, 1) := by decide +kernel
theorem d_O_emit_28 : decode b_O_emit 28 = .ok (.getfield 193, 3) := by decide +kernel
theorem d_O_emit_31 : decode b_O_emit 31 = .ok (.goto 7, 3) := by decide +kernel
theorem d_O_emit_34 : decode b_O_emit 34 = .ok (.aload_n 0, 1) := by decide +kernel
theorem d_O_emit_35 : decode b_O_emit 35 = .ok (.getfield 196, 3) := by decide +kernel
theorem d_O_emit_38 : decode b_O_emit 38 = .ok (.putfield 196, 3) := by decide +kernel
theorem d_O_emit_41 : decode b_O_emit 41 = .ok (.iload_n 1, 1) := by decide +kernel
theorem d_O_emit_42 : decode b_O_emit 42 = .ok (.iconst 2, 1) := by decide +kernel
theorem d_O_emit_43 : decode b_O_emit 43 = .ok (.if_icmp .ne 16, 3) := by decide +kernel
theorem d_O_emit_46 : decode b_O_emit 46 = .ok (.aload_n 0, 1) := by decide +kernel
theorem d_O_emit_47 : decode b_O_emit 47 = .ok (.dup, 1) := by decide +kernel
theorem d_O_emit_48 : decode b_O_emit 48 = .ok (.getfield 193, 3) := by decide +kernel
theorem d_O_emit_51 : decode b_O_emit 51 = .ok (.iconst 1, 1) := by decide +kernel
theorem d_O_emit_52 : decode b_O_emit 52 = .ok (.isub, 1) := by decide +kernel
theorem d_O_emit_53 : decode b_O_emit 53 = .ok (.putfield 193, 3) := by decide +kernel
theorem d_O_emit_56 : decode b_O_emit 56 = .ok (.goto 13, 3) := by decide +kernel
theorem d_O_emit_59 : decode b_O_emit 59 = .ok (.aload_n 0, 1) := by decide +kernel
theorem d_O_emit_60 : decode b_O_emit 60 = .ok (.dup, 1) := by decide +kernel
theorem d_O_emit_61 : decode b_O_emit 61 = .ok (.getfield 199, 3) := by decide +kernel
theorem d_O_emit_64 : decode b_O_emit 64 = .ok (.iconst 1, 1) := by decide +kernel
theorem d_O_emit_65 : decode b_O_emit 65 = .ok (.iadd, 1) := by decide +kernel
theorem d_O_emit_66 : decode b_O_emit 66 = .ok (.putfield 199, 3) := by decide +kernel
theorem d_O_emit_69 : decode b_O_emit 69 = .ok (.aload_n 0, 1) := by decide +kernel
theorem d_O_emit_70 : decode b_O_emit 70 = .ok (.getfield 199, 3) := by decide +kernel
theorem d_O_emit_73 : decode b_O_emit 73 = .ok (.bipush 60, 2) := by decide +kernel
theorem d_O_emit_75 : decode b_O_emit 75 = .ok (.if_icmp .gt 12, 3) := by decide +kernel
theorem d_O_emit_78 : decode b_O_emit 78 = .ok (.aload_n 0, 1) := by decide +kernel
theorem d_O_emit_79 : decode b_O_emit 79 = .ok (.getfield 196, 3) := by decide +kernel
theorem d_O_emit_82 : decode b_O_emit 82 = .ok (.bipush 12, 2) := by decide +kernel
theorem d_O_emit_84 : decode b_O_emit 84 = .ok (.if_icmp .le 8, 3) := by decide +kernel
theorem d_O_emit_87 : decode b_O_emit 87 = .ok (.aload_n 0, 1) := by decide +kernel
theorem d_O_emit_88 : decode b_O_emit 88 = .ok (.iconst 1, 1) := by decide +kernel
theorem d_O_emit_89 : decode b_O_emit 89 = .ok (.putfield 202, 3) := by decide +kernel
theorem d_O_emit_92 : decode b_O_emit 92 = .ok (.aload_n 0, 1) := by decide +kernel
theorem d_O_emit_93 : decode b_O_emit 93 = .ok (.getfield 202, 3) := by decide +kernel
theorem d_O_emit_96 : decode b_O_emit 96 = .ok (.ifCond .eq 4, 3) := by decide +kernel
theorem d_O_emit_99 : decode b_O_emit 99 = .ok (.return_, 1) := by decide +kernel
theorem d_O_emit_100 : decode b_O_emit 100 = .ok (.aload_n 0, 1) := by decide +kernel
theorem d_O_emit_101 : decode b_O_emit 101 = .ok (.getfield 51, 3) := by decide +kernel
theorem d_O_emit_104 : decode b_O_emit 104 = .ok (.aload_n 0, 1) := by decide +kernel
theorem d_O_emit_105 : decode b_O_emit 105 = .ok (.getfield 205, 3) := by decide +kernel
theorem d_O_emit_108 : decode b_O_emit 108 = .ok (.iload_n 1, 1) := by decide +kernel
theorem d_O_emit_109 : decode b_O_emit 109 = .ok (.iastore, 1) := by decide +kernel
theorem d_O_emit_110 : decode b_O_emit 110 = .ok (.aload_n 0, 1) := by decide +kernel
theorem d_O_emit_111 : decode b_O_emit 111 = .ok (.dup, 1) := by decide +kernel
theorem d_O_emit_112 : decode b_O_emit 112 = .ok (.getfield 205, 3) := by decide +kernel
theorem d_O_emit_115 : decode b_O_emit 115 = .ok (.iconst 1, 1) := by decide +kernel
theorem d_O_emit_116 : decode b_O_emit 116 = .ok (.iadd, 1) := by decide +kernel
theorem d_O_emit_117 : decode b_O_emit 117 = .ok (.putfield 205, 3) := by decide +kernel
theorem d_O_emit_120 : decode b_O_emit 120 = .ok (.return_, 1) := by decide +kernel
theorem d_O_emitTerm_0 : decode b_O_emitTerm 0 = .ok (.aload_n 0, 1) := by decide +kernel
theorem d_O_emitTerm_1 : decode b_O_emitTerm 1 = .ok (.iload_n 1, 1) := by decide +kernel
theorem d_O_emitTerm_2 : decode b_O_emitTerm 2 = .ok (.invokevirtual 175, 3) := by decide +kernel
theorem d_O_emitTerm_5 : decode b_O_emitTerm 5 = .ok (.istore_n 2, 1) := by decide +kernel
theorem d_O_emitTerm_6 : decode b_O_emitTerm 6 = .ok (.iload_n 1, 1) := by decide +kernel
theorem d_O_emitTerm_7 : decode b_O_emitTerm 7 = .ok (.istore_n 3, 1) := by decide +kernel
theorem d_O_emitTerm_8 : decode b_O_emitTerm 8 = .ok (.iload_n 3, 1) := by decide +kernel
theorem d_O_emitTerm_9 : decode b_O_emitTerm 9 = .ok (.iload_n 2, 1) := by decide +kernel
theorem d_O_emitTerm_10 : decode b_O_emitTerm 10 = .ok (.if_icmp .ge 26, 3) := by decide +kernel
theorem d_O_emitTerm_13 : decode b_O_emitTerm 13 = .ok (.aload_n 0, 1) := by decide +kernel
theorem d_O_emitTerm_14 : decode b_O_emitTerm 14 = .ok (.getfield 202, 3) := by decide +kernel
theorem d_O_emitTerm_17 : decode b_O_emitTerm 17 = .ok (.ifCond .ne 19, 3) := by decide +kernel
theorem d_O_emitTerm_20 : decode b_O_emitTerm 20 = .ok (.aload_n 0, 1) := by decide +kernel
theorem d_O_emitTerm_21 : decode b_O_emitTerm 21 = .ok (.aload_n 0, 1) := by decide +kernel
theorem d_O_emitTerm_22 : decode b_O_emitTerm 22 = .ok (.getfield 48, 3) := by decide +kernel
theorem d_O_emitTerm_25 : decode b_O_emitTerm 25 = .ok (.iload_n 3, 1) := by decide +kernel
theorem d_O_emitTerm_26 : decode b_O_emitTerm 26 = .ok (.iaload, 1) := by decide +kernel
theorem d_O_emitTerm_27 : decode b_O_emitTerm 27 = .ok (.invokevirtual 208, 3) := by decide +kernel
theorem d_O_emitTerm_30 : decode b_O_emitTerm 30 = .ok (.iinc 3 1, 3) := by decide +kernel
theorem d_O_emitTerm_33 : decode b_O_emitTerm 33 = .ok (.goto (-25), 3) := by decide +kernel
theorem d_O_emitTerm_36 : decode b_O_emitTerm 36 = .ok (.return_, 1) := by decide +kernel
theorem d_O_copies_0 : decode b_O_copies 0 = .ok (.bipush (-2), 2) := by decide +kernel
theorem d_O_copies_2 : decode b_O_copies 2 = .ok (.istore 4, 2) := by decide +kernel
theorem d_O_copies_4 : decode b_O_copies 4 = .ok (.iload_n 2, 1) := by decide +kernel
theorem d_O_copies_5 : decode b_O_copies 5 = .ok (.istore 5, 2) := by decide +kernel
theorem d_O_copies_7 : decode b_O_copies 7 = .ok (.iload 5, 2) := by decide +kernel
theorem d_O_copies_9 : decode b_O_copies 9 = .ok (.iload_n 3, 1) := by decide +kernel
theorem d_O_copies_10 : decode b_O_copies 10 = .ok (.if_icmp .ge 80, 3) := by decide +kernel
theorem d_O_copies_13 : decode b_O_copies 13 = .ok (.aload_n 0, 1) := by decide +kernel
theorem d_O_copies_14 : decode b_O_copies 14 = .ok (.getfield 29, 3) := by decide +kernel
theorem d_O_copies_17 : decode b_O_copies 17 = .ok (.iload 5, 2) := by decide +kernel
theorem d_O_copies_19 : decode b_O_copies 19 = .ok (.iaload, 1) := by decide +kernel
theorem d_O_copies_20 : decode b_O_copies 20 = .ok (.istore 6, 2) := by decide +kernel
theorem d_O_copies_22 : decode b_O_copies 22 = .ok (.iload 6, 2) := by decide +kernel
theorem d_O_copies_24 : decode b_O_copies 24 = .ok (.invokestatic 86, 3) := by decide +kernel
theorem d_O_copies_27 : decode b_O_copies 27 = .ok (.ifCond .eq 57, 3) := by decide +kernel
theorem d_O_copies_30 : decode b_O_copies 30 = .ok (.aload_n 0, 1) := by decide +kernel
theorem d_O_copies_31 : decode b_O_copies 31 = .ok (.getfield 35, 3) := by decide +kernel
theorem d_O_copies_34 : decode b_O_copies 34 = .ok (.iload_n 1, 1) := by decide +kernel
theorem d_O_copies_35 : decode b_O_copies 35 = .ok (.iaload, 1) := by decide +kernel
theorem d_O_copies_36 : decode b_O_copies 36 = .ok (.iload 6, 2) := by decide +kernel
theorem d_O_copies_38 : decode b_O_copies 38 = .ok (.invokestatic 106, 3) := by decide +kernel
theorem d_O_copies_41 : decode b_O_copies 41 = .ok (.ishr, 1) := by decide +kernel
theorem d_O_copies_42 : decode b_O_copies 42 = .ok (.iconst 1, 1) := by decide +kernel
theorem d_O_copies_43 : decode b_O_copies 43 = .ok (.iand, 1) := by decide +kernel
theorem d_O_copies_44 : decode b_O_copies 44 = .ok (.ifCond .ne 6, 3) := by decide +kernel
theorem d_O_copies_47 : decode b_O_copies 47 = .ok (.goto 37, 3) := by decide +kernel
theorem d_O_copies_50 : decode b_O_copies 50 = .ok (.aload_n 0, 1) := by decide +kernel
theorem d_O_copies_51 : decode b_O_copies 51 = .ok (.getfield 57, 3) := by decide +kernel
theorem d_O_copies_54 : decode b_O_copies 54 = .ok (.iload 6, 2) := by decide +kernel
theorem d_O_copies_56 : decode b_O_copies 56 = .ok (.invokestatic 106, 3) := by decide +kernel
theorem d_O_copies_59 : decode b_O_copies 59 = .ok (.iaload, 1) := by decide +kernel
theorem d_O_copies_60 : decode b_O_copies 60 = .ok (.istore 7, 2) := by decide +kernel
theorem d_O_copies_62 : decode b_O_copies 62 = .ok (.iload 4, 2) := by decide +kernel
theorem d_O_copies_64 : decode b_O_copies 64 = .ok (.bipush (-2), 2) := by decide +kernel
theorem d_O_copies_66 : decode b_O_copies 66 = .ok (.if_icmp .eq 10, 3) := by decide +kernel
theorem d_O_copies_69 : decode b_O_copies 69 = .ok (.iload 4, 2) := by decide +kernel
theorem d_O_copies_71 : decode b_O_copies 71 = .ok (.iload 7, 2) := by decide +kernel
theorem d_O_copies_73 : decode b_O_copies 73 = .ok (.if_icmp .ne 8, 3) := by decide +kernel
theorem d_O_copies_76 : decode b_O_copies 76 = .ok (.iload 7, 2) := by decide +kernel
theorem d_O_copies_78 : decode b_O_copies 78 = .ok (.goto 4, 3) := by decide +kernel
theorem d_O_copies_81 : decode b_O_copies 81 = .ok (.iconst (-1), 1) := by decide +kernel
theorem d_O_copies_82 : decode b_O_copies 82 = .ok (.istore 4, 2) := by decide +kernel
theorem d_O_copies_84 : decode b_O_copies 84 = .ok (.iinc 5 1, 3) := by decide +kernel
theorem d_O_copies_87 : decode b_O_copies 87 = .ok (.goto (-80), 3) := by decide +kernel
theorem d_O_copies_90 : decode b_O_copies 90 = .ok (.iload 4, 2) := by decide +kernel
theorem d_O_copies_92 : decode b_O_copies 92 = .ok (.ireturn, 1) := by decide +kernel
theorem d_O_expandName_0 : decode b_O_expandName 0 = .ok (.aload_n 0, 1) := by decide +kernel
theorem d_O_expandName_1 : decode b_O_expandName 1 = .ok (.iload_n 1, 1) := by decide +kernel
theorem d_O_expandName_2 : decode b_O_expandName 2 = .ok (.invokevirtual 242, 3) := by decide +kernel
theorem d_O_expandName_5 : decode b_O_expandName 5 = .ok (.istore_n 2, 1) := by decide +kernel
theorem d_O_expandName_6 : decode b_O_expandName 6 = .ok (.aload_n 0, 1) := by decide +kernel
theorem d_O_expandName_7 : decode b_O_expandName 7 = .ok (.iload_n 2, 1) := by decide +kernel
theorem d_O_expandName_8 : decode b_O_expandName 8 = .ok (.ifCond .lt 11, 3) := by decide +kernel
theorem d_O_expandName_11 : decode b_O_expandName 11 = .ok (.sipush 200, 3) := by decide +kernel
theorem d_O_expandName_14 : decode b_O_expandName 14 = .ok (.iload_n 2, 1) := by decide +kernel
theorem d_O_expandName_15 : decode b_O_expandName 15 = .ok (.iadd, 1) := by decide +kernel
theorem d_O_expandName_16 : decode b_O_expandName 16 = .ok (.goto 10, 3) := by decide +kernel
theorem d_O_expandName_19 : decode b_O_expandName 19 = .ok (.bipush 100, 2) := by decide +kernel
theorem d_O_expandName_21 : decode b_O_expandName 21 = .ok (.iload_n 1, 1) := by decide +kernel
theorem d_O_expandName_22 : decode b_O_expandName 22 = .ok (.invokestatic 106, 3) := by decide +kernel
theorem d_O_expandName_25 : decode b_O_expandName 25 = .ok (.iadd, 1) := by decide +kernel
theorem d_O_expandName_26 : decode b_O_expandName 26 = .ok (.invokevirtual 245, 3) := by decide +kernel
theorem d_O_expandName_29 : decode b_O_expandName 29 = .ok (.aload_n 0, 1) := by decide +kernel
theorem d_O_expandName_30 : decode b_O_expandName 30 = .ok (.dup, 1) := by decide +kernel
theorem d_O_expandName_31 : decode b_O_expandName 31 = .ok (.getfield 182, 3) := by decide +kernel
theorem d_O_expandName_34 : decode b_O_expandName 34 = .ok (.iconst 1, 1) := by decide +kernel
theorem d_O_expandName_35 : decode b_O_expandName 35 = .ok (.iadd, 1) := by decide +kernel
theorem d_O_expandName_36 : decode b_O_expandName 36 = .ok (.putfield 182, 3) := by decide +kernel
theorem d_O_expandName_39 : decode b_O_expandName 39 = .ok (.return_, 1) := by decide +kernel

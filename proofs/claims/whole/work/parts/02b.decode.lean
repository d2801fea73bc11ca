theorem zd_Ledger_move_12 : decode zc_Ledger_move 12 = .ok (.iload 4, 2) := by decide +kernel
theorem zd_Ledger_move_14 : decode zc_Ledger_move 14 = .ok (.iadd, 1) := by decide +kernel
theorem zd_Ledger_move_15 : decode zc_Ledger_move 15 = .ok (.iastore, 1) := by decide +kernel
theorem zd_Ledger_move_16 : decode zc_Ledger_move 16 = .ok (.return_, 1) := by decide +kernel
theorem zd_Ledger_takeOut_0 : decode zc_Ledger_takeOut 0 = .ok (.aload_n 0, 1) := by decide +kernel
theorem zd_Ledger_takeOut_1 : decode zc_Ledger_takeOut 1 = .ok (.dup, 1) := by decide +kernel
theorem zd_Ledger_takeOut_2 : decode zc_Ledger_takeOut 2 = .ok (.getfield 66, 3) := by decide +kernel
theorem zd_Ledger_takeOut_5 : decode zc_Ledger_takeOut 5 = .ok (.iconst 1, 1) := by decide +kernel
theorem zd_Ledger_takeOut_6 : decode zc_Ledger_takeOut 6 = .ok (.isub, 1) := by decide +kernel
theorem zd_Ledger_takeOut_7 : decode zc_Ledger_takeOut 7 = .ok (.putfield 66, 3) := by decide +kernel
theorem zd_Ledger_takeOut_10 : decode zc_Ledger_takeOut 10 = .ok (.iload_n 1, 1) := by decide +kernel
theorem zd_Ledger_takeOut_11 : decode zc_Ledger_takeOut 11 = .ok (.istore_n 2, 1) := by decide +kernel
theorem zd_Ledger_takeOut_12 : decode zc_Ledger_takeOut 12 = .ok (.iload_n 2, 1) := by decide +kernel
theorem zd_Ledger_takeOut_13 : decode zc_Ledger_takeOut 13 = .ok (.aload_n 0, 1) := by decide +kernel
theorem zd_Ledger_takeOut_14 : decode zc_Ledger_takeOut 14 = .ok (.getfield 66, 3) := by decide +kernel
theorem zd_Ledger_takeOut_17 : decode zc_Ledger_takeOut 17 = .ok (.if_icmp .ge 23, 3) := by decide +kernel
theorem zd_Ledger_takeOut_20 : decode zc_Ledger_takeOut 20 = .ok (.aload_n 0, 1) := by decide +kernel
theorem zd_Ledger_takeOut_21 : decode zc_Ledger_takeOut 21 = .ok (.getfield 20, 3) := by decide +kernel
theorem zd_Ledger_takeOut_24 : decode zc_Ledger_takeOut 24 = .ok (.iload_n 2, 1) := by decide +kernel
theorem zd_Ledger_takeOut_25 : decode zc_Ledger_takeOut 25 = .ok (.aload_n 0, 1) := by decide +kernel
theorem zd_Ledger_takeOut_26 : decode zc_Ledger_takeOut 26 = .ok (.getfield 20, 3) := by decide +kernel
theorem zd_Ledger_takeOut_29 : decode zc_Ledger_takeOut 29 = .ok (.iload_n 2, 1) := by decide +kernel
theorem zd_Ledger_takeOut_30 : decode zc_Ledger_takeOut 30 = .ok (.iconst 1, 1) := by decide +kernel
theorem zd_Ledger_takeOut_31 : decode zc_Ledger_takeOut 31 = .ok (.iadd, 1) := by decide +kernel
theorem zd_Ledger_takeOut_32 : decode zc_Ledger_takeOut 32 = .ok (.aaload, 1) := by decide +kernel
theorem zd_Ledger_takeOut_33 : decode zc_Ledger_takeOut 33 = .ok (.aastore, 1) := by decide +kernel
theorem zd_Ledger_takeOut_34 : decode zc_Ledger_takeOut 34 = .ok (.iinc 2 1, 3) := by decide +kernel
theorem zd_Ledger_takeOut_37 : decode zc_Ledger_takeOut 37 = .ok (.goto (-25), 3) := by decide +kernel
theorem zd_Ledger_takeOut_40 : decode zc_Ledger_takeOut 40 = .ok (.aload_n 0, 1) := by decide +kernel
theorem zd_Ledger_takeOut_41 : decode zc_Ledger_takeOut 41 = .ok (.getfield 20, 3) := by decide +kernel
theorem zd_Ledger_takeOut_44 : decode zc_Ledger_takeOut 44 = .ok (.aload_n 0, 1) := by decide +kernel
theorem zd_Ledger_takeOut_45 : decode zc_Ledger_takeOut 45 = .ok (.getfield 66, 3) := by decide +kernel
theorem zd_Ledger_takeOut_48 : decode zc_Ledger_takeOut 48 = .ok (.aconst_null, 1) := by decide +kernel
theorem zd_Ledger_takeOut_49 : decode zc_Ledger_takeOut 49 = .ok (.aastore, 1) := by decide +kernel
theorem zd_Ledger_takeOut_50 : decode zc_Ledger_takeOut 50 = .ok (.return_, 1) := by decide +kernel
theorem zd_Ledger_tradeWith_0 : decode zc_Ledger_tradeWith 0 = .ok (.aload_n 0, 1) := by decide +kernel
theorem zd_Ledger_tradeWith_1 : decode zc_Ledger_tradeWith 1 = .ok (.getfield 20, 3) := by decide +kernel
theorem zd_Ledger_tradeWith_4 : decode zc_Ledger_tradeWith 4 = .ok (.iload_n 2, 1) := by decide +kernel
theorem zd_Ledger_tradeWith_5 : decode zc_Ledger_tradeWith 5 = .ok (.aaload, 1) := by decide +kernel
theorem zd_Ledger_tradeWith_6 : decode zc_Ledger_tradeWith 6 = .ok (.astore_n 3, 1) := by decide +kernel
theorem zd_Ledger_tradeWith_7 : decode zc_Ledger_tradeWith 7 = .ok (.aload_n 3, 1) := by decide +kernel
theorem zd_Ledger_tradeWith_8 : decode zc_Ledger_tradeWith 8 = .ok (.ifnull 11, 3) := by decide +kernel
theorem zd_Ledger_tradeWith_11 : decode zc_Ledger_tradeWith 11 = .ok (.aload_n 3, 1) := by decide +kernel
theorem zd_Ledger_tradeWith_12 : decode zc_Ledger_tradeWith 12 = .ok (.getfield 72, 3) := by decide +kernel
theorem zd_Ledger_tradeWith_15 : decode zc_Ledger_tradeWith 15 = .ok (.iconst 1, 1) := by decide +kernel
theorem zd_Ledger_tradeWith_16 : decode zc_Ledger_tradeWith 16 = .ok (.if_icmp .ge 5, 3) := by decide +kernel
theorem zd_Ledger_tradeWith_19 : decode zc_Ledger_tradeWith 19 = .ok (.iconst 0, 1) := by decide +kernel
theorem zd_Ledger_tradeWith_20 : decode zc_Ledger_tradeWith 20 = .ok (.ireturn, 1) := by decide +kernel
theorem zd_Ledger_tradeWith_21 : decode zc_Ledger_tradeWith 21 = .ok (.aload_n 1, 1) := by decide +kernel
theorem zd_Ledger_tradeWith_22 : decode zc_Ledger_tradeWith 22 = .ok (.invokevirtual 83, 3) := by decide +kernel
theorem zd_Ledger_tradeWith_25 : decode zc_Ledger_tradeWith 25 = .ok (.ifCond .eq 10, 3) := by decide +kernel
theorem zd_Ledger_tradeWith_28 : decode zc_Ledger_tradeWith 28 = .ok (.aload_n 1, 1) := by decide +kernel
theorem zd_Ledger_tradeWith_29 : decode zc_Ledger_tradeWith 29 = .ok (.getfield 87, 3) := by decide +kernel
theorem zd_Ledger_tradeWith_32 : decode zc_Ledger_tradeWith 32 = .ok (.goto 7, 3) := by decide +kernel
theorem zd_Ledger_tradeWith_35 : decode zc_Ledger_tradeWith 35 = .ok (.aload_n 3, 1) := by decide +kernel
theorem zd_Ledger_tradeWith_36 : decode zc_Ledger_tradeWith 36 = .ok (.getfield 87, 3) := by decide +kernel
theorem zd_Ledger_tradeWith_39 : decode zc_Ledger_tradeWith 39 = .ok (.istore 4, 2) := by decide +kernel
theorem zd_Ledger_tradeWith_41 : decode zc_Ledger_tradeWith 41 = .ok (.aload_n 1, 1) := by decide +kernel
theorem zd_Ledger_tradeWith_42 : decode zc_Ledger_tradeWith 42 = .ok (.invokevirtual 83, 3) := by decide +kernel
theorem zd_Ledger_tradeWith_45 : decode zc_Ledger_tradeWith 45 = .ok (.ifCond .eq 10, 3) := by decide +kernel
theorem zd_Ledger_tradeWith_48 : decode zc_Ledger_tradeWith 48 = .ok (.aload_n 3, 1) := by decide +kernel
theorem zd_Ledger_tradeWith_49 : decode zc_Ledger_tradeWith 49 = .ok (.getfield 87, 3) := by decide +kernel
theorem zd_Ledger_tradeWith_52 : decode zc_Ledger_tradeWith 52 = .ok (.goto 7, 3) := by decide +kernel
theorem zd_Ledger_tradeWith_55 : decode zc_Ledger_tradeWith 55 = .ok (.aload_n 1, 1) := by decide +kernel
theorem zd_Ledger_tradeWith_56 : decode zc_Ledger_tradeWith 56 = .ok (.getfield 87, 3) := by decide +kernel
theorem zd_Ledger_tradeWith_59 : decode zc_Ledger_tradeWith 59 = .ok (.istore 5, 2) := by decide +kernel
theorem zd_Ledger_tradeWith_61 : decode zc_Ledger_tradeWith 61 = .ok (.aload_n 0, 1) := by decide +kernel
theorem zd_Ledger_tradeWith_62 : decode zc_Ledger_tradeWith 62 = .ok (.getfield 9, 3) := by decide +kernel
theorem zd_Ledger_tradeWith_65 : decode zc_Ledger_tradeWith 65 = .ok (.iload 5, 2) := by decide +kernel
theorem zd_Ledger_tradeWith_67 : decode zc_Ledger_tradeWith 67 = .ok (.iaload, 1) := by decide +kernel
theorem zd_Ledger_tradeWith_68 : decode zc_Ledger_tradeWith 68 = .ok (.aload_n 3, 1) := by decide +kernel
theorem zd_Ledger_tradeWith_69 : decode zc_Ledger_tradeWith 69 = .ok (.getfield 72, 3) := by decide +kernel
theorem zd_Ledger_tradeWith_72 : decode zc_Ledger_tradeWith 72 = .ok (.idiv, 1) := by decide +kernel
theorem zd_Ledger_tradeWith_73 : decode zc_Ledger_tradeWith 73 = .ok (.istore 6, 2) := by decide +kernel
theorem zd_Ledger_tradeWith_75 : decode zc_Ledger_tradeWith 75 = .ok (.aload_n 1, 1) := by decide +kernel
theorem zd_Ledger_tradeWith_76 : decode zc_Ledger_tradeWith 76 = .ok (.getfield 57, 3) := by decide +kernel
theorem zd_Ledger_tradeWith_79 : decode zc_Ledger_tradeWith 79 = .ok (.aload_n 3, 1) := by decide +kernel
theorem zd_Ledger_tradeWith_80 : decode zc_Ledger_tradeWith 80 = .ok (.getfield 57, 3) := by decide +kernel
theorem zd_Ledger_tradeWith_83 : decode zc_Ledger_tradeWith 83 = .ok (.invokestatic 90, 3) := by decide +kernel
theorem zd_Ledger_tradeWith_86 : decode zc_Ledger_tradeWith 86 = .ok (.aload_n 0, 1) := by decide +kernel
theorem zd_Ledger_tradeWith_87 : decode zc_Ledger_tradeWith 87 = .ok (.getfield 15, 3) := by decide +kernel
theorem zd_Ledger_tradeWith_90 : decode zc_Ledger_tradeWith 90 = .ok (.iload 4, 2) := by decide +kernel
theorem zd_Ledger_tradeWith_92 : decode zc_Ledger_tradeWith 92 = .ok (.iaload, 1) := by decide +kernel
theorem zd_Ledger_tradeWith_93 : decode zc_Ledger_tradeWith 93 = .ok (.iload 6, 2) := by decide +kernel
theorem zd_Ledger_tradeWith_95 : decode zc_Ledger_tradeWith 95 = .ok (.invokestatic 90, 3) := by decide +kernel
theorem zd_Ledger_tradeWith_98 : decode zc_Ledger_tradeWith 98 = .ok (.invokestatic 90, 3) := by decide +kernel
theorem zd_Ledger_tradeWith_101 : decode zc_Ledger_tradeWith 101 = .ok (.istore 7, 2) := by decide +kernel
theorem zd_Ledger_tradeWith_103 : decode zc_Ledger_tradeWith 103 = .ok (.iload 7, 2) := by decide +kernel
theorem zd_Ledger_tradeWith_105 : decode zc_Ledger_tradeWith 105 = .ok (.ifCond .ne 13, 3) := by decide +kernel
theorem zd_Ledger_tradeWith_108 : decode zc_Ledger_tradeWith 108 = .ok (.aload_n 0, 1) := by decide +kernel
theorem zd_Ledger_tradeWith_109 : decode zc_Ledger_tradeWith 109 = .ok (.aload_n 3, 1) := by decide +kernel
theorem zd_Ledger_tradeWith_110 : decode zc_Ledger_tradeWith 110 = .ok (.invokevirtual 96, 3) := by decide +kernel
theorem zd_Ledger_tradeWith_113 : decode zc_Ledger_tradeWith 113 = .ok (.ifCond .eq 5, 3) := by decide +kernel
theorem zd_Ledger_tradeWith_116 : decode zc_Ledger_tradeWith 116 = .ok (.iconst 0, 1) := by decide +kernel
theorem zd_Ledger_tradeWith_117 : decode zc_Ledger_tradeWith 117 = .ok (.ireturn, 1) := by decide +kernel
theorem zd_Ledger_tradeWith_118 : decode zc_Ledger_tradeWith 118 = .ok (.aload_n 1, 1) := by decide +kernel
theorem zd_Ledger_tradeWith_119 : decode zc_Ledger_tradeWith 119 = .ok (.dup, 1) := by decide +kernel
theorem zd_Ledger_tradeWith_120 : decode zc_Ledger_tradeWith 120 = .ok (.getfield 57, 3) := by decide +kernel
theorem zd_Ledger_tradeWith_123 : decode zc_Ledger_tradeWith 123 = .ok (.iload 7, 2) := by decide +kernel
theorem zd_Ledger_tradeWith_125 : decode zc_Ledger_tradeWith 125 = .ok (.isub, 1) := by decide +kernel
theorem zd_Ledger_tradeWith_126 : decode zc_Ledger_tradeWith 126 = .ok (.putfield 57, 3) := by decide +kernel
theorem zd_Ledger_tradeWith_129 : decode zc_Ledger_tradeWith 129 = .ok (.aload_n 3, 1) := by decide +kernel
theorem zd_Ledger_tradeWith_130 : decode zc_Ledger_tradeWith 130 = .ok (.dup, 1) := by decide +kernel
theorem zd_Ledger_tradeWith_131 : decode zc_Ledger_tradeWith 131 = .ok (.getfield 57, 3) := by decide +kernel
theorem zd_Ledger_tradeWith_134 : decode zc_Ledger_tradeWith 134 = .ok (.iload 7, 2) := by decide +kernel
theorem zd_Ledger_tradeWith_136 : decode zc_Ledger_tradeWith 136 = .ok (.isub, 1) := by decide +kernel
theorem zd_Ledger_tradeWith_137 : decode zc_Ledger_tradeWith 137 = .ok (.putfield 57, 3) := by decide +kernel
theorem zd_Ledger_tradeWith_140 : decode zc_Ledger_tradeWith 140 = .ok (.aload_n 0, 1) := by decide +kernel
theorem zd_Ledger_tradeWith_141 : decode zc_Ledger_tradeWith 141 = .ok (.aload_n 0, 1) := by decide +kernel
theorem zd_Ledger_tradeWith_142 : decode zc_Ledger_tradeWith 142 = .ok (.getfield 15, 3) := by decide +kernel
theorem zd_Ledger_tradeWith_145 : decode zc_Ledger_tradeWith 145 = .ok (.iload 4, 2) := by decide +kernel
theorem zd_Ledger_tradeWith_147 : decode zc_Ledger_tradeWith 147 = .ok (.iload 5, 2) := by decide +kernel
theorem zd_Ledger_tradeWith_149 : decode zc_Ledger_tradeWith 149 = .ok (.iload 7, 2) := by decide +kernel
theorem zd_Ledger_tradeWith_151 : decode zc_Ledger_tradeWith 151 = .ok (.invokevirtual 53, 3) := by decide +kernel
theorem zd_Ledger_tradeWith_154 : decode zc_Ledger_tradeWith 154 = .ok (.aload_n 0, 1) := by decide +kernel
theorem zd_Ledger_tradeWith_155 : decode zc_Ledger_tradeWith 155 = .ok (.aload_n 0, 1) := by decide +kernel
theorem zd_Ledger_tradeWith_156 : decode zc_Ledger_tradeWith 156 = .ok (.getfield 9, 3) := by decide +kernel
theorem zd_Ledger_tradeWith_159 : decode zc_Ledger_tradeWith 159 = .ok (.iload 5, 2) := by decide +kernel
theorem zd_Ledger_tradeWith_161 : decode zc_Ledger_tradeWith 161 = .ok (.iload 4, 2) := by decide +kernel
theorem zd_Ledger_tradeWith_163 : decode zc_Ledger_tradeWith 163 = .ok (.iload 7, 2) := by decide +kernel
theorem zd_Ledger_tradeWith_165 : decode zc_Ledger_tradeWith 165 = .ok (.aload_n 3, 1) := by decide +kernel
theorem zd_Ledger_tradeWith_166 : decode zc_Ledger_tradeWith 166 = .ok (.getfield 72, 3) := by decide +kernel
theorem zd_Ledger_tradeWith_169 : decode zc_Ledger_tradeWith 169 = .ok (.imul, 1) := by decide +kernel
theorem zd_Ledger_tradeWith_170 : decode zc_Ledger_tradeWith 170 = .ok (.invokevirtual 53, 3) := by decide +kernel
theorem zd_Ledger_tradeWith_173 : decode zc_Ledger_tradeWith 173 = .ok (.iload 7, 2) := by decide +kernel
theorem zd_Ledger_tradeWith_175 : decode zc_Ledger_tradeWith 175 = .ok (.ifCond .eq 10, 3) := by decide +kernel
theorem zd_Ledger_tradeWith_178 : decode zc_Ledger_tradeWith 178 = .ok (.aload_n 3, 1) := by decide +kernel
theorem zd_Ledger_tradeWith_179 : decode zc_Ledger_tradeWith 179 = .ok (.getfield 57, 3) := by decide +kernel
theorem zd_Ledger_tradeWith_182 : decode zc_Ledger_tradeWith 182 = .ok (.ifCond .ne 8, 3) := by decide +kernel
theorem zd_Ledger_tradeWith_185 : decode zc_Ledger_tradeWith 185 = .ok (.aload_n 0, 1) := by decide +kernel
theorem zd_Ledger_tradeWith_186 : decode zc_Ledger_tradeWith 186 = .ok (.iload_n 2, 1) := by decide +kernel
theorem zd_Ledger_tradeWith_187 : decode zc_Ledger_tradeWith 187 = .ok (.invokevirtual 100, 3) := by decide +kernel
theorem zd_Ledger_tradeWith_190 : decode zc_Ledger_tradeWith 190 = .ok (.iconst 1, 1) := by decide +kernel
theorem zd_Ledger_tradeWith_191 : decode zc_Ledger_tradeWith 191 = .ok (.ireturn, 1) := by decide +kernel
theorem zd_Ledger_match_0 : decode zc_Ledger_match 0 = .ok (.iconst 1, 1) := by decide +kernel
theorem zd_Ledger_match_1 : decode zc_Ledger_match 1 = .ok (.istore_n 2, 1) := by decide +kernel
theorem zd_Ledger_match_2 : decode zc_Ledger_match 2 = .ok (.iconst 0, 1) := by decide +kernel
theorem zd_Ledger_match_3 : decode zc_Ledger_match 3 = .ok (.istore_n 3, 1) := by decide +kernel
theorem zd_Ledger_match_4 : decode zc_Ledger_match 4 = .ok (.iload_n 3, 1) := by decide +kernel
theorem zd_Ledger_match_5 : decode zc_Ledger_match 5 = .ok (.sipush 1009, 3) := by decide +kernel
theorem zd_Ledger_match_8 : decode zc_Ledger_match 8 = .ok (.if_icmp .ge 49, 3) := by decide +kernel
theorem zd_Ledger_match_11 : decode zc_Ledger_match 11 = .ok (.iload_n 2, 1) := by decide +kernel
theorem zd_Ledger_match_12 : decode zc_Ledger_match 12 = .ok (.ifCond .eq 45, 3) := by decide +kernel
theorem zd_Ledger_match_15 : decode zc_Ledger_match 15 = .ok (.aload_n 1, 1) := by decide +kernel
theorem zd_Ledger_match_16 : decode zc_Ledger_match 16 = .ok (.getfield 57, 3) := by decide +kernel
theorem zd_Ledger_match_19 : decode zc_Ledger_match 19 = .ok (.ifCond .le 38, 3) := by decide +kernel
theorem zd_Ledger_match_22 : decode zc_Ledger_match 22 = .ok (.aload_n 0, 1) := by decide +kernel
theorem zd_Ledger_match_23 : decode zc_Ledger_match 23 = .ok (.aload_n 1, 1) := by decide +kernel
theorem zd_Ledger_match_24 : decode zc_Ledger_match 24 = .ok (.invokevirtual 58, 3) := by decide +kernel
theorem zd_Ledger_match_27 : decode zc_Ledger_match 27 = .ok (.istore 4, 2) := by decide +kernel
theorem zd_Ledger_match_29 : decode zc_Ledger_match 29 = .ok (.iload 4, 2) := by decide +kernel
theorem zd_Ledger_match_31 : decode zc_Ledger_match 31 = .ok (.iconst (-1), 1) := by decide +kernel
theorem zd_Ledger_match_32 : decode zc_Ledger_match 32 = .ok (.if_icmp .eq 17, 3) := by decide +kernel
theorem zd_Ledger_match_35 : decode zc_Ledger_match 35 = .ok (.aload_n 0, 1) := by decide +kernel
theorem zd_Ledger_match_36 : decode zc_Ledger_match 36 = .ok (.aload_n 1, 1) := by decide +kernel
theorem zd_Ledger_match_37 : decode zc_Ledger_match 37 = .ok (.iload 4, 2) := by decide +kernel
theorem zd_Ledger_match_39 : decode zc_Ledger_match 39 = .ok (.invokevirtual 62, 3) := by decide +kernel
theorem zd_Ledger_match_42 : decode zc_Ledger_match 42 = .ok (.ifCond .eq 7, 3) := by decide +kernel
theorem zd_Ledger_match_45 : decode zc_Ledger_match 45 = .ok (.iconst 1, 1) := by decide +kernel
theorem zd_Ledger_match_46 : decode zc_Ledger_match 46 = .ok (.goto 4, 3) := by decide +kernel
theorem zd_Ledger_match_49 : decode zc_Ledger_match 49 = .ok (.iconst 0, 1) := by decide +kernel
theorem zd_Ledger_match_50 : decode zc_Ledger_match 50 = .ok (.istore_n 2, 1) := by decide +kernel
theorem zd_Ledger_match_51 : decode zc_Ledger_match 51 = .ok (.iinc 3 1, 3) := by decide +kernel
theorem zd_Ledger_match_54 : decode zc_Ledger_match 54 = .ok (.goto (-50), 3) := by decide +kernel
theorem zd_Ledger_match_57 : decode zc_Ledger_match 57 = .ok (.aload_n 1, 1) := by decide +kernel
theorem zd_Ledger_match_58 : decode zc_Ledger_match 58 = .ok (.getfield 57, 3) := by decide +kernel
theorem zd_Ledger_match_61 : decode zc_Ledger_match 61 = .ok (.ifCond .le 32, 3) := by decide +kernel
theorem zd_Ledger_match_64 : decode zc_Ledger_match 64 = .ok (.aload_n 0, 1) := by decide +kernel
theorem zd_Ledger_match_65 : decode zc_Ledger_match 65 = .ok (.getfield 66, 3) := by decide +kernel
theorem zd_Ledger_match_68 : decode zc_Ledger_match 68 = .ok (.bipush 8, 2) := by decide +kernel
theorem zd_Ledger_match_70 : decode zc_Ledger_match 70 = .ok (.if_icmp .ge 23, 3) := by decide +kernel
theorem zd_Ledger_match_73 : decode zc_Ledger_match 73 = .ok (.aload_n 0, 1) := by decide +kernel
theorem zd_Ledger_match_74 : decode zc_Ledger_match 74 = .ok (.getfield 20, 3) := by decide +kernel
theorem zd_Ledger_match_77 : decode zc_Ledger_match 77 = .ok (.aload_n 0, 1) := by decide +kernel
theorem zd_Ledger_match_78 : decode zc_Ledger_match 78 = .ok (.getfield 66, 3) := by decide +kernel
theorem zd_Ledger_match_81 : decode zc_Ledger_match 81 = .ok (.aload_n 1, 1) := by decide +kernel
theorem zd_Ledger_match_82 : decode zc_Ledger_match 82 = .ok (.aastore, 1) := by decide +kernel
theorem zd_Ledger_match_83 : decode zc_Ledger_match 83 = .ok (.aload_n 0, 1) := by decide +kernel
theorem zd_Ledger_match_84 : decode zc_Ledger_match 84 = .ok (.dup, 1) := by decide +kernel
theorem zd_Ledger_match_85 : decode zc_Ledger_match 85 = .ok (.getfield 66, 3) := by decide +kernel
theorem zd_Ledger_match_88 : decode zc_Ledger_match 88 = .ok (.iconst 1, 1) := by decide +kernel
theorem zd_Ledger_match_89 : decode zc_Ledger_match 89 = .ok (.iadd, 1) := by decide +kernel
theorem zd_Ledger_match_90 : decode zc_Ledger_match 90 = .ok (.putfield 66, 3) := by decide +kernel
theorem zd_Ledger_match_93 : decode zc_Ledger_match 93 = .ok (.return_, 1) := by decide +kernel
theorem zd_Ledger_holdings_0 : decode zc_Ledger_holdings 0 = .ok (.iload_n 1, 1) := by decide +kernel
theorem zd_Ledger_holdings_1 : decode zc_Ledger_holdings 1 = .ok (.ifCond .ne 10, 3) := by decide +kernel
theorem zd_Ledger_holdings_4 : decode zc_Ledger_holdings 4 = .ok (.aload_n 0, 1) := by decide +kernel
theorem zd_Ledger_holdings_5 : decode zc_Ledger_holdings 5 = .ok (.getfield 9, 3) := by decide +kernel
theorem zd_Ledger_holdings_8 : decode zc_Ledger_holdings 8 = .ok (.goto 7, 3) := by decide +kernel
theorem zd_Ledger_holdings_11 : decode zc_Ledger_holdings 11 = .ok (.aload_n 0, 1) := by decide +kernel
theorem zd_Ledger_holdings_12 : decode zc_Ledger_holdings 12 = .ok (.getfield 15, 3) := by decide +kernel
theorem zd_Ledger_holdings_15 : decode zc_Ledger_holdings 15 = .ok (.areturn, 1) := by decide +kernel
theorem zd_Ledger_carryOut_0 : decode zc_Ledger_carryOut 0 = .ok (.aload_n 0, 1) := by decide +kernel
theorem zd_Ledger_carryOut_1 : decode zc_Ledger_carryOut 1 = .ok (.getfield 9, 3) := by decide +kernel
theorem zd_Ledger_carryOut_4 : decode zc_Ledger_carryOut 4 = .ok (.aload_n 1, 1) := by decide +kernel
theorem zd_Ledger_carryOut_5 : decode zc_Ledger_carryOut 5 = .ok (.getfield 24, 3) := by decide +kernel
theorem zd_Ledger_carryOut_8 : decode zc_Ledger_carryOut 8 = .ok (.iaload, 1) := by decide +kernel
theorem zd_Ledger_carryOut_9 : decode zc_Ledger_carryOut 9 = .ok (.ifCond .ne 4, 3) := by decide +kernel
theorem zd_Ledger_carryOut_12 : decode zc_Ledger_carryOut 12 = .ok (.return_, 1) := by decide +kernel
theorem zd_Ledger_carryOut_13 : decode zc_Ledger_carryOut 13 = .ok (.aload_n 0, 1) := by decide +kernel
theorem zd_Ledger_carryOut_14 : decode zc_Ledger_carryOut 14 = .ok (.getfield 9, 3) := by decide +kernel
theorem zd_Ledger_carryOut_17 : decode zc_Ledger_carryOut 17 = .ok (.aload_n 1, 1) := by decide +kernel
theorem zd_Ledger_carryOut_18 : decode zc_Ledger_carryOut 18 = .ok (.getfield 24, 3) := by decide +kernel
theorem zd_Ledger_carryOut_21 : decode zc_Ledger_carryOut 21 = .ok (.dup2, 1) := by decide +kernel
theorem zd_Ledger_carryOut_22 : decode zc_Ledger_carryOut 22 = .ok (.iaload, 1) := by decide +kernel
theorem zd_Ledger_carryOut_23 : decode zc_Ledger_carryOut 23 = .ok (.iconst 1, 1) := by decide +kernel
theorem zd_Ledger_carryOut_24 : decode zc_Ledger_carryOut 24 = .ok (.isub, 1) := by decide +kernel
theorem zd_Ledger_carryOut_25 : decode zc_Ledger_carryOut 25 = .ok (.iastore, 1) := by decide +kernel
theorem zd_Ledger_carryOut_26 : decode zc_Ledger_carryOut 26 = .ok (.aload_n 1, 1) := by decide +kernel
theorem zd_Ledger_carryOut_27 : decode zc_Ledger_carryOut 27 = .ok (.getfield 30, 3) := by decide +kernel
theorem zd_Ledger_carryOut_30 : decode zc_Ledger_carryOut 30 = .ok (.iconst 1, 1) := by decide +kernel
theorem zd_Ledger_carryOut_31 : decode zc_Ledger_carryOut 31 = .ok (.if_icmp .ne 33, 3) := by decide +kernel
theorem zd_Ledger_carryOut_34 : decode zc_Ledger_carryOut 34 = .ok (.aload_n 0, 1) := by decide +kernel
theorem zd_Ledger_carryOut_35 : decode zc_Ledger_carryOut 35 = .ok (.new 18, 3) := by decide +kernel
theorem zd_Ledger_carryOut_38 : decode zc_Ledger_carryOut 38 = .ok (.dup, 1) := by decide +kernel
theorem zd_Ledger_carryOut_39 : decode zc_Ledger_carryOut 39 = .ok (.aload_n 1, 1) := by decide +kernel
theorem zd_Ledger_carryOut_40 : decode zc_Ledger_carryOut 40 = .ok (.getfield 24, 3) := by decide +kernel
theorem zd_Ledger_carryOut_43 : decode zc_Ledger_carryOut 43 = .ok (.aload_n 1, 1) := by decide +kernel
theorem zd_Ledger_carryOut_44 : decode zc_Ledger_carryOut 44 = .ok (.getfield 33, 3) := by decide +kernel
theorem zd_Ledger_carryOut_47 : decode zc_Ledger_carryOut 47 = .ok (.aload_n 1, 1) := by decide +kernel
theorem zd_Ledger_carryOut_48 : decode zc_Ledger_carryOut 48 = .ok (.getfield 36, 3) := by decide +kernel
theorem zd_Ledger_carryOut_51 : decode zc_Ledger_carryOut 51 = .ok (.aload_n 1, 1) := by decide +kernel
theorem zd_Ledger_carryOut_52 : decode zc_Ledger_carryOut 52 = .ok (.getfield 39, 3) := by decide +kernel
theorem zd_Ledger_carryOut_55 : decode zc_Ledger_carryOut 55 = .ok (.invokespecial 42, 3) := by decide +kernel
theorem zd_Ledger_carryOut_58 : decode zc_Ledger_carryOut 58 = .ok (.invokevirtual 45, 3) := by decide +kernel
theorem zd_Ledger_carryOut_61 : decode zc_Ledger_carryOut 61 = .ok (.goto 47, 3) := by decide +kernel
theorem zd_Ledger_carryOut_64 : decode zc_Ledger_carryOut 64 = .ok (.aload_n 0, 1) := by decide +kernel
theorem zd_Ledger_carryOut_65 : decode zc_Ledger_carryOut 65 = .ok (.aload_n 1, 1) := by decide +kernel
theorem zd_Ledger_carryOut_66 : decode zc_Ledger_carryOut 66 = .ok (.getfield 33, 3) := by decide +kernel
theorem zd_Ledger_carryOut_69 : decode zc_Ledger_carryOut 69 = .ok (.invokevirtual 49, 3) := by decide +kernel
theorem zd_Ledger_carryOut_72 : decode zc_Ledger_carryOut 72 = .ok (.aload_n 1, 1) := by decide +kernel
theorem zd_Ledger_carryOut_73 : decode zc_Ledger_carryOut 73 = .ok (.getfield 24, 3) := by decide +kernel
theorem zd_Ledger_carryOut_76 : decode zc_Ledger_carryOut 76 = .ok (.iaload, 1) := by decide +kernel
theorem zd_Ledger_carryOut_77 : decode zc_Ledger_carryOut 77 = .ok (.aload_n 1, 1) := by decide +kernel
theorem zd_Ledger_carryOut_78 : decode zc_Ledger_carryOut 78 = .ok (.getfield 39, 3) := by decide +kernel
theorem zd_Ledger_carryOut_81 : decode zc_Ledger_carryOut 81 = .ok (.if_icmp .lt 27, 3) := by decide +kernel
theorem zd_Ledger_carryOut_84 : decode zc_Ledger_carryOut 84 = .ok (.aload_n 0, 1) := by decide +kernel
theorem zd_Ledger_carryOut_85 : decode zc_Ledger_carryOut 85 = .ok (.aload_n 0, 1) := by decide +kernel
theorem zd_Ledger_carryOut_86 : decode zc_Ledger_carryOut 86 = .ok (.aload_n 1, 1) := by decide +kernel
theorem zd_Ledger_carryOut_87 : decode zc_Ledger_carryOut 87 = .ok (.getfield 33, 3) := by decide +kernel
theorem zd_Ledger_carryOut_90 : decode zc_Ledger_carryOut 90 = .ok (.invokevirtual 49, 3) := by decide +kernel
theorem zd_Ledger_carryOut_93 : decode zc_Ledger_carryOut 93 = .ok (.aload_n 1, 1) := by decide +kernel
theorem zd_Ledger_carryOut_94 : decode zc_Ledger_carryOut 94 = .ok (.getfield 24, 3) := by decide +kernel
theorem zd_Ledger_carryOut_97 : decode zc_Ledger_carryOut 97 = .ok (.aload_n 1, 1) := by decide +kernel
theorem zd_Ledger_carryOut_98 : decode zc_Ledger_carryOut 98 = .ok (.getfield 36, 3) := by decide +kernel
theorem zd_Ledger_carryOut_101 : decode zc_Ledger_carryOut 101 = .ok (.aload_n 1, 1) := by decide +kernel
theorem zd_Ledger_carryOut_102 : decode zc_Ledger_carryOut 102 = .ok (.getfield 39, 3) := by decide +kernel
theorem zd_Ledger_carryOut_105 : decode zc_Ledger_carryOut 105 = .ok (.invokevirtual 53, 3) := by decide +kernel
theorem zd_Ledger_carryOut_108 : decode zc_Ledger_carryOut 108 = .ok (.return_, 1) := by decide +kernel
theorem zd_TL_closeSlot_0 : decode zc_TL_closeSlot 0 = .ok (.iload_n 2, 1) := by decide +kernel
theorem zd_TL_closeSlot_1 : decode zc_TL_closeSlot 1 = .ok (.ifCond .ne 4, 3) := by decide +kernel
theorem zd_TL_closeSlot_4 : decode zc_TL_closeSlot 4 = .ok (.return_, 1) := by decide +kernel
theorem zd_TL_closeSlot_5 : decode zc_TL_closeSlot 5 = .ok (.iconst 0, 1) := by decide +kernel
theorem zd_TL_closeSlot_6 : decode zc_TL_closeSlot 6 = .ok (.istore_n 3, 1) := by decide +kernel
theorem zd_TL_closeSlot_7 : decode zc_TL_closeSlot 7 = .ok (.iload_n 3, 1) := by decide +kernel
theorem zd_TL_closeSlot_8 : decode zc_TL_closeSlot 8 = .ok (.iconst 3, 1) := by decide +kernel
theorem zd_TL_closeSlot_9 : decode zc_TL_closeSlot 9 = .ok (.if_icmp .ge 46, 3) := by decide +kernel
theorem zd_TL_closeSlot_12 : decode zc_TL_closeSlot 12 = .ok (.aload_n 0, 1) := by decide +kernel
theorem zd_TL_closeSlot_13 : decode zc_TL_closeSlot 13 = .ok (.getfield 31, 3) := by decide +kernel
theorem zd_TL_closeSlot_16 : decode zc_TL_closeSlot 16 = .ok (.aload_n 1, 1) := by decide +kernel
theorem zd_TL_closeSlot_17 : decode zc_TL_closeSlot 17 = .ok (.getfield 79, 3) := by decide +kernel
theorem zd_TL_closeSlot_20 : decode zc_TL_closeSlot 20 = .ok (.iconst 3, 1) := by decide +kernel
theorem zd_TL_closeSlot_21 : decode zc_TL_closeSlot 21 = .ok (.imul, 1) := by decide +kernel
theorem zd_TL_closeSlot_22 : decode zc_TL_closeSlot 22 = .ok (.iload_n 3, 1) := by decide +kernel
theorem zd_TL_closeSlot_23 : decode zc_TL_closeSlot 23 = .ok (.iadd, 1) := by decide +kernel
theorem zd_TL_closeSlot_24 : decode zc_TL_closeSlot 24 = .ok (.aaload, 1) := by decide +kernel
theorem zd_TL_closeSlot_25 : decode zc_TL_closeSlot 25 = .ok (.astore 4, 2) := by decide +kernel
theorem zd_TL_closeSlot_27 : decode zc_TL_closeSlot 27 = .ok (.iload_n 2, 1) := by decide +kernel
theorem zd_TL_closeSlot_28 : decode zc_TL_closeSlot 28 = .ok (.iload_n 3, 1) := by decide +kernel
theorem zd_TL_closeSlot_29 : decode zc_TL_closeSlot 29 = .ok (.invokestatic 135, 3) := by decide +kernel
theorem zd_TL_closeSlot_32 : decode zc_TL_closeSlot 32 = .ok (.ifCond .eq 17, 3) := by decide +kernel
theorem zd_TL_closeSlot_35 : decode zc_TL_closeSlot 35 = .ok (.aload 4, 2) := by decide +kernel
theorem zd_TL_closeSlot_37 : decode zc_TL_closeSlot 37 = .ok (.ifnull 12, 3) := by decide +kernel
theorem zd_TL_closeSlot_40 : decode zc_TL_closeSlot 40 = .ok (.aload_n 1, 1) := by decide +kernel
theorem zd_TL_closeSlot_41 : decode zc_TL_closeSlot 41 = .ok (.getfield 164, 3) := by decide +kernel
theorem zd_TL_closeSlot_44 : decode zc_TL_closeSlot 44 = .ok (.aload 4, 2) := by decide +kernel
theorem zd_TL_closeSlot_46 : decode zc_TL_closeSlot 46 = .ok (.invokevirtual 196, 3) := by decide +kernel
theorem zd_TL_closeSlot_49 : decode zc_TL_closeSlot 49 = .ok (.iinc 3 1, 3) := by decide +kernel
theorem zd_TL_closeSlot_52 : decode zc_TL_closeSlot 52 = .ok (.goto (-45), 3) := by decide +kernel
theorem zd_TL_closeSlot_55 : decode zc_TL_closeSlot 55 = .ok (.aload_n 1, 1) := by decide +kernel
theorem zd_TL_closeSlot_56 : decode zc_TL_closeSlot 56 = .ok (.bipush 31, 2) := by decide +kernel
theorem zd_TL_closeSlot_58 : decode zc_TL_closeSlot 58 = .ok (.bipush 31, 2) := by decide +kernel
theorem zd_TL_closeSlot_60 : decode zc_TL_closeSlot 60 = .ok (.aload_n 1, 1) := by decide +kernel
theorem zd_TL_closeSlot_61 : decode zc_TL_closeSlot 61 = .ok (.getfield 161, 3) := by decide +kernel
theorem zd_TL_closeSlot_64 : decode zc_TL_closeSlot 64 = .ok (.imul, 1) := by decide +kernel
theorem zd_TL_closeSlot_65 : decode zc_TL_closeSlot 65 = .ok (.aload_n 1, 1) := by decide +kernel
theorem zd_TL_closeSlot_66 : decode zc_TL_closeSlot 66 = .ok (.getfield 79, 3) := by decide +kernel
theorem zd_TL_closeSlot_69 : decode zc_TL_closeSlot 69 = .ok (.iadd, 1) := by decide +kernel
theorem zd_TL_closeSlot_70 : decode zc_TL_closeSlot 70 = .ok (.imul, 1) := by decide +kernel
theorem zd_TL_closeSlot_71 : decode zc_TL_closeSlot 71 = .ok (.iload_n 2, 1) := by decide +kernel
theorem zd_TL_closeSlot_72 : decode zc_TL_closeSlot 72 = .ok (.iadd, 1) := by decide +kernel
theorem zd_TL_closeSlot_73 : decode zc_TL_closeSlot 73 = .ok (.putfield 161, 3) := by decide +kernel
theorem zd_TL_closeSlot_76 : decode zc_TL_closeSlot 76 = .ok (.aload_n 1, 1) := by decide +kernel
theorem zd_TL_closeSlot_77 : decode zc_TL_closeSlot 77 = .ok (.dup, 1) := by decide +kernel
theorem zd_TL_closeSlot_78 : decode zc_TL_closeSlot 78 = .ok (.getfield 79, 3) := by decide +kernel
theorem zd_TL_closeSlot_81 : decode zc_TL_closeSlot 81 = .ok (.iconst 1, 1) := by decide +kernel
theorem zd_TL_closeSlot_82 : decode zc_TL_closeSlot 82 = .ok (.iadd, 1) := by decide +kernel
theorem zd_TL_closeSlot_83 : decode zc_TL_closeSlot 83 = .ok (.putfield 79, 3) := by decide +kernel
theorem zd_TL_closeSlot_86 : decode zc_TL_closeSlot 86 = .ok (.return_, 1) := by decide +kernel
theorem zd_TL_propose_0 : decode zc_TL_propose 0 = .ok (.aload_n 0, 1) := by decide +kernel
theorem zd_TL_propose_1 : decode zc_TL_propose 1 = .ok (.iload_n 1, 1) := by decide +kernel
theorem zd_TL_propose_2 : decode zc_TL_propose 2 = .ok (.invokevirtual 72, 3) := by decide +kernel
theorem zd_TL_propose_5 : decode zc_TL_propose 5 = .ok (.ifCond .eq 13, 3) := by decide +kernel
theorem zd_TL_propose_8 : decode zc_TL_propose 8 = .ok (.iload_n 2, 1) := by decide +kernel
theorem zd_TL_propose_9 : decode zc_TL_propose 9 = .ok (.iconst 1, 1) := by decide +kernel
theorem zd_TL_propose_10 : decode zc_TL_propose 10 = .ok (.bipush 7, 2) := by decide +kernel
theorem zd_TL_propose_12 : decode zc_TL_propose 12 = .ok (.invokestatic 41, 3) := by decide +kernel
theorem zd_TL_propose_15 : decode zc_TL_propose 15 = .ok (.ifCond .ne 5, 3) := by decide +kernel
theorem zd_TL_propose_18 : decode zc_TL_propose 18 = .ok (.iconst 0, 1) := by decide +kernel
theorem zd_TL_propose_19 : decode zc_TL_propose 19 = .ok (.ireturn, 1) := by decide +kernel
theorem zd_TL_propose_20 : decode zc_TL_propose 20 = .ok (.aload_n 0, 1) := by decide +kernel
theorem zd_TL_propose_21 : decode zc_TL_propose 21 = .ok (.getfield 22, 3) := by decide +kernel
theorem zd_TL_propose_24 : decode zc_TL_propose 24 = .ok (.iload_n 1, 1) := by decide +kernel
theorem zd_TL_propose_25 : decode zc_TL_propose 25 = .ok (.aaload, 1) := by decide +kernel
theorem zd_TL_propose_26 : decode zc_TL_propose 26 = .ok (.getfield 75, 3) := by decide +kernel
theorem zd_TL_propose_29 : decode zc_TL_propose 29 = .ok (.aload_n 0, 1) := by decide +kernel
theorem zd_TL_propose_30 : decode zc_TL_propose 30 = .ok (.getfield 22, 3) := by decide +kernel
theorem zd_TL_propose_33 : decode zc_TL_propose 33 = .ok (.iload_n 1, 1) := by decide +kernel
theorem zd_TL_propose_34 : decode zc_TL_propose 34 = .ok (.aaload, 1) := by decide +kernel
theorem zd_TL_propose_35 : decode zc_TL_propose 35 = .ok (.getfield 79, 3) := by decide +kernel
theorem zd_TL_propose_38 : decode zc_TL_propose 38 = .ok (.aaload, 1) := by decide +kernel
theorem zd_TL_propose_39 : decode zc_TL_propose 39 = .ok (.astore_n 3, 1) := by decide +kernel
theorem zd_TL_propose_40 : decode zc_TL_propose 40 = .ok (.aload_n 3, 1) := by decide +kernel
theorem zd_TL_propose_41 : decode zc_TL_propose 41 = .ok (.getfield 82, 3) := by decide +kernel
theorem zd_TL_propose_44 : decode zc_TL_propose 44 = .ok (.ifCond .eq 5, 3) := by decide +kernel
theorem zd_TL_propose_47 : decode zc_TL_propose 47 = .ok (.iconst 0, 1) := by decide +kernel
theorem zd_TL_propose_48 : decode zc_TL_propose 48 = .ok (.ireturn, 1) := by decide +kernel
theorem zd_TL_propose_49 : decode zc_TL_propose 49 = .ok (.aload_n 0, 1) := by decide +kernel
theorem zd_TL_propose_50 : decode zc_TL_propose 50 = .ok (.iconst 1, 1) := by decide +kernel
theorem zd_TL_propose_51 : decode zc_TL_propose 51 = .ok (.putfield 45, 3) := by decide +kernel
theorem zd_TL_propose_54 : decode zc_TL_propose 54 = .ok (.aload_n 3, 1) := by decide +kernel
theorem zd_TL_propose_55 : decode zc_TL_propose 55 = .ok (.iload_n 2, 1) := by decide +kernel
theorem zd_TL_propose_56 : decode zc_TL_propose 56 = .ok (.invokevirtual 87, 3) := by decide +kernel
theorem zd_TL_propose_59 : decode zc_TL_propose 59 = .ok (.aload_n 3, 1) := by decide +kernel
theorem zd_TL_propose_60 : decode zc_TL_propose 60 = .ok (.invokevirtual 91, 3) := by decide +kernel
theorem zd_TL_propose_63 : decode zc_TL_propose 63 = .ok (.aload_n 0, 1) := by decide +kernel
theorem zd_TL_propose_64 : decode zc_TL_propose 64 = .ok (.aload_n 0, 1) := by decide +kernel
theorem zd_TL_propose_65 : decode zc_TL_propose 65 = .ok (.getfield 22, 3) := by decide +kernel
theorem zd_TL_propose_68 : decode zc_TL_propose 68 = .ok (.iload_n 1, 1) := by decide +kernel
theorem zd_TL_propose_69 : decode zc_TL_propose 69 = .ok (.aaload, 1) := by decide +kernel
theorem zd_TL_propose_70 : decode zc_TL_propose 70 = .ok (.aload_n 3, 1) := by decide +kernel
theorem zd_TL_propose_71 : decode zc_TL_propose 71 = .ok (.getfield 94, 3) := by decide +kernel
theorem zd_TL_propose_74 : decode zc_TL_propose 74 = .ok (.invokevirtual 97, 3) := by decide +kernel
theorem zd_TL_propose_77 : decode zc_TL_propose 77 = .ok (.iconst 1, 1) := by decide +kernel
theorem zd_TL_propose_78 : decode zc_TL_propose 78 = .ok (.ireturn, 1) := by decide +kernel
theorem zd_Agreement_runOutOfTime_0 : decode zc_Agreement_runOutOfTime 0 = .ok (.aload_n 0, 1) := by decide +kernel
theorem zd_Agreement_runOutOfTime_1 : decode zc_Agreement_runOutOfTime 1 = .ok (.invokevirtual 52, 3) := by decide +kernel
theorem zd_Agreement_runOutOfTime_4 : decode zc_Agreement_runOutOfTime 4 = .ok (.ifCond .ne 10, 3) := by decide +kernel
theorem zd_Agreement_runOutOfTime_7 : decode zc_Agreement_runOutOfTime 7 = .ok (.aload_n 0, 1) := by decide +kernel
theorem zd_Agreement_runOutOfTime_8 : decode zc_Agreement_runOutOfTime 8 = .ok (.invokevirtual 59, 3) := by decide +kernel
theorem zd_Agreement_runOutOfTime_11 : decode zc_Agreement_runOutOfTime 11 = .ok (.goto 15, 3) := by decide +kernel
theorem zd_Agreement_runOutOfTime_14 : decode zc_Agreement_runOutOfTime 14 = .ok (.aload_n 0, 1) := by decide +kernel
theorem zd_Agreement_runOutOfTime_15 : decode zc_Agreement_runOutOfTime 15 = .ok (.getfield 49, 3) := by decide +kernel
theorem zd_Agreement_runOutOfTime_18 : decode zc_Agreement_runOutOfTime 18 = .ok (.iconst 4, 1) := by decide +kernel
theorem zd_Agreement_runOutOfTime_19 : decode zc_Agreement_runOutOfTime 19 = .ok (.if_icmp .ge 7, 3) := by decide +kernel
theorem zd_Agreement_runOutOfTime_22 : decode zc_Agreement_runOutOfTime 22 = .ok (.aload_n 0, 1) := by decide +kernel
theorem zd_Agreement_runOutOfTime_23 : decode zc_Agreement_runOutOfTime 23 = .ok (.invokevirtual 62, 3) := by decide +kernel
theorem zd_Agreement_runOutOfTime_26 : decode zc_Agreement_runOutOfTime 26 = .ok (.return_, 1) := by decide +kernel
theorem zd_TL_timeout_0 : decode zc_TL_timeout 0 = .ok (.aload_n 0, 1) := by decide +kernel
theorem zd_TL_timeout_1 : decode zc_TL_timeout 1 = .ok (.iload_n 1, 1) := by decide +kernel
theorem zd_TL_timeout_2 : decode zc_TL_timeout 2 = .ok (.invokevirtual 72, 3) := by decide +kernel
theorem zd_TL_timeout_5 : decode zc_TL_timeout 5 = .ok (.ifCond .ne 5, 3) := by decide +kernel
theorem zd_TL_timeout_8 : decode zc_TL_timeout 8 = .ok (.iconst 0, 1) := by decide +kernel
theorem zd_TL_timeout_9 : decode zc_TL_timeout 9 = .ok (.ireturn, 1) := by decide +kernel
theorem zd_TL_timeout_10 : decode zc_TL_timeout 10 = .ok (.aload_n 0, 1) := by decide +kernel
theorem zd_TL_timeout_11 : decode zc_TL_timeout 11 = .ok (.getfield 22, 3) := by decide +kernel
theorem zd_TL_timeout_14 : decode zc_TL_timeout 14 = .ok (.iload_n 1, 1) := by decide +kernel
theorem zd_TL_timeout_15 : decode zc_TL_timeout 15 = .ok (.aaload, 1) := by decide +kernel
theorem zd_TL_timeout_16 : decode zc_TL_timeout 16 = .ok (.getfield 75, 3) := by decide +kernel
theorem zd_TL_timeout_19 : decode zc_TL_timeout 19 = .ok (.aload_n 0, 1) := by decide +kernel
theorem zd_TL_timeout_20 : decode zc_TL_timeout 20 = .ok (.getfield 22, 3) := by decide +kernel
theorem zd_TL_timeout_23 : decode zc_TL_timeout 23 = .ok (.iload_n 1, 1) := by decide +kernel
theorem zd_TL_timeout_24 : decode zc_TL_timeout 24 = .ok (.aaload, 1) := by decide +kernel
theorem zd_TL_timeout_25 : decode zc_TL_timeout 25 = .ok (.getfield 79, 3) := by decide +kernel
theorem zd_TL_timeout_28 : decode zc_TL_timeout 28 = .ok (.aaload, 1) := by decide +kernel
theorem zd_TL_timeout_29 : decode zc_TL_timeout 29 = .ok (.astore_n 2, 1) := by decide +kernel
theorem zd_TL_timeout_30 : decode zc_TL_timeout 30 = .ok (.aload_n 2, 1) := by decide +kernel
theorem zd_TL_timeout_31 : decode zc_TL_timeout 31 = .ok (.getfield 101, 3) := by decide +kernel
theorem zd_TL_timeout_34 : decode zc_TL_timeout 34 = .ok (.ifCond .ne 5, 3) := by decide +kernel
theorem zd_TL_timeout_37 : decode zc_TL_timeout 37 = .ok (.iconst 0, 1) := by decide +kernel
theorem zd_TL_timeout_38 : decode zc_TL_timeout 38 = .ok (.ireturn, 1) := by decide +kernel
theorem zd_TL_timeout_39 : decode zc_TL_timeout 39 = .ok (.aload_n 0, 1) := by decide +kernel
theorem zd_TL_timeout_40 : decode zc_TL_timeout 40 = .ok (.iconst 1, 1) := by decide +kernel
theorem zd_TL_timeout_41 : decode zc_TL_timeout 41 = .ok (.putfield 45, 3) := by decide +kernel
theorem zd_TL_timeout_44 : decode zc_TL_timeout 44 = .ok (.aload_n 2, 1) := by decide +kernel
theorem zd_TL_timeout_45 : decode zc_TL_timeout 45 = .ok (.invokevirtual 104, 3) := by decide +kernel
theorem zd_TL_timeout_48 : decode zc_TL_timeout 48 = .ok (.aload_n 2, 1) := by decide +kernel
theorem zd_TL_timeout_49 : decode zc_TL_timeout 49 = .ok (.invokevirtual 91, 3) := by decide +kernel
theorem zd_TL_timeout_52 : decode zc_TL_timeout 52 = .ok (.aload_n 0, 1) := by decide +kernel
theorem zd_TL_timeout_53 : decode zc_TL_timeout 53 = .ok (.aload_n 0, 1) := by decide +kernel
theorem zd_TL_timeout_54 : decode zc_TL_timeout 54 = .ok (.getfield 22, 3) := by decide +kernel
theorem zd_TL_timeout_57 : decode zc_TL_timeout 57 = .ok (.iload_n 1, 1) := by decide +kernel
theorem zd_TL_timeout_58 : decode zc_TL_timeout 58 = .ok (.aaload, 1) := by decide +kernel
theorem zd_TL_timeout_59 : decode zc_TL_timeout 59 = .ok (.aload_n 2, 1) := by decide +kernel
theorem zd_TL_timeout_60 : decode zc_TL_timeout 60 = .ok (.getfield 94, 3) := by decide +kernel
theorem zd_TL_timeout_63 : decode zc_TL_timeout 63 = .ok (.invokevirtual 97, 3) := by decide +kernel
theorem zd_TL_timeout_66 : decode zc_TL_timeout 66 = .ok (.iconst 1, 1) := by decide +kernel
theorem zd_TL_timeout_67 : decode zc_TL_timeout 67 = .ok (.ireturn, 1) := by decide +kernel
theorem zd_Envelope_init_0 : decode zc_Envelope_init 0 = .ok (.aload_n 0, 1) := by decide +kernel
theorem zd_Envelope_init_1 : decode zc_Envelope_init 1 = .ok (.invokespecial 3, 3) := by decide +kernel
theorem zd_Envelope_init_4 : decode zc_Envelope_init 4 = .ok (.aload_n 0, 1) := by decide +kernel
theorem zd_Envelope_init_5 : decode zc_Envelope_init 5 = .ok (.iload_n 1, 1) := by decide +kernel
theorem zd_Envelope_init_6 : decode zc_Envelope_init 6 = .ok (.putfield 9, 3) := by decide +kernel
theorem zd_Envelope_init_9 : decode zc_Envelope_init 9 = .ok (.aload_n 0, 1) := by decide +kernel
theorem zd_Envelope_init_10 : decode zc_Envelope_init 10 = .ok (.iload_n 2, 1) := by decide +kernel
theorem zd_Envelope_init_11 : decode zc_Envelope_init 11 = .ok (.putfield 15, 3) := by decide +kernel
theorem zd_Envelope_init_14 : decode zc_Envelope_init 14 = .ok (.aload_n 0, 1) := by decide +kernel
theorem zd_Envelope_init_15 : decode zc_Envelope_init 15 = .ok (.iconst 3, 1) := by decide +kernel
theorem zd_Envelope_init_16 : decode zc_Envelope_init 16 = .ok (.newarray .int, 2) := by decide +kernel
theorem zd_Envelope_init_18 : decode zc_Envelope_init 18 = .ok (.putfield 18, 3) := by decide +kernel
theorem zd_Envelope_init_21 : decode zc_Envelope_init 21 = .ok (.aload_n 0, 1) := by decide +kernel
theorem zd_Envelope_init_22 : decode zc_Envelope_init 22 = .ok (.iconst 3, 1) := by decide +kernel
theorem zd_Envelope_init_23 : decode zc_Envelope_init 23 = .ok (.newarray .int, 2) := by decide +kernel
theorem zd_Envelope_init_25 : decode zc_Envelope_init 25 = .ok (.putfield 22, 3) := by decide +kernel
theorem zd_Envelope_init_28 : decode zc_Envelope_init 28 = .ok (.return_, 1) := by decide +kernel
theorem zd_Agreement_ofKind_0 : decode zc_Agreement_ofKind 0 = .ok (.iload_n 1, 1) := by decide +kernel
theorem zd_Agreement_ofKind_1 : decode zc_Agreement_ofKind 1 = .ok (.ifCond .ne 8, 3) := by decide +kernel
theorem zd_Agreement_ofKind_4 : decode zc_Agreement_ofKind 4 = .ok (.aload_n 0, 1) := by decide +kernel
theorem zd_Agreement_ofKind_5 : decode zc_Agreement_ofKind 5 = .ok (.getfield 33, 3) := by decide +kernel
theorem zd_Agreement_ofKind_8 : decode zc_Agreement_ofKind 8 = .ok (.areturn, 1) := by decide +kernel
theorem zd_Agreement_ofKind_9 : decode zc_Agreement_ofKind 9 = .ok (.iload_n 1, 1) := by decide +kernel
theorem zd_Agreement_ofKind_10 : decode zc_Agreement_ofKind 10 = .ok (.iconst 1, 1) := by decide +kernel
theorem zd_Agreement_ofKind_11 : decode zc_Agreement_ofKind 11 = .ok (.if_icmp .ne 10, 3) := by decide +kernel
theorem zd_Agreement_ofKind_14 : decode zc_Agreement_ofKind 14 = .ok (.aload_n 0, 1) := by decide +kernel
theorem zd_Agreement_ofKind_15 : decode zc_Agreement_ofKind 15 = .ok (.getfield 37, 3) := by decide +kernel
theorem zd_Agreement_ofKind_18 : decode zc_Agreement_ofKind 18 = .ok (.goto 7, 3) := by decide +kernel
theorem zd_Agreement_ofKind_21 : decode zc_Agreement_ofKind 21 = .ok (.aload_n 0, 1) := by decide +kernel
theorem zd_Agreement_ofKind_22 : decode zc_Agreement_ofKind 22 = .ok (.getfield 40, 3) := by decide +kernel
theorem zd_Agreement_ofKind_25 : decode zc_Agreement_ofKind 25 = .ok (.areturn, 1) := by decide +kernel
theorem zd_TL_keepEnvelope_0 : decode zc_TL_keepEnvelope 0 = .ok (.aload_n 0, 1) := by decide +kernel
theorem zd_TL_keepEnvelope_1 : decode zc_TL_keepEnvelope 1 = .ok (.iconst 1, 1) := by decide +kernel
theorem zd_TL_keepEnvelope_2 : decode zc_TL_keepEnvelope 2 = .ok (.putfield 45, 3) := by decide +kernel
theorem zd_TL_keepEnvelope_5 : decode zc_TL_keepEnvelope 5 = .ok (.aload_n 0, 1) := by decide +kernel
theorem zd_TL_keepEnvelope_6 : decode zc_TL_keepEnvelope 6 = .ok (.getfield 37, 3) := by decide +kernel
theorem zd_TL_keepEnvelope_9 : decode zc_TL_keepEnvelope 9 = .ok (.aload_n 0, 1) := by decide +kernel
theorem zd_TL_keepEnvelope_10 : decode zc_TL_keepEnvelope 10 = .ok (.getfield 110, 3) := by decide +kernel
theorem zd_TL_keepEnvelope_13 : decode zc_TL_keepEnvelope 13 = .ok (.aload_n 1, 1) := by decide +kernel
theorem zd_TL_keepEnvelope_14 : decode zc_TL_keepEnvelope 14 = .ok (.aastore, 1) := by decide +kernel
theorem zd_TL_keepEnvelope_15 : decode zc_TL_keepEnvelope 15 = .ok (.aload_n 0, 1) := by decide +kernel
theorem zd_TL_keepEnvelope_16 : decode zc_TL_keepEnvelope 16 = .ok (.dup, 1) := by decide +kernel
theorem zd_TL_keepEnvelope_17 : decode zc_TL_keepEnvelope 17 = .ok (.getfield 110, 3) := by decide +kernel
theorem zd_TL_keepEnvelope_20 : decode zc_TL_keepEnvelope 20 = .ok (.iconst 1, 1) := by decide +kernel
theorem zd_TL_keepEnvelope_21 : decode zc_TL_keepEnvelope 21 = .ok (.iadd, 1) := by decide +kernel
theorem zd_TL_keepEnvelope_22 : decode zc_TL_keepEnvelope 22 = .ok (.putfield 110, 3) := by decide +kernel
theorem zd_TL_keepEnvelope_25 : decode zc_TL_keepEnvelope 25 = .ok (.aload_n 0, 1) := by decide +kernel
theorem zd_TL_keepEnvelope_26 : decode zc_TL_keepEnvelope 26 = .ok (.getfield 110, 3) := by decide +kernel
theorem zd_TL_keepEnvelope_29 : decode zc_TL_keepEnvelope 29 = .ok (.iconst 1, 1) := by decide +kernel
theorem zd_TL_keepEnvelope_30 : decode zc_TL_keepEnvelope 30 = .ok (.isub, 1) := by decide +kernel
theorem zd_TL_keepEnvelope_31 : decode zc_TL_keepEnvelope 31 = .ok (.ireturn, 1) := by decide +kernel
theorem zd_TL_post_0 : decode zc_TL_post 0 = .ok (.aload_n 0, 1) := by decide +kernel
theorem zd_TL_post_1 : decode zc_TL_post 1 = .ok (.iload_n 1, 1) := by decide +kernel
theorem zd_TL_post_2 : decode zc_TL_post 2 = .ok (.invokevirtual 107, 3) := by decide +kernel
theorem zd_TL_post_5 : decode zc_TL_post 5 = .ok (.ifCond .eq 32, 3) := by decide +kernel
theorem zd_TL_post_8 : decode zc_TL_post 8 = .ok (.iload_n 2, 1) := by decide +kernel
theorem zd_TL_post_9 : decode zc_TL_post 9 = .ok (.invokestatic 59, 3) := by decide +kernel
theorem zd_TL_post_12 : decode zc_TL_post 12 = .ok (.ifCond .eq 25, 3) := by decide +kernel
theorem zd_TL_post_15 : decode zc_TL_post 15 = .ok (.iload_n 2, 1) := by decide +kernel
theorem zd_TL_post_16 : decode zc_TL_post 16 = .ok (.aload_n 0, 1) := by decide +kernel
theorem zd_TL_post_17 : decode zc_TL_post 17 = .ok (.getfield 22, 3) := by decide +kernel
theorem zd_TL_post_20 : decode zc_TL_post 20 = .ok (.iload_n 1, 1) := by decide +kernel
theorem zd_TL_post_21 : decode zc_TL_post 21 = .ok (.aaload, 1) := by decide +kernel
theorem zd_TL_post_22 : decode zc_TL_post 22 = .ok (.getfield 79, 3) := by decide +kernel
theorem zd_TL_post_25 : decode zc_TL_post 25 = .ok (.if_icmp .gt 12, 3) := by decide +kernel
theorem zd_TL_post_28 : decode zc_TL_post 28 = .ok (.aload_n 0, 1) := by decide +kernel
theorem zd_TL_post_29 : decode zc_TL_post 29 = .ok (.getfield 110, 3) := by decide +kernel
theorem zd_TL_post_32 : decode zc_TL_post 32 = .ok (.bipush 120, 2) := by decide +kernel
theorem zd_TL_post_34 : decode zc_TL_post 34 = .ok (.if_icmp .lt 5, 3) := by decide +kernel
theorem zd_TL_post_37 : decode zc_TL_post 37 = .ok (.iconst (-1), 1) := by decide +kernel
theorem zd_TL_post_38 : decode zc_TL_post 38 = .ok (.ireturn, 1) := by decide +kernel
theorem zd_TL_post_39 : decode zc_TL_post 39 = .ok (.new 35, 3) := by decide +kernel
theorem zd_TL_post_42 : decode zc_TL_post 42 = .ok (.dup, 1) := by decide +kernel
theorem zd_TL_post_43 : decode zc_TL_post 43 = .ok (.iload_n 1, 1) := by decide +kernel
theorem zd_TL_post_44 : decode zc_TL_post 44 = .ok (.iload_n 2, 1) := by decide +kernel
theorem zd_TL_post_45 : decode zc_TL_post 45 = .ok (.invokespecial 113, 3) := by decide +kernel
theorem zd_TL_post_48 : decode zc_TL_post 48 = .ok (.astore_n 3, 1) := by decide +kernel
theorem zd_TL_post_49 : decode zc_TL_post 49 = .ok (.iconst 0, 1) := by decide +kernel
theorem zd_TL_post_50 : decode zc_TL_post 50 = .ok (.istore 4, 2) := by decide +kernel
theorem zd_TL_post_52 : decode zc_TL_post 52 = .ok (.iload 4, 2) := by decide +kernel
theorem zd_TL_post_54 : decode zc_TL_post 54 = .ok (.iconst 3, 1) := by decide +kernel
theorem zd_TL_post_55 : decode zc_TL_post 55 = .ok (.if_icmp .ge 55, 3) := by decide +kernel
theorem zd_TL_post_58 : decode zc_TL_post 58 = .ok (.aload_n 0, 1) := by decide +kernel
theorem zd_TL_post_59 : decode zc_TL_post 59 = .ok (.getfield 22, 3) := by decide +kernel
theorem zd_TL_post_62 : decode zc_TL_post 62 = .ok (.iload_n 1, 1) := by decide +kernel
theorem zd_TL_post_63 : decode zc_TL_post 63 = .ok (.aaload, 1) := by decide +kernel
theorem zd_TL_post_64 : decode zc_TL_post 64 = .ok (.getfield 75, 3) := by decide +kernel
theorem zd_TL_post_67 : decode zc_TL_post 67 = .ok (.iload_n 2, 1) := by decide +kernel
theorem zd_TL_post_68 : decode zc_TL_post 68 = .ok (.aaload, 1) := by decide +kernel
theorem zd_TL_post_69 : decode zc_TL_post 69 = .ok (.iload 4, 2) := by decide +kernel
theorem zd_TL_post_71 : decode zc_TL_post 71 = .ok (.invokevirtual 116, 3) := by decide +kernel
theorem zd_TL_post_74 : decode zc_TL_post 74 = .ok (.astore 5, 2) := by decide +kernel
theorem zd_TL_post_76 : decode zc_TL_post 76 = .ok (.aload_n 3, 1) := by decide +kernel
theorem zd_TL_post_77 : decode zc_TL_post 77 = .ok (.getfield 120, 3) := by decide +kernel
theorem zd_TL_post_80 : decode zc_TL_post 80 = .ok (.iload 4, 2) := by decide +kernel
theorem zd_TL_post_82 : decode zc_TL_post 82 = .ok (.aload 5, 2) := by decide +kernel
theorem zd_TL_post_84 : decode zc_TL_post 84 = .ok (.getfield 124, 3) := by decide +kernel
theorem zd_TL_post_87 : decode zc_TL_post 87 = .ok (.iload_n 1, 1) := by decide +kernel
theorem zd_TL_post_88 : decode zc_TL_post 88 = .ok (.iaload, 1) := by decide +kernel
theorem zd_TL_post_89 : decode zc_TL_post 89 = .ok (.iastore, 1) := by decide +kernel
theorem zd_TL_post_90 : decode zc_TL_post 90 = .ok (.aload_n 3, 1) := by decide +kernel
theorem zd_TL_post_91 : decode zc_TL_post 91 = .ok (.getfield 127, 3) := by decide +kernel
theorem zd_TL_post_94 : decode zc_TL_post 94 = .ok (.iload 4, 2) := by decide +kernel
theorem zd_TL_post_96 : decode zc_TL_post 96 = .ok (.aload 5, 2) := by decide +kernel
theorem zd_TL_post_98 : decode zc_TL_post 98 = .ok (.getfield 130, 3) := by decide +kernel
theorem zd_TL_post_101 : decode zc_TL_post 101 = .ok (.iload_n 1, 1) := by decide +kernel
theorem zd_TL_post_102 : decode zc_TL_post 102 = .ok (.iaload, 1) := by decide +kernel
theorem zd_TL_post_103 : decode zc_TL_post 103 = .ok (.iastore, 1) := by decide +kernel
theorem zd_TL_post_104 : decode zc_TL_post 104 = .ok (.iinc 4 1, 3) := by decide +kernel
theorem zd_TL_post_107 : decode zc_TL_post 107 = .ok (.goto (-55), 3) := by decide +kernel
theorem zd_TL_post_110 : decode zc_TL_post 110 = .ok (.aload_n 0, 1) := by decide +kernel
theorem zd_TL_post_111 : decode zc_TL_post 111 = .ok (.aload_n 3, 1) := by decide +kernel
theorem zd_TL_post_112 : decode zc_TL_post 112 = .ok (.invokevirtual 131, 3) := by decide +kernel
theorem zd_TL_post_115 : decode zc_TL_post 115 = .ok (.ireturn, 1) := by decide +kernel
theorem zd_Envelope_claim_0 : decode zc_Envelope_claim 0 = .ok (.aload_n 0, 1) := by decide +kernel
theorem zd_Envelope_claim_1 : decode zc_Envelope_claim 1 = .ok (.getfield 18, 3) := by decide +kernel
theorem zd_Envelope_claim_4 : decode zc_Envelope_claim 4 = .ok (.iload_n 1, 1) := by decide +kernel
theorem zd_Envelope_claim_5 : decode zc_Envelope_claim 5 = .ok (.iload_n 2, 1) := by decide +kernel
theorem zd_Envelope_claim_6 : decode zc_Envelope_claim 6 = .ok (.iastore, 1) := by decide +kernel
theorem zd_Envelope_claim_7 : decode zc_Envelope_claim 7 = .ok (.aload_n 0, 1) := by decide +kernel
theorem zd_Envelope_claim_8 : decode zc_Envelope_claim 8 = .ok (.getfield 22, 3) := by decide +kernel
theorem zd_Envelope_claim_11 : decode zc_Envelope_claim 11 = .ok (.iload_n 1, 1) := by decide +kernel
theorem zd_Envelope_claim_12 : decode zc_Envelope_claim 12 = .ok (.iload_n 2, 1) := by decide +kernel
theorem zd_Envelope_claim_13 : decode zc_Envelope_claim 13 = .ok (.iastore, 1) := by decide +kernel
theorem zd_Envelope_claim_14 : decode zc_Envelope_claim 14 = .ok (.return_, 1) := by decide +kernel
theorem zd_TL_forge_0 : decode zc_TL_forge 0 = .ok (.iload_n 1, 1) := by decide +kernel
theorem zd_TL_forge_1 : decode zc_TL_forge 1 = .ok (.iconst 0, 1) := by decide +kernel
theorem zd_TL_forge_2 : decode zc_TL_forge 2 = .ok (.iconst 4, 1) := by decide +kernel
theorem zd_TL_forge_3 : decode zc_TL_forge 3 = .ok (.invokestatic 41, 3) := by decide +kernel
theorem zd_TL_forge_6 : decode zc_TL_forge 6 = .ok (.ifCond .eq 18, 3) := by decide +kernel
theorem zd_TL_forge_9 : decode zc_TL_forge 9 = .ok (.aload_n 0, 1) := by decide +kernel
theorem zd_TL_forge_10 : decode zc_TL_forge 10 = .ok (.getfield 9, 3) := by decide +kernel
theorem zd_TL_forge_13 : decode zc_TL_forge 13 = .ok (.iload_n 1, 1) := by decide +kernel
theorem zd_TL_forge_14 : decode zc_TL_forge 14 = .ok (.invokestatic 135, 3) := by decide +kernel
theorem zd_TL_forge_17 : decode zc_TL_forge 17 = .ok (.ifCond .eq 7, 3) := by decide +kernel
theorem zd_TL_forge_20 : decode zc_TL_forge 20 = .ok (.iconst 1, 1) := by decide +kernel
theorem zd_TL_forge_21 : decode zc_TL_forge 21 = .ok (.goto 4, 3) := by decide +kernel
theorem zd_TL_forge_24 : decode zc_TL_forge 24 = .ok (.iconst 0, 1) := by decide +kernel
theorem zd_TL_forge_25 : decode zc_TL_forge 25 = .ok (.istore 6, 2) := by decide +kernel
theorem zd_TL_forge_27 : decode zc_TL_forge 27 = .ok (.iload 6, 2) := by decide +kernel
theorem zd_TL_forge_29 : decode zc_TL_forge 29 = .ok (.ifCond .eq 19, 3) := by decide +kernel
theorem zd_TL_forge_32 : decode zc_TL_forge 32 = .ok (.iload_n 2, 1) := by decide +kernel
theorem zd_TL_forge_33 : decode zc_TL_forge 33 = .ok (.invokestatic 59, 3) := by decide +kernel
theorem zd_TL_forge_36 : decode zc_TL_forge 36 = .ok (.ifCond .eq 12, 3) := by decide +kernel
theorem zd_TL_forge_39 : decode zc_TL_forge 39 = .ok (.aload_n 0, 1) := by decide +kernel
theorem zd_TL_forge_40 : decode zc_TL_forge 40 = .ok (.getfield 110, 3) := by decide +kernel
theorem zd_TL_forge_43 : decode zc_TL_forge 43 = .ok (.bipush 120, 2) := by decide +kernel
theorem zd_TL_forge_45 : decode zc_TL_forge 45 = .ok (.if_icmp .lt 5, 3) := by decide +kernel
theorem zd_TL_forge_48 : decode zc_TL_forge 48 = .ok (.iconst (-1), 1) := by decide +kernel
theorem zd_TL_forge_49 : decode zc_TL_forge 49 = .ok (.ireturn, 1) := by decide +kernel
theorem zd_TL_forge_50 : decode zc_TL_forge 50 = .ok (.new 35, 3) := by decide +kernel
theorem zd_TL_forge_53 : decode zc_TL_forge 53 = .ok (.dup, 1) := by decide +kernel
theorem zd_TL_forge_54 : decode zc_TL_forge 54 = .ok (.iload_n 1, 1) := by decide +kernel
theorem zd_TL_forge_55 : decode zc_TL_forge 55 = .ok (.iload_n 2, 1) := by decide +kernel
theorem zd_TL_forge_56 : decode zc_TL_forge 56 = .ok (.invokespecial 113, 3) := by decide +kernel
theorem zd_TL_forge_59 : decode zc_TL_forge 59 = .ok (.astore 7, 2) := by decide +kernel
theorem zd_TL_forge_61 : decode zc_TL_forge 61 = .ok (.aload 7, 2) := by decide +kernel
theorem zd_TL_forge_63 : decode zc_TL_forge 63 = .ok (.iconst 0, 1) := by decide +kernel
theorem zd_TL_forge_64 : decode zc_TL_forge 64 = .ok (.iload_n 3, 1) := by decide +kernel
theorem zd_TL_forge_65 : decode zc_TL_forge 65 = .ok (.sipush 254, 3) := by decide +kernel
theorem zd_TL_forge_68 : decode zc_TL_forge 68 = .ok (.iand, 1) := by decide +kernel
theorem zd_TL_forge_69 : decode zc_TL_forge 69 = .ok (.invokevirtual 139, 3) := by decide +kernel
theorem zd_TL_forge_72 : decode zc_TL_forge 72 = .ok (.aload 7, 2) := by decide +kernel
theorem zd_TL_forge_74 : decode zc_TL_forge 74 = .ok (.iconst 1, 1) := by decide +kernel
theorem zd_TL_forge_75 : decode zc_TL_forge 75 = .ok (.iload 4, 2) := by decide +kernel
theorem zd_TL_forge_77 : decode zc_TL_forge 77 = .ok (.ldc 142, 2) := by decide +kernel
theorem zd_TL_forge_79 : decode zc_TL_forge 79 = .ok (.iand, 1) := by decide +kernel
theorem zd_TL_forge_80 : decode zc_TL_forge 80 = .ok (.invokevirtual 139, 3) := by decide +kernel
theorem zd_TL_forge_83 : decode zc_TL_forge 83 = .ok (.aload 7, 2) := by decide +kernel
theorem zd_TL_forge_85 : decode zc_TL_forge 85 = .ok (.iconst 2, 1) := by decide +kernel
theorem zd_TL_forge_86 : decode zc_TL_forge 86 = .ok (.iload 5, 2) := by decide +kernel
theorem zd_TL_forge_88 : decode zc_TL_forge 88 = .ok (.ldc 142, 2) := by decide +kernel
theorem zd_TL_forge_90 : decode zc_TL_forge 90 = .ok (.iand, 1) := by decide +kernel
theorem zd_TL_forge_91 : decode zc_TL_forge 91 = .ok (.invokevirtual 139, 3) := by decide +kernel
theorem zd_TL_forge_94 : decode zc_TL_forge 94 = .ok (.aload_n 0, 1) := by decide +kernel
theorem zd_TL_forge_95 : decode zc_TL_forge 95 = .ok (.aload 7, 2) := by decide +kernel
theorem zd_TL_forge_97 : decode zc_TL_forge 97 = .ok (.invokevirtual 131, 3) := by decide +kernel
theorem zd_TL_forge_100 : decode zc_TL_forge 100 = .ok (.ireturn, 1) := by decide +kernel
theorem zd_Agreement_learn_0 : decode zc_Agreement_learn 0 = .ok (.iconst 0, 1) := by decide +kernel
theorem zd_Agreement_learn_1 : decode zc_Agreement_learn 1 = .ok (.istore_n 2, 1) := by decide +kernel
theorem zd_Agreement_learn_2 : decode zc_Agreement_learn 2 = .ok (.iload_n 2, 1) := by decide +kernel
theorem zd_Agreement_learn_3 : decode zc_Agreement_learn 3 = .ok (.iconst 3, 1) := by decide +kernel
theorem zd_Agreement_learn_4 : decode zc_Agreement_learn 4 = .ok (.if_icmp .ge 51, 3) := by decide +kernel
theorem zd_Agreement_learn_7 : decode zc_Agreement_learn 7 = .ok (.aload_n 0, 1) := by decide +kernel
theorem zd_Agreement_learn_8 : decode zc_Agreement_learn 8 = .ok (.iload_n 2, 1) := by decide +kernel
theorem zd_Agreement_learn_9 : decode zc_Agreement_learn 9 = .ok (.invokevirtual 65, 3) := by decide +kernel
theorem zd_Agreement_learn_12 : decode zc_Agreement_learn 12 = .ok (.astore_n 3, 1) := by decide +kernel
theorem zd_Agreement_learn_13 : decode zc_Agreement_learn 13 = .ok (.aload_n 3, 1) := by decide +kernel
theorem zd_Agreement_learn_14 : decode zc_Agreement_learn 14 = .ok (.getfield 69, 3) := by decide +kernel
theorem zd_Agreement_learn_17 : decode zc_Agreement_learn 17 = .ok (.aload_n 1, 1) := by decide +kernel
theorem zd_Agreement_learn_18 : decode zc_Agreement_learn 18 = .ok (.getfield 73, 3) := by decide +kernel
theorem zd_Agreement_learn_21 : decode zc_Agreement_learn 21 = .ok (.dup2, 1) := by decide +kernel
theorem zd_Agreement_learn_22 : decode zc_Agreement_learn 22 = .ok (.iaload, 1) := by decide +kernel
theorem zd_Agreement_learn_23 : decode zc_Agreement_learn 23 = .ok (.aload_n 1, 1) := by decide +kernel
theorem zd_Agreement_learn_24 : decode zc_Agreement_learn 24 = .ok (.getfield 78, 3) := by decide +kernel
theorem zd_Agreement_learn_27 : decode zc_Agreement_learn 27 = .ok (.iload_n 2, 1) := by decide +kernel
theorem zd_Agreement_learn_28 : decode zc_Agreement_learn 28 = .ok (.iaload, 1) := by decide +kernel
theorem zd_Agreement_learn_29 : decode zc_Agreement_learn 29 = .ok (.ior, 1) := by decide +kernel
theorem zd_Agreement_learn_30 : decode zc_Agreement_learn 30 = .ok (.iastore, 1) := by decide +kernel
theorem zd_Agreement_learn_31 : decode zc_Agreement_learn 31 = .ok (.aload_n 3, 1) := by decide +kernel
theorem zd_Agreement_learn_32 : decode zc_Agreement_learn 32 = .ok (.getfield 79, 3) := by decide +kernel
theorem zd_Agreement_learn_35 : decode zc_Agreement_learn 35 = .ok (.aload_n 1, 1) := by decide +kernel
theorem zd_Agreement_learn_36 : decode zc_Agreement_learn 36 = .ok (.getfield 73, 3) := by decide +kernel
theorem zd_Agreement_learn_39 : decode zc_Agreement_learn 39 = .ok (.dup2, 1) := by decide +kernel
theorem zd_Agreement_learn_40 : decode zc_Agreement_learn 40 = .ok (.iaload, 1) := by decide +kernel
theorem zd_Agreement_learn_41 : decode zc_Agreement_learn 41 = .ok (.aload_n 1, 1) := by decide +kernel
theorem zd_Agreement_learn_42 : decode zc_Agreement_learn 42 = .ok (.getfield 82, 3) := by decide +kernel
theorem zd_Agreement_learn_45 : decode zc_Agreement_learn 45 = .ok (.iload_n 2, 1) := by decide +kernel
theorem zd_Agreement_learn_46 : decode zc_Agreement_learn 46 = .ok (.iaload, 1) := by decide +kernel
theorem zd_Agreement_learn_47 : decode zc_Agreement_learn 47 = .ok (.ior, 1) := by decide +kernel
theorem zd_Agreement_learn_48 : decode zc_Agreement_learn 48 = .ok (.iastore, 1) := by decide +kernel
theorem zd_Agreement_learn_49 : decode zc_Agreement_learn 49 = .ok (.iinc 2 1, 3) := by decide +kernel
theorem zd_Agreement_learn_52 : decode zc_Agreement_learn 52 = .ok (.goto (-50), 3) := by decide +kernel
theorem zd_Agreement_learn_55 : decode zc_Agreement_learn 55 = .ok (.return_, 1) := by decide +kernel
theorem zd_TL_deliver_0 : decode zc_TL_deliver 0 = .ok (.iload_n 1, 1) := by decide +kernel
theorem zd_TL_deliver_1 : decode zc_TL_deliver 1 = .ok (.iconst 0, 1) := by decide +kernel
theorem zd_TL_deliver_2 : decode zc_TL_deliver 2 = .ok (.bipush 119, 2) := by decide +kernel
theorem zd_TL_deliver_4 : decode zc_TL_deliver 4 = .ok (.invokestatic 41, 3) := by decide +kernel
theorem zd_TL_deliver_7 : decode zc_TL_deliver 7 = .ok (.ifCond .eq 11, 3) := by decide +kernel
theorem zd_TL_deliver_10 : decode zc_TL_deliver 10 = .ok (.aload_n 0, 1) := by decide +kernel
theorem zd_TL_deliver_11 : decode zc_TL_deliver 11 = .ok (.iload_n 2, 1) := by decide +kernel
theorem zd_TL_deliver_12 : decode zc_TL_deliver 12 = .ok (.invokevirtual 72, 3) := by decide +kernel
theorem zd_TL_deliver_15 : decode zc_TL_deliver 15 = .ok (.ifCond .ne 5, 3) := by decide +kernel
theorem zd_TL_deliver_18 : decode zc_TL_deliver 18 = .ok (.iconst 0, 1) := by decide +kernel
theorem zd_TL_deliver_19 : decode zc_TL_deliver 19 = .ok (.ireturn, 1) := by decide +kernel
theorem zd_TL_deliver_20 : decode zc_TL_deliver 20 = .ok (.aload_n 0, 1) := by decide +kernel
theorem zd_TL_deliver_21 : decode zc_TL_deliver 21 = .ok (.getfield 37, 3) := by decide +kernel
theorem zd_TL_deliver_24 : decode zc_TL_deliver 24 = .ok (.iload_n 1, 1) := by decide +kernel
theorem zd_TL_deliver_25 : decode zc_TL_deliver 25 = .ok (.aaload, 1) := by decide +kernel
theorem zd_TL_deliver_26 : decode zc_TL_deliver 26 = .ok (.astore_n 3, 1) := by decide +kernel
theorem zd_TL_deliver_27 : decode zc_TL_deliver 27 = .ok (.aload_n 3, 1) := by decide +kernel
theorem zd_TL_deliver_28 : decode zc_TL_deliver 28 = .ok (.ifnull 27, 3) := by decide +kernel
theorem zd_TL_deliver_31 : decode zc_TL_deliver 31 = .ok (.aload_n 3, 1) := by decide +kernel
theorem zd_TL_deliver_32 : decode zc_TL_deliver 32 = .ok (.getfield 143, 3) := by decide +kernel
theorem zd_TL_deliver_35 : decode zc_TL_deliver 35 = .ok (.iload_n 2, 1) := by decide +kernel
theorem zd_TL_deliver_36 : decode zc_TL_deliver 36 = .ok (.if_icmp .eq 19, 3) := by decide +kernel
theorem zd_TL_deliver_39 : decode zc_TL_deliver 39 = .ok (.aload_n 3, 1) := by decide +kernel
theorem zd_TL_deliver_40 : decode zc_TL_deliver 40 = .ok (.getfield 146, 3) := by decide +kernel
theorem zd_TL_deliver_43 : decode zc_TL_deliver 43 = .ok (.aload_n 0, 1) := by decide +kernel
theorem zd_TL_deliver_44 : decode zc_TL_deliver 44 = .ok (.getfield 22, 3) := by decide +kernel
theorem zd_TL_deliver_47 : decode zc_TL_deliver 47 = .ok (.iload_n 2, 1) := by decide +kernel
theorem zd_TL_deliver_48 : decode zc_TL_deliver 48 = .ok (.aaload, 1) := by decide +kernel
theorem zd_TL_deliver_49 : decode zc_TL_deliver 49 = .ok (.getfield 79, 3) := by decide +kernel
theorem zd_TL_deliver_52 : decode zc_TL_deliver 52 = .ok (.if_icmp .eq 5, 3) := by decide +kernel
theorem zd_TL_deliver_55 : decode zc_TL_deliver 55 = .ok (.iconst 0, 1) := by decide +kernel
theorem zd_TL_deliver_56 : decode zc_TL_deliver 56 = .ok (.ireturn, 1) := by decide +kernel
theorem zd_TL_deliver_57 : decode zc_TL_deliver 57 = .ok (.aload_n 0, 1) := by decide +kernel
theorem zd_TL_deliver_58 : decode zc_TL_deliver 58 = .ok (.getfield 22, 3) := by decide +kernel
theorem zd_TL_deliver_61 : decode zc_TL_deliver 61 = .ok (.iload_n 2, 1) := by decide +kernel
theorem zd_TL_deliver_62 : decode zc_TL_deliver 62 = .ok (.aaload, 1) := by decide +kernel
theorem zd_TL_deliver_63 : decode zc_TL_deliver 63 = .ok (.getfield 75, 3) := by decide +kernel
theorem zd_TL_deliver_66 : decode zc_TL_deliver 66 = .ok (.aload_n 3, 1) := by decide +kernel
theorem zd_TL_deliver_67 : decode zc_TL_deliver 67 = .ok (.getfield 146, 3) := by decide +kernel
theorem zd_TL_deliver_70 : decode zc_TL_deliver 70 = .ok (.aaload, 1) := by decide +kernel
theorem zd_TL_deliver_71 : decode zc_TL_deliver 71 = .ok (.astore 4, 2) := by decide +kernel
theorem zd_TL_deliver_73 : decode zc_TL_deliver 73 = .ok (.aload 4, 2) := by decide +kernel
theorem zd_TL_deliver_75 : decode zc_TL_deliver 75 = .ok (.aload_n 3, 1) := by decide +kernel
theorem zd_TL_deliver_76 : decode zc_TL_deliver 76 = .ok (.invokevirtual 147, 3) := by decide +kernel
theorem zd_TL_deliver_79 : decode zc_TL_deliver 79 = .ok (.aload 4, 2) := by decide +kernel
theorem zd_TL_deliver_81 : decode zc_TL_deliver 81 = .ok (.invokevirtual 91, 3) := by decide +kernel
theorem zd_TL_deliver_84 : decode zc_TL_deliver 84 = .ok (.aload_n 0, 1) := by decide +kernel
theorem zd_TL_deliver_85 : decode zc_TL_deliver 85 = .ok (.aload_n 0, 1) := by decide +kernel
theorem zd_TL_deliver_86 : decode zc_TL_deliver 86 = .ok (.getfield 22, 3) := by decide +kernel
theorem zd_TL_deliver_89 : decode zc_TL_deliver 89 = .ok (.iload_n 2, 1) := by decide +kernel
theorem zd_TL_deliver_90 : decode zc_TL_deliver 90 = .ok (.aaload, 1) := by decide +kernel
theorem zd_TL_deliver_91 : decode zc_TL_deliver 91 = .ok (.aload 4, 2) := by decide +kernel
theorem zd_TL_deliver_93 : decode zc_TL_deliver 93 = .ok (.getfield 94, 3) := by decide +kernel
theorem zd_TL_deliver_96 : decode zc_TL_deliver 96 = .ok (.invokevirtual 97, 3) := by decide +kernel
theorem zd_TL_deliver_99 : decode zc_TL_deliver 99 = .ok (.iconst 1, 1) := by decide +kernel
theorem zd_TL_deliver_100 : decode zc_TL_deliver 100 = .ok (.ireturn, 1) := by decide +kernel
theorem zd_TL_envelopes_0 : decode zc_TL_envelopes 0 = .ok (.aload_n 0, 1) := by decide +kernel
theorem zd_TL_envelopes_1 : decode zc_TL_envelopes 1 = .ok (.getfield 110, 3) := by decide +kernel
theorem zd_TL_envelopes_4 : decode zc_TL_envelopes 4 = .ok (.ireturn, 1) := by decide +kernel
theorem zd_Agreement_aspect_0 : decode zc_Agreement_aspect 0 = .ok (.iload_n 1, 1) := by decide +kernel
theorem zd_Agreement_aspect_1 : decode zc_Agreement_aspect 1 = .ok (.tableswitch 51 1 4 #[31, 36, 41, 46], 31) := by decide +kernel
theorem zd_Agreement_aspect_32 : decode zc_Agreement_aspect 32 = .ok (.aload_n 0, 1) := by decide +kernel
theorem zd_Agreement_aspect_33 : decode zc_Agreement_aspect 33 = .ok (.getfield 43, 3) := by decide +kernel
theorem zd_Agreement_aspect_36 : decode zc_Agreement_aspect 36 = .ok (.ireturn, 1) := by decide +kernel
theorem zd_Agreement_aspect_37 : decode zc_Agreement_aspect 37 = .ok (.aload_n 0, 1) := by decide +kernel
theorem zd_Agreement_aspect_38 : decode zc_Agreement_aspect 38 = .ok (.getfield 46, 3) := by decide +kernel
theorem zd_Agreement_aspect_41 : decode zc_Agreement_aspect 41 = .ok (.ireturn, 1) := by decide +kernel
theorem zd_Agreement_aspect_42 : decode zc_Agreement_aspect 42 = .ok (.aload_n 0, 1) := by decide +kernel
theorem zd_Agreement_aspect_43 : decode zc_Agreement_aspect 43 = .ok (.getfield 49, 3) := by decide +kernel
theorem zd_Agreement_aspect_46 : decode zc_Agreement_aspect 46 = .ok (.ireturn, 1) := by decide +kernel
theorem zd_Agreement_aspect_47 : decode zc_Agreement_aspect 47 = .ok (.aload_n 0, 1) := by decide +kernel
theorem zd_Agreement_aspect_48 : decode zc_Agreement_aspect 48 = .ok (.invokevirtual 52, 3) := by decide +kernel
theorem zd_Agreement_aspect_51 : decode zc_Agreement_aspect 51 = .ok (.ireturn, 1) := by decide +kernel
theorem zd_Agreement_aspect_52 : decode zc_Agreement_aspect 52 = .ok (.aload_n 0, 1) := by decide +kernel
theorem zd_Agreement_aspect_53 : decode zc_Agreement_aspect 53 = .ok (.getfield 56, 3) := by decide +kernel
theorem zd_Agreement_aspect_56 : decode zc_Agreement_aspect 56 = .ok (.ireturn, 1) := by decide +kernel
theorem zd_TL_state_0 : decode zc_TL_state 0 = .ok (.aload_n 0, 1) := by decide +kernel
theorem zd_TL_state_1 : decode zc_TL_state 1 = .ok (.iload_n 1, 1) := by decide +kernel
theorem zd_TL_state_2 : decode zc_TL_state 2 = .ok (.invokevirtual 107, 3) := by decide +kernel
theorem zd_TL_state_5 : decode zc_TL_state 5 = .ok (.ifCond .eq 12, 3) := by decide +kernel
theorem zd_TL_state_8 : decode zc_TL_state 8 = .ok (.iload_n 2, 1) := by decide +kernel
theorem zd_TL_state_9 : decode zc_TL_state 9 = .ok (.iconst 0, 1) := by decide +kernel
theorem zd_TL_state_10 : decode zc_TL_state 10 = .ok (.iconst 5, 1) := by decide +kernel
theorem zd_TL_state_11 : decode zc_TL_state 11 = .ok (.invokestatic 41, 3) := by decide +kernel
theorem zd_TL_state_14 : decode zc_TL_state 14 = .ok (.ifCond .ne 5, 3) := by decide +kernel
theorem zd_TL_state_17 : decode zc_TL_state 17 = .ok (.iconst (-1), 1) := by decide +kernel
theorem zd_TL_state_18 : decode zc_TL_state 18 = .ok (.ireturn, 1) := by decide +kernel
theorem zd_TL_state_19 : decode zc_TL_state 19 = .ok (.aload_n 0, 1) := by decide +kernel
theorem zd_TL_state_20 : decode zc_TL_state 20 = .ok (.getfield 22, 3) := by decide +kernel
theorem zd_TL_state_23 : decode zc_TL_state 23 = .ok (.iload_n 1, 1) := by decide +kernel
theorem zd_TL_state_24 : decode zc_TL_state 24 = .ok (.aaload, 1) := by decide +kernel
theorem zd_TL_state_25 : decode zc_TL_state 25 = .ok (.getfield 79, 3) := by decide +kernel
theorem zd_TL_state_28 : decode zc_TL_state 28 = .ok (.istore_n 3, 1) := by decide +kernel
theorem zd_TL_state_29 : decode zc_TL_state 29 = .ok (.iload_n 2, 1) := by decide +kernel
theorem zd_TL_state_30 : decode zc_TL_state 30 = .ok (.ifCond .ne 5, 3) := by decide +kernel
theorem zd_TL_state_33 : decode zc_TL_state 33 = .ok (.iload_n 3, 1) := by decide +kernel
theorem zd_TL_state_34 : decode zc_TL_state 34 = .ok (.ireturn, 1) := by decide +kernel
theorem zd_TL_state_35 : decode zc_TL_state 35 = .ok (.iload_n 3, 1) := by decide +kernel
theorem zd_TL_state_36 : decode zc_TL_state 36 = .ok (.invokestatic 59, 3) := by decide +kernel
theorem zd_TL_state_39 : decode zc_TL_state 39 = .ok (.ifCond .eq 21, 3) := by decide +kernel
theorem zd_TL_state_42 : decode zc_TL_state 42 = .ok (.aload_n 0, 1) := by decide +kernel
theorem zd_TL_state_43 : decode zc_TL_state 43 = .ok (.getfield 22, 3) := by decide +kernel
theorem zd_TL_state_46 : decode zc_TL_state 46 = .ok (.iload_n 1, 1) := by decide +kernel
theorem zd_TL_state_47 : decode zc_TL_state 47 = .ok (.aaload, 1) := by decide +kernel
theorem zd_TL_state_48 : decode zc_TL_state 48 = .ok (.getfield 75, 3) := by decide +kernel
theorem zd_TL_state_51 : decode zc_TL_state 51 = .ok (.iload_n 3, 1) := by decide +kernel
theorem zd_TL_state_52 : decode zc_TL_state 52 = .ok (.aaload, 1) := by decide +kernel
theorem zd_TL_state_53 : decode zc_TL_state 53 = .ok (.iload_n 2, 1) := by decide +kernel
theorem zd_TL_state_54 : decode zc_TL_state 54 = .ok (.invokevirtual 151, 3) := by decide +kernel
theorem zd_TL_state_57 : decode zc_TL_state 57 = .ok (.goto 4, 3) := by decide +kernel
theorem zd_TL_state_60 : decode zc_TL_state 60 = .ok (.iconst 0, 1) := by decide +kernel
theorem zd_TL_state_61 : decode zc_TL_state 61 = .ok (.ireturn, 1) := by decide +kernel
theorem zd_TL_statements_0 : decode zc_TL_statements 0 = .ok (.aload_n 0, 1) := by decide +kernel
theorem zd_TL_statements_1 : decode zc_TL_statements 1 = .ok (.iload_n 1, 1) := by decide +kernel
theorem zd_TL_statements_2 : decode zc_TL_statements 2 = .ok (.invokevirtual 107, 3) := by decide +kernel
theorem zd_TL_statements_5 : decode zc_TL_statements 5 = .ok (.ifCond .eq 29, 3) := by decide +kernel
theorem zd_TL_statements_8 : decode zc_TL_statements 8 = .ok (.iload_n 2, 1) := by decide +kernel
theorem zd_TL_statements_9 : decode zc_TL_statements 9 = .ok (.invokestatic 59, 3) := by decide +kernel
theorem zd_TL_statements_12 : decode zc_TL_statements 12 = .ok (.ifCond .eq 22, 3) := by decide +kernel
theorem zd_TL_statements_15 : decode zc_TL_statements 15 = .ok (.iload_n 3, 1) := by decide +kernel
theorem zd_TL_statements_16 : decode zc_TL_statements 16 = .ok (.iconst 0, 1) := by decide +kernel
theorem zd_TL_statements_17 : decode zc_TL_statements 17 = .ok (.iconst 2, 1) := by decide +kernel
theorem zd_TL_statements_18 : decode zc_TL_statements 18 = .ok (.invokestatic 41, 3) := by decide +kernel
theorem zd_TL_statements_21 : decode zc_TL_statements 21 = .ok (.ifCond .eq 13, 3) := by decide +kernel
theorem zd_TL_statements_24 : decode zc_TL_statements 24 = .ok (.iload 4, 2) := by decide +kernel
theorem zd_TL_statements_26 : decode zc_TL_statements 26 = .ok (.iconst 0, 1) := by decide +kernel
theorem zd_TL_statements_27 : decode zc_TL_statements 27 = .ok (.iconst 2, 1) := by decide +kernel
theorem zd_TL_statements_28 : decode zc_TL_statements 28 = .ok (.invokestatic 41, 3) := by decide +kernel
theorem zd_TL_statements_31 : decode zc_TL_statements 31 = .ok (.ifCond .ne 5, 3) := by decide +kernel
theorem zd_TL_statements_34 : decode zc_TL_statements 34 = .ok (.iconst (-1), 1) := by decide +kernel
theorem zd_TL_statements_35 : decode zc_TL_statements 35 = .ok (.ireturn, 1) := by decide +kernel
theorem zd_TL_statements_36 : decode zc_TL_statements 36 = .ok (.aload_n 0, 1) := by decide +kernel
theorem zd_TL_statements_37 : decode zc_TL_statements 37 = .ok (.getfield 22, 3) := by decide +kernel
theorem zd_TL_statements_40 : decode zc_TL_statements 40 = .ok (.iload_n 1, 1) := by decide +kernel
theorem zd_TL_statements_41 : decode zc_TL_statements 41 = .ok (.aaload, 1) := by decide +kernel
theorem zd_TL_statements_42 : decode zc_TL_statements 42 = .ok (.getfield 75, 3) := by decide +kernel
theorem zd_TL_statements_45 : decode zc_TL_statements 45 = .ok (.iload_n 2, 1) := by decide +kernel
theorem zd_TL_statements_46 : decode zc_TL_statements 46 = .ok (.aaload, 1) := by decide +kernel
theorem zd_TL_statements_47 : decode zc_TL_statements 47 = .ok (.iload_n 3, 1) := by decide +kernel
theorem zd_TL_statements_48 : decode zc_TL_statements 48 = .ok (.invokevirtual 116, 3) := by decide +kernel
theorem zd_TL_statements_51 : decode zc_TL_statements 51 = .ok (.astore 5, 2) := by decide +kernel
theorem zd_TL_statements_53 : decode zc_TL_statements 53 = .ok (.iload 4, 2) := by decide +kernel
theorem zd_TL_statements_55 : decode zc_TL_statements 55 = .ok (.ifCond .ne 9, 3) := by decide +kernel
theorem zd_TL_statements_58 : decode zc_TL_statements 58 = .ok (.aload 5, 2) := by decide +kernel
theorem zd_TL_statements_60 : decode zc_TL_statements 60 = .ok (.getfield 155, 3) := by decide +kernel
theorem zd_TL_statements_63 : decode zc_TL_statements 63 = .ok (.ireturn, 1) := by decide +kernel
theorem zd_TL_statements_64 : decode zc_TL_statements 64 = .ok (.iload 4, 2) := by decide +kernel
theorem zd_TL_statements_66 : decode zc_TL_statements 66 = .ok (.iconst 1, 1) := by decide +kernel
theorem zd_TL_statements_67 : decode zc_TL_statements 67 = .ok (.if_icmp .ne 13, 3) := by decide +kernel
theorem zd_TL_statements_70 : decode zc_TL_statements 70 = .ok (.aload 5, 2) := by decide +kernel
theorem zd_TL_statements_72 : decode zc_TL_statements 72 = .ok (.getfield 130, 3) := by decide +kernel
theorem zd_TL_statements_75 : decode zc_TL_statements 75 = .ok (.iload_n 1, 1) := by decide +kernel
theorem zd_TL_statements_76 : decode zc_TL_statements 76 = .ok (.iaload, 1) := by decide +kernel
theorem zd_TL_statements_77 : decode zc_TL_statements 77 = .ok (.goto 8, 3) := by decide +kernel
theorem zd_TL_statements_80 : decode zc_TL_statements 80 = .ok (.aload 5, 2) := by decide +kernel
theorem zd_TL_statements_82 : decode zc_TL_statements 82 = .ok (.getfield 158, 3) := by decide +kernel
theorem zd_TL_statements_85 : decode zc_TL_statements 85 = .ok (.ireturn, 1) := by decide +kernel
theorem zd_TL_value_0 : decode zc_TL_value 0 = .ok (.aload_n 0, 1) := by decide +kernel
theorem zd_TL_value_1 : decode zc_TL_value 1 = .ok (.iload_n 1, 1) := by decide +kernel
theorem zd_TL_value_2 : decode zc_TL_value 2 = .ok (.invokevirtual 107, 3) := by decide +kernel
theorem zd_TL_value_5 : decode zc_TL_value 5 = .ok (.ifCond .eq 27, 3) := by decide +kernel
theorem zd_TL_value_8 : decode zc_TL_value 8 = .ok (.iload_n 2, 1) := by decide +kernel
theorem zd_TL_value_9 : decode zc_TL_value 9 = .ok (.invokestatic 59, 3) := by decide +kernel
theorem zd_TL_value_12 : decode zc_TL_value 12 = .ok (.ifCond .eq 20, 3) := by decide +kernel
theorem zd_TL_value_15 : decode zc_TL_value 15 = .ok (.aload_n 0, 1) := by decide +kernel
theorem zd_TL_value_16 : decode zc_TL_value 16 = .ok (.getfield 22, 3) := by decide +kernel
theorem zd_TL_value_19 : decode zc_TL_value 19 = .ok (.iload_n 1, 1) := by decide +kernel
theorem zd_TL_value_20 : decode zc_TL_value 20 = .ok (.aaload, 1) := by decide +kernel
theorem zd_TL_value_21 : decode zc_TL_value 21 = .ok (.getfield 75, 3) := by decide +kernel
theorem zd_TL_value_24 : decode zc_TL_value 24 = .ok (.iload_n 2, 1) := by decide +kernel
theorem zd_TL_value_25 : decode zc_TL_value 25 = .ok (.aaload, 1) := by decide +kernel
theorem zd_TL_value_26 : decode zc_TL_value 26 = .ok (.getfield 94, 3) := by decide +kernel
theorem zd_TL_value_29 : decode zc_TL_value 29 = .ok (.goto 4, 3) := by decide +kernel
theorem zd_TL_value_32 : decode zc_TL_value 32 = .ok (.iconst (-1), 1) := by decide +kernel
theorem zd_TL_value_33 : decode zc_TL_value 33 = .ok (.ireturn, 1) := by decide +kernel
theorem zd_TL_header_0 : decode zc_TL_header 0 = .ok (.aload_n 0, 1) := by decide +kernel
theorem zd_TL_header_1 : decode zc_TL_header 1 = .ok (.iload_n 1, 1) := by decide +kernel
theorem zd_TL_header_2 : decode zc_TL_header 2 = .ok (.invokevirtual 107, 3) := by decide +kernel
theorem zd_TL_header_5 : decode zc_TL_header 5 = .ok (.ifCond .eq 15, 3) := by decide +kernel
theorem zd_TL_header_8 : decode zc_TL_header 8 = .ok (.aload_n 0, 1) := by decide +kernel
theorem zd_TL_header_9 : decode zc_TL_header 9 = .ok (.getfield 22, 3) := by decide +kernel
theorem zd_TL_header_12 : decode zc_TL_header 12 = .ok (.iload_n 1, 1) := by decide +kernel
theorem zd_TL_header_13 : decode zc_TL_header 13 = .ok (.aaload, 1) := by decide +kernel
theorem zd_TL_header_14 : decode zc_TL_header 14 = .ok (.getfield 161, 3) := by decide +kernel
theorem zd_TL_header_17 : decode zc_TL_header 17 = .ok (.goto 4, 3) := by decide +kernel
theorem zd_TL_header_20 : decode zc_TL_header 20 = .ok (.iconst 0, 1) := by decide +kernel
theorem zd_TL_header_21 : decode zc_TL_header 21 = .ok (.ireturn, 1) := by decide +kernel
theorem zd_TL_balance_0 : decode zc_TL_balance 0 = .ok (.aload_n 0, 1) := by decide +kernel
theorem zd_TL_balance_1 : decode zc_TL_balance 1 = .ok (.iload_n 1, 1) := by decide +kernel
theorem zd_TL_balance_2 : decode zc_TL_balance 2 = .ok (.invokevirtual 107, 3) := by decide +kernel
theorem zd_TL_balance_5 : decode zc_TL_balance 5 = .ok (.ifCond .eq 19, 3) := by decide +kernel
theorem zd_TL_balance_8 : decode zc_TL_balance 8 = .ok (.iload_n 2, 1) := by decide +kernel
theorem zd_TL_balance_9 : decode zc_TL_balance 9 = .ok (.invokestatic 63, 3) := by decide +kernel
theorem zd_TL_balance_12 : decode zc_TL_balance 12 = .ok (.ifCond .eq 12, 3) := by decide +kernel
theorem zd_TL_balance_15 : decode zc_TL_balance 15 = .ok (.iload_n 3, 1) := by decide +kernel
theorem zd_TL_balance_16 : decode zc_TL_balance 16 = .ok (.iconst 0, 1) := by decide +kernel
theorem zd_TL_balance_17 : decode zc_TL_balance 17 = .ok (.iconst 1, 1) := by decide +kernel
theorem zd_TL_balance_18 : decode zc_TL_balance 18 = .ok (.invokestatic 41, 3) := by decide +kernel
theorem zd_TL_balance_21 : decode zc_TL_balance 21 = .ok (.ifCond .ne 5, 3) := by decide +kernel
theorem zd_TL_balance_24 : decode zc_TL_balance 24 = .ok (.iconst (-1), 1) := by decide +kernel
theorem zd_TL_balance_25 : decode zc_TL_balance 25 = .ok (.ireturn, 1) := by decide +kernel
theorem zd_TL_balance_26 : decode zc_TL_balance 26 = .ok (.aload_n 0, 1) := by decide +kernel
theorem zd_TL_balance_27 : decode zc_TL_balance 27 = .ok (.getfield 22, 3) := by decide +kernel
theorem zd_TL_balance_30 : decode zc_TL_balance 30 = .ok (.iload_n 1, 1) := by decide +kernel
theorem zd_TL_balance_31 : decode zc_TL_balance 31 = .ok (.aaload, 1) := by decide +kernel
theorem zd_TL_balance_32 : decode zc_TL_balance 32 = .ok (.getfield 164, 3) := by decide +kernel
theorem zd_TL_balance_35 : decode zc_TL_balance 35 = .ok (.iload_n 3, 1) := by decide +kernel
theorem zd_TL_balance_36 : decode zc_TL_balance 36 = .ok (.invokevirtual 168, 3) := by decide +kernel
theorem zd_TL_balance_39 : decode zc_TL_balance 39 = .ok (.iload_n 2, 1) := by decide +kernel
theorem zd_TL_balance_40 : decode zc_TL_balance 40 = .ok (.iaload, 1) := by decide +kernel
theorem zd_TL_balance_41 : decode zc_TL_balance 41 = .ok (.ireturn, 1) := by decide +kernel
theorem zd_TL_offer_0 : decode zc_TL_offer 0 = .ok (.aload_n 0, 1) := by decide +kernel
theorem zd_TL_offer_1 : decode zc_TL_offer 1 = .ok (.iload_n 1, 1) := by decide +kernel
theorem zd_TL_offer_2 : decode zc_TL_offer 2 = .ok (.invokevirtual 107, 3) := by decide +kernel
theorem zd_TL_offer_5 : decode zc_TL_offer 5 = .ok (.ifCond .eq 13, 3) := by decide +kernel
theorem zd_TL_offer_8 : decode zc_TL_offer 8 = .ok (.iload_n 2, 1) := by decide +kernel
theorem zd_TL_offer_9 : decode zc_TL_offer 9 = .ok (.iconst 0, 1) := by decide +kernel
theorem zd_TL_offer_10 : decode zc_TL_offer 10 = .ok (.bipush 7, 2) := by decide +kernel
theorem zd_TL_offer_12 : decode zc_TL_offer 12 = .ok (.invokestatic 41, 3) := by decide +kernel
theorem zd_TL_offer_15 : decode zc_TL_offer 15 = .ok (.ifCond .ne 5, 3) := by decide +kernel
theorem zd_TL_offer_18 : decode zc_TL_offer 18 = .ok (.iconst (-1), 1) := by decide +kernel
theorem zd_TL_offer_19 : decode zc_TL_offer 19 = .ok (.ireturn, 1) := by decide +kernel
theorem zd_TL_offer_20 : decode zc_TL_offer 20 = .ok (.aload_n 0, 1) := by decide +kernel
theorem zd_TL_offer_21 : decode zc_TL_offer 21 = .ok (.getfield 22, 3) := by decide +kernel
theorem zd_TL_offer_24 : decode zc_TL_offer 24 = .ok (.iload_n 1, 1) := by decide +kernel
theorem zd_TL_offer_25 : decode zc_TL_offer 25 = .ok (.aaload, 1) := by decide +kernel
theorem zd_TL_offer_26 : decode zc_TL_offer 26 = .ok (.getfield 164, 3) := by decide +kernel
theorem zd_TL_offer_29 : decode zc_TL_offer 29 = .ok (.getfield 174, 3) := by decide +kernel
theorem zd_TL_offer_32 : decode zc_TL_offer 32 = .ok (.iload_n 2, 1) := by decide +kernel
theorem zd_TL_offer_33 : decode zc_TL_offer 33 = .ok (.aaload, 1) := by decide +kernel
theorem zd_TL_offer_34 : decode zc_TL_offer 34 = .ok (.astore_n 3, 1) := by decide +kernel
theorem zd_TL_offer_35 : decode zc_TL_offer 35 = .ok (.aload_n 3, 1) := by decide +kernel
theorem zd_TL_offer_36 : decode zc_TL_offer 36 = .ok (.ifnonnull 5, 3) := by decide +kernel
theorem zd_TL_offer_39 : decode zc_TL_offer 39 = .ok (.iconst (-1), 1) := by decide +kernel
theorem zd_TL_offer_40 : decode zc_TL_offer 40 = .ok (.ireturn, 1) := by decide +kernel
theorem zd_TL_offer_41 : decode zc_TL_offer 41 = .ok (.aload_n 3, 1) := by decide +kernel
theorem zd_TL_offer_42 : decode zc_TL_offer 42 = .ok (.getfield 178, 3) := by decide +kernel
theorem zd_TL_offer_45 : decode zc_TL_offer 45 = .ok (.iconst 4, 1) := by decide +kernel
theorem zd_TL_offer_46 : decode zc_TL_offer 46 = .ok (.aload_n 3, 1) := by decide +kernel
theorem zd_TL_offer_47 : decode zc_TL_offer 47 = .ok (.getfield 183, 3) := by decide +kernel
theorem zd_TL_offer_50 : decode zc_TL_offer 50 = .ok (.imul, 1) := by decide +kernel
theorem zd_TL_offer_51 : decode zc_TL_offer 51 = .ok (.iadd, 1) := by decide +kernel
theorem zd_TL_offer_52 : decode zc_TL_offer 52 = .ok (.bipush 16, 2) := by decide +kernel
theorem zd_TL_offer_54 : decode zc_TL_offer 54 = .ok (.aload_n 3, 1) := by decide +kernel
theorem zd_TL_offer_55 : decode zc_TL_offer 55 = .ok (.getfield 186, 3) := by decide +kernel
theorem zd_TL_offer_58 : decode zc_TL_offer 58 = .ok (.imul, 1) := by decide +kernel
theorem zd_TL_offer_59 : decode zc_TL_offer 59 = .ok (.iadd, 1) := by decide +kernel
theorem zd_TL_offer_60 : decode zc_TL_offer 60 = .ok (.sipush 256, 3) := by decide +kernel
theorem zd_TL_offer_63 : decode zc_TL_offer 63 = .ok (.aload_n 3, 1) := by decide +kernel
theorem zd_TL_offer_64 : decode zc_TL_offer 64 = .ok (.getfield 189, 3) := by decide +kernel
theorem zd_TL_offer_67 : decode zc_TL_offer 67 = .ok (.imul, 1) := by decide +kernel
theorem zd_TL_offer_68 : decode zc_TL_offer 68 = .ok (.iadd, 1) := by decide +kernel
theorem zd_TL_offer_69 : decode zc_TL_offer 69 = .ok (.ireturn, 1) := by decide +kernel
theorem zd_Mo_many_0 : decode zc_Mo_many 0 = .ok (.iconst 0, 1) := by decide +kernel
theorem zd_Mo_many_1 : decode zc_Mo_many 1 = .ok (.istore_n 1, 1) := by decide +kernel
theorem zd_Mo_many_2 : decode zc_Mo_many 2 = .ok (.iconst 0, 1) := by decide +kernel
theorem zd_Mo_many_3 : decode zc_Mo_many 3 = .ok (.istore_n 2, 1) := by decide +kernel
theorem zd_Mo_many_4 : decode zc_Mo_many 4 = .ok (.iload_n 2, 1) := by decide +kernel
theorem zd_Mo_many_5 : decode zc_Mo_many 5 = .ok (.iconst 5, 1) := by decide +kernel
theorem zd_Mo_many_6 : decode zc_Mo_many 6 = .ok (.if_icmp .ge 17, 3) := by decide +kernel
theorem zd_Mo_many_9 : decode zc_Mo_many 9 = .ok (.iload_n 1, 1) := by decide +kernel
theorem zd_Mo_many_10 : decode zc_Mo_many 10 = .ok (.iload_n 0, 1) := by decide +kernel
theorem zd_Mo_many_11 : decode zc_Mo_many 11 = .ok (.iload_n 2, 1) := by decide +kernel
theorem zd_Mo_many_12 : decode zc_Mo_many 12 = .ok (.ishr, 1) := by decide +kernel
theorem zd_Mo_many_13 : decode zc_Mo_many 13 = .ok (.iconst 1, 1) := by decide +kernel
theorem zd_Mo_many_14 : decode zc_Mo_many 14 = .ok (.iand, 1) := by decide +kernel
theorem zd_Mo_many_15 : decode zc_Mo_many 15 = .ok (.iadd, 1) := by decide +kernel
theorem zd_Mo_many_16 : decode zc_Mo_many 16 = .ok (.istore_n 1, 1) := by decide +kernel
theorem zd_Mo_many_17 : decode zc_Mo_many 17 = .ok (.iinc 2 1, 3) := by decide +kernel
theorem zd_Mo_many_20 : decode zc_Mo_many 20 = .ok (.goto (-16), 3) := by decide +kernel
theorem zd_Mo_many_23 : decode zc_Mo_many 23 = .ok (.iload_n 1, 1) := by decide +kernel
theorem zd_Mo_many_24 : decode zc_Mo_many 24 = .ok (.ireturn, 1) := by decide +kernel
theorem zd_Mo_satisfies_0 : decode zc_Mo_satisfies 0 = .ok (.iload_n 1, 1) := by decide +kernel
theorem zd_Mo_satisfies_1 : decode zc_Mo_satisfies 1 = .ok (.aload_n 0, 1) := by decide +kernel
theorem zd_Mo_satisfies_2 : decode zc_Mo_satisfies 2 = .ok (.getfield 13, 3) := by decide +kernel
theorem zd_Mo_satisfies_5 : decode zc_Mo_satisfies 5 = .ok (.iload_n 2, 1) := by decide +kernel
theorem zd_Mo_satisfies_6 : decode zc_Mo_satisfies 6 = .ok (.iaload, 1) := by decide +kernel
theorem zd_Mo_satisfies_7 : decode zc_Mo_satisfies 7 = .ok (.iand, 1) := by decide +kernel
theorem zd_Mo_satisfies_8 : decode zc_Mo_satisfies 8 = .ok (.invokestatic 109, 3) := by decide +kernel
theorem zd_Mo_satisfies_11 : decode zc_Mo_satisfies 11 = .ok (.istore_n 3, 1) := by decide +kernel
theorem zd_Mo_satisfies_12 : decode zc_Mo_satisfies 12 = .ok (.iload_n 1, 1) := by decide +kernel
theorem zd_Mo_satisfies_13 : decode zc_Mo_satisfies 13 = .ok (.aload_n 0, 1) := by decide +kernel
theorem zd_Mo_satisfies_14 : decode zc_Mo_satisfies 14 = .ok (.getfield 19, 3) := by decide +kernel
theorem zd_Mo_satisfies_17 : decode zc_Mo_satisfies 17 = .ok (.iload_n 2, 1) := by decide +kernel
theorem zd_Mo_satisfies_18 : decode zc_Mo_satisfies 18 = .ok (.iaload, 1) := by decide +kernel
theorem zd_Mo_satisfies_19 : decode zc_Mo_satisfies 19 = .ok (.iand, 1) := by decide +kernel
theorem zd_Mo_satisfies_20 : decode zc_Mo_satisfies 20 = .ok (.invokestatic 109, 3) := by decide +kernel
theorem zd_Mo_satisfies_23 : decode zc_Mo_satisfies 23 = .ok (.istore 4, 2) := by decide +kernel
theorem zd_Mo_satisfies_25 : decode zc_Mo_satisfies 25 = .ok (.iload_n 3, 1) := by decide +kernel
theorem zd_Mo_satisfies_26 : decode zc_Mo_satisfies 26 = .ok (.aload_n 0, 1) := by decide +kernel
theorem zd_Mo_satisfies_27 : decode zc_Mo_satisfies 27 = .ok (.getfield 16, 3) := by decide +kernel
theorem zd_Mo_satisfies_30 : decode zc_Mo_satisfies 30 = .ok (.iload_n 2, 1) := by decide +kernel
theorem zd_Mo_satisfies_31 : decode zc_Mo_satisfies 31 = .ok (.iaload, 1) := by decide +kernel
theorem zd_Mo_satisfies_32 : decode zc_Mo_satisfies 32 = .ok (.ifCond .le 18, 3) := by decide +kernel
theorem zd_Mo_satisfies_35 : decode zc_Mo_satisfies 35 = .ok (.iload 4, 2) := by decide +kernel
theorem zd_Mo_satisfies_37 : decode zc_Mo_satisfies 37 = .ok (.aload_n 0, 1) := by decide +kernel
theorem zd_Mo_satisfies_38 : decode zc_Mo_satisfies 38 = .ok (.getfield 16, 3) := by decide +kernel
theorem zd_Mo_satisfies_41 : decode zc_Mo_satisfies 41 = .ok (.iload_n 2, 1) := by decide +kernel
theorem zd_Mo_satisfies_42 : decode zc_Mo_satisfies 42 = .ok (.iaload, 1) := by decide +kernel
theorem zd_Mo_satisfies_43 : decode zc_Mo_satisfies 43 = .ok (.if_icmp .lt 7, 3) := by decide +kernel
theorem zd_Mo_satisfies_46 : decode zc_Mo_satisfies 46 = .ok (.iconst 1, 1) := by decide +kernel
theorem zd_Mo_satisfies_47 : decode zc_Mo_satisfies 47 = .ok (.goto 4, 3) := by decide +kernel
theorem zd_Mo_satisfies_50 : decode zc_Mo_satisfies 50 = .ok (.iconst 0, 1) := by decide +kernel
theorem zd_Mo_satisfies_51 : decode zc_Mo_satisfies 51 = .ok (.iadd, 1) := by decide +kernel
theorem zd_Mo_satisfies_52 : decode zc_Mo_satisfies 52 = .ok (.aload_n 0, 1) := by decide +kernel
theorem zd_Mo_satisfies_53 : decode zc_Mo_satisfies 53 = .ok (.getfield 7, 3) := by decide +kernel
theorem zd_Mo_satisfies_56 : decode zc_Mo_satisfies 56 = .ok (.iload_n 2, 1) := by decide +kernel
theorem zd_Mo_satisfies_57 : decode zc_Mo_satisfies 57 = .ok (.iaload, 1) := by decide +kernel
theorem zd_Mo_satisfies_58 : decode zc_Mo_satisfies 58 = .ok (.if_icmp .lt 7, 3) := by decide +kernel
theorem zd_Mo_satisfies_61 : decode zc_Mo_satisfies 61 = .ok (.iconst 1, 1) := by decide +kernel
theorem zd_Mo_satisfies_62 : decode zc_Mo_satisfies 62 = .ok (.goto 4, 3) := by decide +kernel
theorem zd_Mo_satisfies_65 : decode zc_Mo_satisfies 65 = .ok (.iconst 0, 1) := by decide +kernel
theorem zd_Mo_satisfies_66 : decode zc_Mo_satisfies 66 = .ok (.ireturn, 1) := by decide +kernel
theorem zd_Mo_table_0 : decode zc_Mo_table 0 = .ok (.iconst 0, 1) := by decide +kernel
theorem zd_Mo_table_1 : decode zc_Mo_table 1 = .ok (.istore_n 1, 1) := by decide +kernel
theorem zd_Mo_table_2 : decode zc_Mo_table 2 = .ok (.iload_n 1, 1) := by decide +kernel
theorem zd_Mo_table_3 : decode zc_Mo_table 3 = .ok (.bipush 32, 2) := by decide +kernel
theorem zd_Mo_table_5 : decode zc_Mo_table 5 = .ok (.if_icmp .ge 54, 3) := by decide +kernel
theorem zd_Mo_table_8 : decode zc_Mo_table 8 = .ok (.aload_n 0, 1) := by decide +kernel
theorem zd_Mo_table_9 : decode zc_Mo_table 9 = .ok (.getfield 22, 3) := by decide +kernel
theorem zd_Mo_table_12 : decode zc_Mo_table 12 = .ok (.iload_n 1, 1) := by decide +kernel
theorem zd_Mo_table_13 : decode zc_Mo_table 13 = .ok (.iconst 1, 1) := by decide +kernel
theorem zd_Mo_table_14 : decode zc_Mo_table 14 = .ok (.bastore, 1) := by decide +kernel
theorem zd_Mo_table_15 : decode zc_Mo_table 15 = .ok (.iconst 0, 1) := by decide +kernel
theorem zd_Mo_table_16 : decode zc_Mo_table 16 = .ok (.istore_n 2, 1) := by decide +kernel
theorem zd_Mo_table_17 : decode zc_Mo_table 17 = .ok (.iload_n 2, 1) := by decide +kernel
theorem zd_Mo_table_18 : decode zc_Mo_table 18 = .ok (.iconst 5, 1) := by decide +kernel
theorem zd_Mo_table_19 : decode zc_Mo_table 19 = .ok (.if_icmp .ge 34, 3) := by decide +kernel
theorem zd_Mo_table_22 : decode zc_Mo_table 22 = .ok (.iload_n 1, 1) := by decide +kernel
theorem zd_Mo_table_23 : decode zc_Mo_table 23 = .ok (.iload_n 2, 1) := by decide +kernel
theorem zd_Mo_table_24 : decode zc_Mo_table 24 = .ok (.ishr, 1) := by decide +kernel
theorem zd_Mo_table_25 : decode zc_Mo_table 25 = .ok (.iconst 1, 1) := by decide +kernel
theorem zd_Mo_table_26 : decode zc_Mo_table 26 = .ok (.iand, 1) := by decide +kernel
theorem zd_Mo_table_27 : decode zc_Mo_table 27 = .ok (.iconst 1, 1) := by decide +kernel
theorem zd_Mo_table_28 : decode zc_Mo_table 28 = .ok (.if_icmp .ne 19, 3) := by decide +kernel
theorem zd_Mo_table_31 : decode zc_Mo_table 31 = .ok (.aload_n 0, 1) := by decide +kernel
theorem zd_Mo_table_32 : decode zc_Mo_table 32 = .ok (.iload_n 1, 1) := by decide +kernel
theorem zd_Mo_table_33 : decode zc_Mo_table 33 = .ok (.iload_n 2, 1) := by decide +kernel
theorem zd_Mo_table_34 : decode zc_Mo_table 34 = .ok (.invokevirtual 113, 3) := by decide +kernel
theorem zd_Mo_table_37 : decode zc_Mo_table 37 = .ok (.ifCond .ne 10, 3) := by decide +kernel
theorem zd_Mo_table_40 : decode zc_Mo_table 40 = .ok (.aload_n 0, 1) := by decide +kernel
theorem zd_Mo_table_41 : decode zc_Mo_table 41 = .ok (.getfield 22, 3) := by decide +kernel
theorem zd_Mo_table_44 : decode zc_Mo_table 44 = .ok (.iload_n 1, 1) := by decide +kernel
theorem zd_Mo_table_45 : decode zc_Mo_table 45 = .ok (.iconst 0, 1) := by decide +kernel
theorem zd_Mo_table_46 : decode zc_Mo_table 46 = .ok (.bastore, 1) := by decide +kernel
theorem zd_Mo_table_47 : decode zc_Mo_table 47 = .ok (.iinc 2 1, 3) := by decide +kernel
theorem zd_Mo_table_50 : decode zc_Mo_table 50 = .ok (.goto (-33), 3) := by decide +kernel
theorem zd_Mo_table_53 : decode zc_Mo_table 53 = .ok (.iinc 1 1, 3) := by decide +kernel
theorem zd_Mo_table_56 : decode zc_Mo_table 56 = .ok (.goto (-54), 3) := by decide +kernel
theorem zd_Mo_table_59 : decode zc_Mo_table 59 = .ok (.return_, 1) := by decide +kernel
theorem zd_Mo_init_0 : decode zc_Mo_init 0 = .ok (.aload_n 0, 1) := by decide +kernel
theorem zd_Mo_init_1 : decode zc_Mo_init 1 = .ok (.invokespecial 1, 3) := by decide +kernel
theorem zd_Mo_init_4 : decode zc_Mo_init 4 = .ok (.aload_n 0, 1) := by decide +kernel
theorem zd_Mo_init_5 : decode zc_Mo_init 5 = .ok (.iconst 5, 1) := by decide +kernel
theorem zd_Mo_init_6 : decode zc_Mo_init 6 = .ok (.newarray .int, 2) := by decide +kernel
theorem zd_Mo_init_8 : decode zc_Mo_init 8 = .ok (.putfield 7, 3) := by decide +kernel
theorem zd_Mo_init_11 : decode zc_Mo_init 11 = .ok (.aload_n 0, 1) := by decide +kernel
theorem zd_Mo_init_12 : decode zc_Mo_init 12 = .ok (.iconst 5, 1) := by decide +kernel
theorem zd_Mo_init_13 : decode zc_Mo_init 13 = .ok (.newarray .int, 2) := by decide +kernel
theorem zd_Mo_init_15 : decode zc_Mo_init 15 = .ok (.putfield 13, 3) := by decide +kernel
theorem zd_Mo_init_18 : decode zc_Mo_init 18 = .ok (.aload_n 0, 1) := by decide +kernel
theorem zd_Mo_init_19 : decode zc_Mo_init 19 = .ok (.iconst 5, 1) := by decide +kernel
theorem zd_Mo_init_20 : decode zc_Mo_init 20 = .ok (.newarray .int, 2) := by decide +kernel
theorem zd_Mo_init_22 : decode zc_Mo_init 22 = .ok (.putfield 16, 3) := by decide +kernel
theorem zd_Mo_init_25 : decode zc_Mo_init 25 = .ok (.aload_n 0, 1) := by decide +kernel
theorem zd_Mo_init_26 : decode zc_Mo_init 26 = .ok (.iconst 5, 1) := by decide +kernel
theorem zd_Mo_init_27 : decode zc_Mo_init 27 = .ok (.newarray .int, 2) := by decide +kernel
theorem zd_Mo_init_29 : decode zc_Mo_init 29 = .ok (.putfield 19, 3) := by decide +kernel
theorem zd_Mo_init_32 : decode zc_Mo_init 32 = .ok (.aload_n 0, 1) := by decide +kernel
theorem zd_Mo_init_33 : decode zc_Mo_init 33 = .ok (.bipush 32, 2) := by decide +kernel
theorem zd_Mo_init_35 : decode zc_Mo_init 35 = .ok (.newarray .boolean, 2) := by decide +kernel
theorem zd_Mo_init_37 : decode zc_Mo_init 37 = .ok (.putfield 22, 3) := by decide +kernel
theorem zd_Mo_init_40 : decode zc_Mo_init 40 = .ok (.aload_n 0, 1) := by decide +kernel
theorem zd_Mo_init_41 : decode zc_Mo_init 41 = .ok (.iconst 5, 1) := by decide +kernel
theorem zd_Mo_init_42 : decode zc_Mo_init 42 = .ok (.newarray .int, 2) := by decide +kernel
theorem zd_Mo_init_44 : decode zc_Mo_init 44 = .ok (.putfield 26, 3) := by decide +kernel
theorem zd_Mo_init_47 : decode zc_Mo_init 47 = .ok (.aload_n 0, 1) := by decide +kernel
theorem zd_Mo_init_48 : decode zc_Mo_init 48 = .ok (.iconst 5, 1) := by decide +kernel
theorem zd_Mo_init_49 : decode zc_Mo_init 49 = .ok (.newarray .int, 2) := by decide +kernel
theorem zd_Mo_init_51 : decode zc_Mo_init 51 = .ok (.putfield 29, 3) := by decide +kernel
theorem zd_Mo_init_54 : decode zc_Mo_init 54 = .ok (.aload_n 0, 1) := by decide +kernel
theorem zd_Mo_init_55 : decode zc_Mo_init 55 = .ok (.iconst 5, 1) := by decide +kernel
theorem zd_Mo_init_56 : decode zc_Mo_init 56 = .ok (.newarray .int, 2) := by decide +kernel
theorem zd_Mo_init_58 : decode zc_Mo_init 58 = .ok (.putfield 32, 3) := by decide +kernel
theorem zd_Mo_init_61 : decode zc_Mo_init 61 = .ok (.aload_n 0, 1) := by decide +kernel
theorem zd_Mo_init_62 : decode zc_Mo_init 62 = .ok (.iconst 5, 1) := by decide +kernel
theorem zd_Mo_init_63 : decode zc_Mo_init 63 = .ok (.newarray .int, 2) := by decide +kernel
theorem zd_Mo_init_65 : decode zc_Mo_init 65 = .ok (.putfield 35, 3) := by decide +kernel
theorem zd_Mo_init_68 : decode zc_Mo_init 68 = .ok (.aload_n 0, 1) := by decide +kernel
theorem zd_Mo_init_69 : decode zc_Mo_init 69 = .ok (.iconst 5, 1) := by decide +kernel
theorem zd_Mo_init_70 : decode zc_Mo_init 70 = .ok (.newarray .int, 2) := by decide +kernel
theorem zd_Mo_init_72 : decode zc_Mo_init 72 = .ok (.putfield 38, 3) := by decide +kernel
theorem zd_Mo_init_75 : decode zc_Mo_init 75 = .ok (.aload_n 0, 1) := by decide +kernel
theorem zd_Mo_init_76 : decode zc_Mo_init 76 = .ok (.sipush 135, 3) := by decide +kernel
theorem zd_Mo_init_79 : decode zc_Mo_init 79 = .ok (.newarray .int, 2) := by decide +kernel
theorem zd_Mo_init_81 : decode zc_Mo_init 81 = .ok (.putfield 41, 3) := by decide +kernel
theorem zd_Mo_init_84 : decode zc_Mo_init 84 = .ok (.aload_n 0, 1) := by decide +kernel
theorem zd_Mo_init_85 : decode zc_Mo_init 85 = .ok (.sipush 150, 3) := by decide +kernel
theorem zd_Mo_init_88 : decode zc_Mo_init 88 = .ok (.newarray .int, 2) := by decide +kernel
theorem zd_Mo_init_90 : decode zc_Mo_init 90 = .ok (.putfield 44, 3) := by decide +kernel
theorem zd_Mo_init_93 : decode zc_Mo_init 93 = .ok (.aload_n 0, 1) := by decide +kernel
theorem zd_Mo_init_94 : decode zc_Mo_init 94 = .ok (.bipush 15, 2) := by decide +kernel
theorem zd_Mo_init_96 : decode zc_Mo_init 96 = .ok (.newarray .int, 2) := by decide +kernel
theorem zd_Mo_init_98 : decode zc_Mo_init 98 = .ok (.putfield 47, 3) := by decide +kernel
theorem zd_Mo_init_101 : decode zc_Mo_init 101 = .ok (.aload_n 0, 1) := by decide +kernel
theorem zd_Mo_init_102 : decode zc_Mo_init 102 = .ok (.iconst 5, 1) := by decide +kernel
theorem zd_Mo_init_103 : decode zc_Mo_init 103 = .ok (.newarray .int, 2) := by decide +kernel
theorem zd_Mo_init_105 : decode zc_Mo_init 105 = .ok (.putfield 50, 3) := by decide +kernel
theorem zd_Mo_init_108 : decode zc_Mo_init 108 = .ok (.aload_n 0, 1) := by decide +kernel
theorem zd_Mo_init_109 : decode zc_Mo_init 109 = .ok (.bipush 120, 2) := by decide +kernel
theorem zd_Mo_init_111 : decode zc_Mo_init 111 = .ok (.newarray .int, 2) := by decide +kernel
theorem zd_Mo_init_113 : decode zc_Mo_init 113 = .ok (.putfield 53, 3) := by decide +kernel
theorem zd_Mo_init_116 : decode zc_Mo_init 116 = .ok (.aload_n 0, 1) := by decide +kernel
theorem zd_Mo_init_117 : decode zc_Mo_init 117 = .ok (.bipush 120, 2) := by decide +kernel
theorem zd_Mo_init_119 : decode zc_Mo_init 119 = .ok (.newarray .int, 2) := by decide +kernel
theorem zd_Mo_init_121 : decode zc_Mo_init 121 = .ok (.putfield 56, 3) := by decide +kernel
theorem zd_Mo_init_124 : decode zc_Mo_init 124 = .ok (.aload_n 0, 1) := by decide +kernel
theorem zd_Mo_init_125 : decode zc_Mo_init 125 = .ok (.sipush 720, 3) := by decide +kernel
theorem zd_Mo_init_128 : decode zc_Mo_init 128 = .ok (.newarray .int, 2) := by decide +kernel
theorem zd_Mo_init_130 : decode zc_Mo_init 130 = .ok (.putfield 59, 3) := by decide +kernel
theorem zd_Mo_init_133 : decode zc_Mo_init 133 = .ok (.aload_n 0, 1) := by decide +kernel
theorem zd_Mo_init_134 : decode zc_Mo_init 134 = .ok (.bipush 9, 2) := by decide +kernel
theorem zd_Mo_init_136 : decode zc_Mo_init 136 = .ok (.newarray .boolean, 2) := by decide +kernel
theorem zd_Mo_init_138 : decode zc_Mo_init 138 = .ok (.putfield 62, 3) := by decide +kernel
theorem zd_Mo_init_141 : decode zc_Mo_init 141 = .ok (.aload_n 0, 1) := by decide +kernel
theorem zd_Mo_init_142 : decode zc_Mo_init 142 = .ok (.bipush 9, 2) := by decide +kernel
theorem zd_Mo_init_144 : decode zc_Mo_init 144 = .ok (.newarray .int, 2) := by decide +kernel
theorem zd_Mo_init_146 : decode zc_Mo_init 146 = .ok (.putfield 65, 3) := by decide +kernel
theorem zd_Mo_init_149 : decode zc_Mo_init 149 = .ok (.aload_n 0, 1) := by decide +kernel
theorem zd_Mo_init_150 : decode zc_Mo_init 150 = .ok (.bipush 9, 2) := by decide +kernel
theorem zd_Mo_init_152 : decode zc_Mo_init 152 = .ok (.newarray .int, 2) := by decide +kernel
theorem zd_Mo_init_154 : decode zc_Mo_init 154 = .ok (.putfield 68, 3) := by decide +kernel
theorem zd_Mo_init_157 : decode zc_Mo_init 157 = .ok (.aload_n 0, 1) := by decide +kernel
theorem zd_Mo_init_158 : decode zc_Mo_init 158 = .ok (.bipush 9, 2) := by decide +kernel
theorem zd_Mo_init_160 : decode zc_Mo_init 160 = .ok (.newarray .int, 2) := by decide +kernel
theorem zd_Mo_init_162 : decode zc_Mo_init 162 = .ok (.putfield 71, 3) := by decide +kernel
theorem zd_Mo_init_165 : decode zc_Mo_init 165 = .ok (.aload_n 0, 1) := by decide +kernel
theorem zd_Mo_init_166 : decode zc_Mo_init 166 = .ok (.bipush 9, 2) := by decide +kernel
theorem zd_Mo_init_168 : decode zc_Mo_init 168 = .ok (.newarray .int, 2) := by decide +kernel
theorem zd_Mo_init_170 : decode zc_Mo_init 170 = .ok (.putfield 74, 3) := by decide +kernel
theorem zd_Mo_init_173 : decode zc_Mo_init 173 = .ok (.aload_n 0, 1) := by decide +kernel
theorem zd_Mo_init_174 : decode zc_Mo_init 174 = .ok (.bipush 9, 2) := by decide +kernel
theorem zd_Mo_init_176 : decode zc_Mo_init 176 = .ok (.newarray .int, 2) := by decide +kernel
theorem zd_Mo_init_178 : decode zc_Mo_init 178 = .ok (.putfield 77, 3) := by decide +kernel
theorem zd_Mo_init_181 : decode zc_Mo_init 181 = .ok (.aload_n 0, 1) := by decide +kernel
theorem zd_Mo_init_182 : decode zc_Mo_init 182 = .ok (.bipush 40, 2) := by decide +kernel
theorem zd_Mo_init_184 : decode zc_Mo_init 184 = .ok (.newarray .int, 2) := by decide +kernel
theorem zd_Mo_init_186 : decode zc_Mo_init 186 = .ok (.putfield 80, 3) := by decide +kernel
theorem zd_Mo_init_189 : decode zc_Mo_init 189 = .ok (.aload_n 0, 1) := by decide +kernel
theorem zd_Mo_init_190 : decode zc_Mo_init 190 = .ok (.iconst 5, 1) := by decide +kernel
theorem zd_Mo_init_191 : decode zc_Mo_init 191 = .ok (.newarray .int, 2) := by decide +kernel
theorem zd_Mo_init_193 : decode zc_Mo_init 193 = .ok (.putfield 83, 3) := by decide +kernel
theorem zd_Mo_init_196 : decode zc_Mo_init 196 = .ok (.aload_n 0, 1) := by decide +kernel
theorem zd_Mo_init_197 : decode zc_Mo_init 197 = .ok (.bipush 45, 2) := by decide +kernel
theorem zd_Mo_init_199 : decode zc_Mo_init 199 = .ok (.newarray .int, 2) := by decide +kernel
theorem zd_Mo_init_201 : decode zc_Mo_init 201 = .ok (.putfield 86, 3) := by decide +kernel
theorem zd_Mo_init_204 : decode zc_Mo_init 204 = .ok (.aload_n 0, 1) := by decide +kernel
theorem zd_Mo_init_205 : decode zc_Mo_init 205 = .ok (.bipush 45, 2) := by decide +kernel
theorem zd_Mo_init_207 : decode zc_Mo_init 207 = .ok (.newarray .int, 2) := by decide +kernel
theorem zd_Mo_init_209 : decode zc_Mo_init 209 = .ok (.putfield 89, 3) := by decide +kernel
theorem zd_Mo_init_212 : decode zc_Mo_init 212 = .ok (.aload_n 0, 1) := by decide +kernel
theorem zd_Mo_init_213 : decode zc_Mo_init 213 = .ok (.bipush 45, 2) := by decide +kernel
theorem zd_Mo_init_215 : decode zc_Mo_init 215 = .ok (.newarray .int, 2) := by decide +kernel
theorem zd_Mo_init_217 : decode zc_Mo_init 217 = .ok (.putfield 92, 3) := by decide +kernel
theorem zd_Mo_init_220 : decode zc_Mo_init 220 = .ok (.aload_n 0, 1) := by decide +kernel
theorem zd_Mo_init_221 : decode zc_Mo_init 221 = .ok (.bipush 45, 2) := by decide +kernel
theorem zd_Mo_init_223 : decode zc_Mo_init 223 = .ok (.newarray .int, 2) := by decide +kernel
theorem zd_Mo_init_225 : decode zc_Mo_init 225 = .ok (.putfield 95, 3) := by decide +kernel
theorem zd_Mo_init_228 : decode zc_Mo_init 228 = .ok (.aload_n 0, 1) := by decide +kernel
theorem zd_Mo_init_229 : decode zc_Mo_init 229 = .ok (.iload_n 1, 1) := by decide +kernel
theorem zd_Mo_init_230 : decode zc_Mo_init 230 = .ok (.bipush 31, 2) := by decide +kernel
theorem zd_Mo_init_232 : decode zc_Mo_init 232 = .ok (.iand, 1) := by decide +kernel
theorem zd_Mo_init_233 : decode zc_Mo_init 233 = .ok (.putfield 98, 3) := by decide +kernel
theorem zd_Mo_init_236 : decode zc_Mo_init 236 = .ok (.iconst 0, 1) := by decide +kernel
theorem zd_Mo_init_237 : decode zc_Mo_init 237 = .ok (.istore_n 2, 1) := by decide +kernel
theorem zd_Mo_init_238 : decode zc_Mo_init 238 = .ok (.iload_n 2, 1) := by decide +kernel
theorem zd_Mo_init_239 : decode zc_Mo_init 239 = .ok (.iconst 5, 1) := by decide +kernel
theorem zd_Mo_init_240 : decode zc_Mo_init 240 = .ok (.if_icmp .ge 69, 3) := by decide +kernel
theorem zd_Mo_init_243 : decode zc_Mo_init 243 = .ok (.aload_n 0, 1) := by decide +kernel
theorem zd_Mo_init_244 : decode zc_Mo_init 244 = .ok (.getfield 7, 3) := by decide +kernel
theorem zd_Mo_init_247 : decode zc_Mo_init 247 = .ok (.iload_n 2, 1) := by decide +kernel
theorem zd_Mo_init_248 : decode zc_Mo_init 248 = .ok (.iconst 4, 1) := by decide +kernel
theorem zd_Mo_init_249 : decode zc_Mo_init 249 = .ok (.iastore, 1) := by decide +kernel
theorem zd_Mo_init_250 : decode zc_Mo_init 250 = .ok (.aload_n 0, 1) := by decide +kernel
theorem zd_Mo_init_251 : decode zc_Mo_init 251 = .ok (.getfield 13, 3) := by decide +kernel
theorem zd_Mo_init_254 : decode zc_Mo_init 254 = .ok (.iload_n 2, 1) := by decide +kernel
theorem zd_Mo_init_255 : decode zc_Mo_init 255 = .ok (.bipush 31, 2) := by decide +kernel
theorem zd_Mo_init_257 : decode zc_Mo_init 257 = .ok (.iastore, 1) := by decide +kernel
theorem zd_Mo_init_258 : decode zc_Mo_init 258 = .ok (.iconst 0, 1) := by decide +kernel
theorem zd_Mo_init_259 : decode zc_Mo_init 259 = .ok (.istore_n 3, 1) := by decide +kernel
theorem zd_Mo_init_260 : decode zc_Mo_init 260 = .ok (.iload_n 3, 1) := by decide +kernel
theorem zd_Mo_init_261 : decode zc_Mo_init 261 = .ok (.iconst 4, 1) := by decide +kernel
theorem zd_Mo_init_262 : decode zc_Mo_init 262 = .ok (.if_icmp .ge 41, 3) := by decide +kernel
theorem zd_Mo_init_265 : decode zc_Mo_init 265 = .ok (.aload_n 0, 1) := by decide +kernel
theorem zd_Mo_init_266 : decode zc_Mo_init 266 = .ok (.getfield 80, 3) := by decide +kernel
theorem zd_Mo_init_269 : decode zc_Mo_init 269 = .ok (.bipush 8, 2) := by decide +kernel
theorem zd_Mo_init_271 : decode zc_Mo_init 271 = .ok (.iload_n 2, 1) := by decide +kernel
theorem zd_Mo_init_272 : decode zc_Mo_init 272 = .ok (.imul, 1) := by decide +kernel
theorem zd_Mo_init_273 : decode zc_Mo_init 273 = .ok (.iconst 2, 1) := by decide +kernel
theorem zd_Mo_init_274 : decode zc_Mo_init 274 = .ok (.iload_n 3, 1) := by decide +kernel
theorem zd_Mo_init_275 : decode zc_Mo_init 275 = .ok (.imul, 1) := by decide +kernel
theorem zd_Mo_init_276 : decode zc_Mo_init 276 = .ok (.iadd, 1) := by decide +kernel
theorem zd_Mo_init_277 : decode zc_Mo_init 277 = .ok (.bipush 100, 2) := by decide +kernel
theorem zd_Mo_init_279 : decode zc_Mo_init 279 = .ok (.iastore, 1) := by decide +kernel
theorem zd_Mo_init_280 : decode zc_Mo_init 280 = .ok (.aload_n 0, 1) := by decide +kernel
theorem zd_Mo_init_281 : decode zc_Mo_init 281 = .ok (.getfield 80, 3) := by decide +kernel
theorem zd_Mo_init_284 : decode zc_Mo_init 284 = .ok (.bipush 8, 2) := by decide +kernel
theorem zd_Mo_init_286 : decode zc_Mo_init 286 = .ok (.iload_n 2, 1) := by decide +kernel
theorem zd_Mo_init_287 : decode zc_Mo_init 287 = .ok (.imul, 1) := by decide +kernel
theorem zd_Mo_init_288 : decode zc_Mo_init 288 = .ok (.iconst 2, 1) := by decide +kernel
theorem zd_Mo_init_289 : decode zc_Mo_init 289 = .ok (.iload_n 3, 1) := by decide +kernel
theorem zd_Mo_init_290 : decode zc_Mo_init 290 = .ok (.imul, 1) := by decide +kernel
theorem zd_Mo_init_291 : decode zc_Mo_init 291 = .ok (.iadd, 1) := by decide +kernel
theorem zd_Mo_init_292 : decode zc_Mo_init 292 = .ok (.iconst 1, 1) := by decide +kernel
theorem zd_Mo_init_293 : decode zc_Mo_init 293 = .ok (.iadd, 1) := by decide +kernel
theorem zd_Mo_init_294 : decode zc_Mo_init 294 = .ok (.bipush 20, 2) := by decide +kernel
theorem zd_Mo_init_296 : decode zc_Mo_init 296 = .ok (.iastore, 1) := by decide +kernel
theorem zd_Mo_init_297 : decode zc_Mo_init 297 = .ok (.iinc 3 1, 3) := by decide +kernel
theorem zd_Mo_init_300 : decode zc_Mo_init 300 = .ok (.goto (-40), 3) := by decide +kernel
theorem zd_Mo_init_303 : decode zc_Mo_init 303 = .ok (.iinc 2 1, 3) := by decide +kernel
theorem zd_Mo_init_306 : decode zc_Mo_init 306 = .ok (.goto (-68), 3) := by decide +kernel
theorem zd_Mo_init_309 : decode zc_Mo_init 309 = .ok (.aload_n 0, 1) := by decide +kernel
theorem zd_Mo_init_310 : decode zc_Mo_init 310 = .ok (.invokevirtual 102, 3) := by decide +kernel
theorem zd_Mo_init_313 : decode zc_Mo_init 313 = .ok (.return_, 1) := by decide +kernel
theorem zd_Mo_in_0 : decode zc_Mo_in 0 = .ok (.iload_n 0, 1) := by decide +kernel
theorem zd_Mo_in_1 : decode zc_Mo_in 1 = .ok (.iload_n 1, 1) := by decide +kernel
theorem zd_Mo_in_2 : decode zc_Mo_in 2 = .ok (.if_icmp .lt 12, 3) := by decide +kernel
theorem zd_Mo_in_5 : decode zc_Mo_in 5 = .ok (.iload_n 0, 1) := by decide +kernel
theorem zd_Mo_in_6 : decode zc_Mo_in 6 = .ok (.iload_n 2, 1) := by decide +kernel
theorem zd_Mo_in_7 : decode zc_Mo_in 7 = .ok (.if_icmp .gt 7, 3) := by decide +kernel
theorem zd_Mo_in_10 : decode zc_Mo_in 10 = .ok (.iconst 1, 1) := by decide +kernel
theorem zd_Mo_in_11 : decode zc_Mo_in 11 = .ok (.goto 4, 3) := by decide +kernel
theorem zd_Mo_in_14 : decode zc_Mo_in 14 = .ok (.iconst 0, 1) := by decide +kernel
theorem zd_Mo_in_15 : decode zc_Mo_in 15 = .ok (.ireturn, 1) := by decide +kernel
theorem zd_Mo_good_0 : decode zc_Mo_good 0 = .ok (.iload_n 1, 1) := by decide +kernel
theorem zd_Mo_good_1 : decode zc_Mo_good 1 = .ok (.iconst 0, 1) := by decide +kernel
theorem zd_Mo_good_2 : decode zc_Mo_good 2 = .ok (.iconst 4, 1) := by decide +kernel
theorem zd_Mo_good_3 : decode zc_Mo_good 3 = .ok (.invokestatic 105, 3) := by decide +kernel
theorem zd_Mo_good_6 : decode zc_Mo_good 6 = .ok (.ifCond .eq 18, 3) := by decide +kernel
theorem zd_Mo_good_9 : decode zc_Mo_good 9 = .ok (.aload_n 0, 1) := by decide +kernel
theorem zd_Mo_good_10 : decode zc_Mo_good 10 = .ok (.getfield 98, 3) := by decide +kernel
theorem zd_Mo_good_13 : decode zc_Mo_good 13 = .ok (.iload_n 1, 1) := by decide +kernel
theorem zd_Mo_good_14 : decode zc_Mo_good 14 = .ok (.ishr, 1) := by decide +kernel
theorem zd_Mo_good_15 : decode zc_Mo_good 15 = .ok (.iconst 1, 1) := by decide +kernel
theorem zd_Mo_good_16 : decode zc_Mo_good 16 = .ok (.iand, 1) := by decide +kernel
theorem zd_Mo_good_17 : decode zc_Mo_good 17 = .ok (.ifCond .ne 7, 3) := by decide +kernel
theorem zd_Mo_good_20 : decode zc_Mo_good 20 = .ok (.iconst 1, 1) := by decide +kernel
theorem zd_Mo_good_21 : decode zc_Mo_good 21 = .ok (.goto 4, 3) := by decide +kernel
theorem zd_Mo_good_24 : decode zc_Mo_good 24 = .ok (.iconst 0, 1) := by decide +kernel
theorem zd_Mo_good_25 : decode zc_Mo_good 25 = .ok (.ireturn, 1) := by decide +kernel
theorem zd_Mo_gives_0 : decode zc_Mo_gives 0 = .ok (.iconst 0, 1) := by decide +kernel
theorem zd_Mo_gives_1 : decode zc_Mo_gives 1 = .ok (.istore_n 3, 1) := by decide +kernel
theorem zd_Mo_gives_2 : decode zc_Mo_gives 2 = .ok (.iload_n 3, 1) := by decide +kernel
theorem zd_Mo_gives_3 : decode zc_Mo_gives 3 = .ok (.bipush 32, 2) := by decide +kernel
theorem zd_Mo_gives_5 : decode zc_Mo_gives 5 = .ok (.if_icmp .ge 37, 3) := by decide +kernel
theorem zd_Mo_gives_8 : decode zc_Mo_gives 8 = .ok (.iload_n 3, 1) := by decide +kernel
theorem zd_Mo_gives_9 : decode zc_Mo_gives 9 = .ok (.iload_n 1, 1) := by decide +kernel
theorem zd_Mo_gives_10 : decode zc_Mo_gives 10 = .ok (.iconst (-1), 1) := by decide +kernel
theorem zd_Mo_gives_11 : decode zc_Mo_gives 11 = .ok (.ixor, 1) := by decide +kernel
theorem zd_Mo_gives_12 : decode zc_Mo_gives 12 = .ok (.iand, 1) := by decide +kernel
theorem zd_Mo_gives_13 : decode zc_Mo_gives 13 = .ok (.ifCond .ne 23, 3) := by decide +kernel
theorem zd_Mo_gives_16 : decode zc_Mo_gives 16 = .ok (.iload_n 3, 1) := by decide +kernel
theorem zd_Mo_gives_17 : decode zc_Mo_gives 17 = .ok (.iload_n 2, 1) := by decide +kernel
theorem zd_Mo_gives_18 : decode zc_Mo_gives 18 = .ok (.ishr, 1) := by decide +kernel
theorem zd_Mo_gives_19 : decode zc_Mo_gives 19 = .ok (.iconst 1, 1) := by decide +kernel
theorem zd_Mo_gives_20 : decode zc_Mo_gives 20 = .ok (.iand, 1) := by decide +kernel
theorem zd_Mo_gives_21 : decode zc_Mo_gives 21 = .ok (.iconst 1, 1) := by decide +kernel
theorem zd_Mo_gives_22 : decode zc_Mo_gives 22 = .ok (.if_icmp .ne 14, 3) := by decide +kernel
theorem zd_Mo_gives_25 : decode zc_Mo_gives 25 = .ok (.aload_n 0, 1) := by decide +kernel
theorem zd_Mo_gives_26 : decode zc_Mo_gives 26 = .ok (.getfield 22, 3) := by decide +kernel
theorem zd_Mo_gives_29 : decode zc_Mo_gives 29 = .ok (.iload_n 3, 1) := by decide +kernel
theorem zd_Mo_gives_30 : decode zc_Mo_gives 30 = .ok (.baload, 1) := by decide +kernel
theorem zd_Mo_gives_31 : decode zc_Mo_gives 31 = .ok (.ifCond .eq 5, 3) := by decide +kernel
theorem zd_Mo_gives_34 : decode zc_Mo_gives 34 = .ok (.iconst 1, 1) := by decide +kernel
theorem zd_Mo_gives_35 : decode zc_Mo_gives 35 = .ok (.ireturn, 1) := by decide +kernel
theorem zd_Mo_gives_36 : decode zc_Mo_gives 36 = .ok (.iinc 3 1, 3) := by decide +kernel
theorem zd_Mo_gives_39 : decode zc_Mo_gives 39 = .ok (.goto (-37), 3) := by decide +kernel
theorem zd_Mo_gives_42 : decode zc_Mo_gives 42 = .ok (.iconst 0, 1) := by decide +kernel
theorem zd_Mo_gives_43 : decode zc_Mo_gives 43 = .ok (.ireturn, 1) := by decide +kernel
theorem zd_Mo_trust_0 : decode zc_Mo_trust 0 = .ok (.iload_n 1, 1) := by decide +kernel
theorem zd_Mo_trust_1 : decode zc_Mo_trust 1 = .ok (.iconst 0, 1) := by decide +kernel
theorem zd_Mo_trust_2 : decode zc_Mo_trust 2 = .ok (.iconst 4, 1) := by decide +kernel
theorem zd_Mo_trust_3 : decode zc_Mo_trust 3 = .ok (.invokestatic 105, 3) := by decide +kernel
theorem zd_Mo_trust_6 : decode zc_Mo_trust 6 = .ok (.ifCond .eq 51, 3) := by decide +kernel
theorem zd_Mo_trust_9 : decode zc_Mo_trust 9 = .ok (.iload_n 2, 1) := by decide +kernel
theorem zd_Mo_trust_10 : decode zc_Mo_trust 10 = .ok (.iconst 1, 1) := by decide +kernel
theorem zd_Mo_trust_11 : decode zc_Mo_trust 11 = .ok (.bipush 6, 2) := by decide +kernel
theorem zd_Mo_trust_13 : decode zc_Mo_trust 13 = .ok (.invokestatic 105, 3) := by decide +kernel
theorem zd_Mo_trust_16 : decode zc_Mo_trust 16 = .ok (.ifCond .eq 41, 3) := by decide +kernel
theorem zd_Mo_trust_19 : decode zc_Mo_trust 19 = .ok (.iload_n 3, 1) := by decide +kernel
theorem zd_Mo_trust_20 : decode zc_Mo_trust 20 = .ok (.iconst 0, 1) := by decide +kernel
theorem zd_Mo_trust_21 : decode zc_Mo_trust 21 = .ok (.bipush 31, 2) := by decide +kernel
theorem zd_Mo_trust_23 : decode zc_Mo_trust 23 = .ok (.invokestatic 105, 3) := by decide +kernel
theorem zd_Mo_trust_26 : decode zc_Mo_trust 26 = .ok (.ifCond .eq 31, 3) := by decide +kernel
theorem zd_Mo_trust_29 : decode zc_Mo_trust 29 = .ok (.iload 5, 2) := by decide +kernel
theorem zd_Mo_trust_31 : decode zc_Mo_trust 31 = .ok (.iconst 0, 1) := by decide +kernel
theorem zd_Mo_trust_32 : decode zc_Mo_trust 32 = .ok (.bipush 31, 2) := by decide +kernel
theorem zd_Mo_trust_34 : decode zc_Mo_trust 34 = .ok (.invokestatic 105, 3) := by decide +kernel
theorem zd_Mo_trust_37 : decode zc_Mo_trust 37 = .ok (.ifCond .eq 20, 3) := by decide +kernel
theorem zd_Mo_trust_40 : decode zc_Mo_trust 40 = .ok (.iload 4, 2) := by decide +kernel
theorem zd_Mo_trust_42 : decode zc_Mo_trust 42 = .ok (.iconst 0, 1) := by decide +kernel
theorem zd_Mo_trust_43 : decode zc_Mo_trust 43 = .ok (.iconst 5, 1) := by decide +kernel
theorem zd_Mo_trust_44 : decode zc_Mo_trust 44 = .ok (.invokestatic 105, 3) := by decide +kernel
theorem zd_Mo_trust_47 : decode zc_Mo_trust 47 = .ok (.ifCond .eq 10, 3) := by decide +kernel
theorem zd_Mo_trust_50 : decode zc_Mo_trust 50 = .ok (.aload_n 0, 1) := by decide +kernel
theorem zd_Mo_trust_51 : decode zc_Mo_trust 51 = .ok (.getfield 117, 3) := by decide +kernel
theorem zd_Mo_trust_54 : decode zc_Mo_trust 54 = .ok (.ifCond .eq 5, 3) := by decide +kernel
theorem zd_Mo_trust_57 : decode zc_Mo_trust 57 = .ok (.iconst 0, 1) := by decide +kernel
theorem zd_Mo_trust_58 : decode zc_Mo_trust 58 = .ok (.ireturn, 1) := by decide +kernel
theorem zd_Mo_trust_59 : decode zc_Mo_trust 59 = .ok (.aload_n 0, 1) := by decide +kernel
theorem zd_Mo_trust_60 : decode zc_Mo_trust 60 = .ok (.getfield 7, 3) := by decide +kernel
theorem zd_Mo_trust_63 : decode zc_Mo_trust 63 = .ok (.iload_n 1, 1) := by decide +kernel
theorem zd_Mo_trust_64 : decode zc_Mo_trust 64 = .ok (.iload_n 2, 1) := by decide +kernel
theorem zd_Mo_trust_65 : decode zc_Mo_trust 65 = .ok (.iastore, 1) := by decide +kernel
theorem zd_Mo_trust_66 : decode zc_Mo_trust 66 = .ok (.aload_n 0, 1) := by decide +kernel
theorem zd_Mo_trust_67 : decode zc_Mo_trust 67 = .ok (.getfield 13, 3) := by decide +kernel
theorem zd_Mo_trust_70 : decode zc_Mo_trust 70 = .ok (.iload_n 1, 1) := by decide +kernel
theorem zd_Mo_trust_71 : decode zc_Mo_trust 71 = .ok (.iload_n 3, 1) := by decide +kernel
theorem zd_Mo_trust_72 : decode zc_Mo_trust 72 = .ok (.iastore, 1) := by decide +kernel
theorem zd_Mo_trust_73 : decode zc_Mo_trust 73 = .ok (.aload_n 0, 1) := by decide +kernel
theorem zd_Mo_trust_74 : decode zc_Mo_trust 74 = .ok (.getfield 16, 3) := by decide +kernel
theorem zd_Mo_trust_77 : decode zc_Mo_trust 77 = .ok (.iload_n 1, 1) := by decide +kernel
theorem zd_Mo_trust_78 : decode zc_Mo_trust 78 = .ok (.iload 4, 2) := by decide +kernel
theorem zd_Mo_trust_80 : decode zc_Mo_trust 80 = .ok (.iastore, 1) := by decide +kernel
theorem zd_Mo_trust_81 : decode zc_Mo_trust 81 = .ok (.aload_n 0, 1) := by decide +kernel
theorem zd_Mo_trust_82 : decode zc_Mo_trust 82 = .ok (.getfield 19, 3) := by decide +kernel
theorem zd_Mo_trust_85 : decode zc_Mo_trust 85 = .ok (.iload_n 1, 1) := by decide +kernel
theorem zd_Mo_trust_86 : decode zc_Mo_trust 86 = .ok (.iload 5, 2) := by decide +kernel
theorem zd_Mo_trust_88 : decode zc_Mo_trust 88 = .ok (.iastore, 1) := by decide +kernel
theorem zd_Mo_trust_89 : decode zc_Mo_trust 89 = .ok (.aload_n 0, 1) := by decide +kernel
theorem zd_Mo_trust_90 : decode zc_Mo_trust 90 = .ok (.invokevirtual 102, 3) := by decide +kernel
theorem zd_Mo_trust_93 : decode zc_Mo_trust 93 = .ok (.iconst 1, 1) := by decide +kernel
theorem zd_Mo_trust_94 : decode zc_Mo_trust 94 = .ok (.ireturn, 1) := by decide +kernel
theorem zd_Mo_place_0 : decode zc_Mo_place 0 = .ok (.bipush 27, 2) := by decide +kernel
theorem zd_Mo_place_2 : decode zc_Mo_place 2 = .ok (.iload_n 1, 1) := by decide +kernel
theorem zd_Mo_place_3 : decode zc_Mo_place 3 = .ok (.imul, 1) := by decide +kernel
theorem zd_Mo_place_4 : decode zc_Mo_place 4 = .ok (.bipush 9, 2) := by decide +kernel
theorem zd_Mo_place_6 : decode zc_Mo_place 6 = .ok (.aload_n 0, 1) := by decide +kernel
theorem zd_Mo_place_7 : decode zc_Mo_place 7 = .ok (.getfield 26, 3) := by decide +kernel
theorem zd_Mo_place_10 : decode zc_Mo_place 10 = .ok (.iload_n 1, 1) := by decide +kernel
theorem zd_Mo_place_11 : decode zc_Mo_place 11 = .ok (.iaload, 1) := by decide +kernel
theorem zd_Mo_place_12 : decode zc_Mo_place 12 = .ok (.imul, 1) := by decide +kernel
theorem zd_Mo_place_13 : decode zc_Mo_place 13 = .ok (.iadd, 1) := by decide +kernel
theorem zd_Mo_place_14 : decode zc_Mo_place 14 = .ok (.iconst 3, 1) := by decide +kernel
theorem zd_Mo_place_15 : decode zc_Mo_place 15 = .ok (.iload_n 2, 1) := by decide +kernel
theorem zd_Mo_place_16 : decode zc_Mo_place 16 = .ok (.imul, 1) := by decide +kernel
theorem zd_Mo_place_17 : decode zc_Mo_place 17 = .ok (.iadd, 1) := by decide +kernel
theorem zd_Mo_place_18 : decode zc_Mo_place 18 = .ok (.iload_n 3, 1) := by decide +kernel
theorem zd_Mo_place_19 : decode zc_Mo_place 19 = .ok (.iadd, 1) := by decide +kernel
theorem zd_Mo_place_20 : decode zc_Mo_place 20 = .ok (.ireturn, 1) := by decide +kernel
theorem zd_Mo_has_0 : decode zc_Mo_has 0 = .ok (.aload_n 0, 1) := by decide +kernel
theorem zd_Mo_has_1 : decode zc_Mo_has 1 = .ok (.getfield 41, 3) := by decide +kernel
theorem zd_Mo_has_4 : decode zc_Mo_has 4 = .ok (.aload_n 0, 1) := by decide +kernel
theorem zd_Mo_has_5 : decode zc_Mo_has 5 = .ok (.iload_n 1, 1) := by decide +kernel
theorem zd_Mo_has_6 : decode zc_Mo_has 6 = .ok (.iload_n 2, 1) := by decide +kernel
theorem zd_Mo_has_7 : decode zc_Mo_has 7 = .ok (.iload_n 3, 1) := by decide +kernel
theorem zd_Mo_has_8 : decode zc_Mo_has 8 = .ok (.invokevirtual 121, 3) := by decide +kernel
theorem zd_Mo_has_11 : decode zc_Mo_has 11 = .ok (.iaload, 1) := by decide +kernel
theorem zd_Mo_has_12 : decode zc_Mo_has 12 = .ok (.iload 4, 2) := by decide +kernel
theorem zd_Mo_has_14 : decode zc_Mo_has 14 = .ok (.ishr, 1) := by decide +kernel
theorem zd_Mo_has_15 : decode zc_Mo_has 15 = .ok (.iconst 1, 1) := by decide +kernel
theorem zd_Mo_has_16 : decode zc_Mo_has 16 = .ok (.iand, 1) := by decide +kernel
theorem zd_Mo_has_17 : decode zc_Mo_has 17 = .ok (.iconst 1, 1) := by decide +kernel
theorem zd_Mo_has_18 : decode zc_Mo_has 18 = .ok (.if_icmp .ne 7, 3) := by decide +kernel
theorem zd_Mo_has_21 : decode zc_Mo_has 21 = .ok (.iconst 1, 1) := by decide +kernel
theorem zd_Mo_has_22 : decode zc_Mo_has 22 = .ok (.goto 4, 3) := by decide +kernel
theorem zd_Mo_has_25 : decode zc_Mo_has 25 = .ok (.iconst 0, 1) := by decide +kernel
theorem zd_Mo_has_26 : decode zc_Mo_has 26 = .ok (.ireturn, 1) := by decide +kernel
theorem zd_Mo_put_0 : decode zc_Mo_put 0 = .ok (.aload_n 0, 1) := by decide +kernel
theorem zd_Mo_put_1 : decode zc_Mo_put 1 = .ok (.iload_n 1, 1) := by decide +kernel
theorem zd_Mo_put_2 : decode zc_Mo_put 2 = .ok (.iload_n 2, 1) := by decide +kernel
theorem zd_Mo_put_3 : decode zc_Mo_put 3 = .ok (.iload_n 3, 1) := by decide +kernel
theorem zd_Mo_put_4 : decode zc_Mo_put 4 = .ok (.invokevirtual 121, 3) := by decide +kernel
theorem zd_Mo_put_7 : decode zc_Mo_put 7 = .ok (.istore 5, 2) := by decide +kernel
theorem zd_Mo_put_9 : decode zc_Mo_put 9 = .ok (.aload_n 0, 1) := by decide +kernel
theorem zd_Mo_put_10 : decode zc_Mo_put 10 = .ok (.getfield 41, 3) := by decide +kernel
theorem zd_Mo_put_13 : decode zc_Mo_put 13 = .ok (.iload 5, 2) := by decide +kernel
theorem zd_Mo_put_15 : decode zc_Mo_put 15 = .ok (.iaload, 1) := by decide +kernel
theorem zd_Mo_put_16 : decode zc_Mo_put 16 = .ok (.istore 6, 2) := by decide +kernel
theorem zd_Mo_put_18 : decode zc_Mo_put 18 = .ok (.aload_n 0, 1) := by decide +kernel
theorem zd_Mo_put_19 : decode zc_Mo_put 19 = .ok (.getfield 41, 3) := by decide +kernel
theorem zd_Mo_put_22 : decode zc_Mo_put 22 = .ok (.iload 5, 2) := by decide +kernel
theorem zd_Mo_put_24 : decode zc_Mo_put 24 = .ok (.iload 6, 2) := by decide +kernel
theorem zd_Mo_put_26 : decode zc_Mo_put 26 = .ok (.iconst 1, 1) := by decide +kernel
theorem zd_Mo_put_27 : decode zc_Mo_put 27 = .ok (.iload 4, 2) := by decide +kernel
theorem zd_Mo_put_29 : decode zc_Mo_put 29 = .ok (.ishl, 1) := by decide +kernel
theorem zd_Mo_put_30 : decode zc_Mo_put 30 = .ok (.ior, 1) := by decide +kernel
theorem zd_Mo_put_31 : decode zc_Mo_put 31 = .ok (.iastore, 1) := by decide +kernel

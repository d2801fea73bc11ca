theorem zd_Mo_stir_166 : decode zc_Mo_stir 166 = .ok (.iload 4, 2) := by decide +kernel
theorem zd_Mo_stir_168 : decode zc_Mo_stir 168 = .ok (.iconst 2, 1) := by decide +kernel
theorem zd_Mo_stir_169 : decode zc_Mo_stir 169 = .ok (.if_icmp .ge 17, 3) := by decide +kernel
theorem zd_Mo_stir_172 : decode zc_Mo_stir 172 = .ok (.iload 4, 2) := by decide +kernel
theorem zd_Mo_stir_174 : decode zc_Mo_stir 174 = .ok (.iconst 1, 1) := by decide +kernel
theorem zd_Mo_stir_175 : decode zc_Mo_stir 175 = .ok (.if_icmp .eq 7, 3) := by decide +kernel
theorem zd_Mo_stir_178 : decode zc_Mo_stir 178 = .ok (.iload_n 2, 1) := by decide +kernel
theorem zd_Mo_stir_179 : decode zc_Mo_stir 179 = .ok (.ifCond .eq 7, 3) := by decide +kernel
theorem zd_Mo_stir_182 : decode zc_Mo_stir 182 = .ok (.iconst 1, 1) := by decide +kernel
theorem zd_Mo_stir_183 : decode zc_Mo_stir 183 = .ok (.goto 4, 3) := by decide +kernel
theorem zd_Mo_stir_186 : decode zc_Mo_stir 186 = .ok (.iconst 0, 1) := by decide +kernel
theorem zd_Mo_stir_187 : decode zc_Mo_stir 187 = .ok (.istore_n 2, 1) := by decide +kernel
theorem zd_Mo_stir_188 : decode zc_Mo_stir 188 = .ok (.iinc 3 1, 3) := by decide +kernel
theorem zd_Mo_stir_191 : decode zc_Mo_stir 191 = .ok (.goto (-173), 3) := by decide +kernel
theorem zd_Mo_stir_194 : decode zc_Mo_stir 194 = .ok (.return_, 1) := by decide +kernel
theorem zd_Mo_newRound_0 : decode zc_Mo_newRound 0 = .ok (.aload_n 0, 1) := by decide +kernel
theorem zd_Mo_newRound_1 : decode zc_Mo_newRound 1 = .ok (.getfield 29, 3) := by decide +kernel
theorem zd_Mo_newRound_4 : decode zc_Mo_newRound 4 = .ok (.iload_n 1, 1) := by decide +kernel
theorem zd_Mo_newRound_5 : decode zc_Mo_newRound 5 = .ok (.dup2, 1) := by decide +kernel
theorem zd_Mo_newRound_6 : decode zc_Mo_newRound 6 = .ok (.iaload, 1) := by decide +kernel
theorem zd_Mo_newRound_7 : decode zc_Mo_newRound 7 = .ok (.iconst 1, 1) := by decide +kernel
theorem zd_Mo_newRound_8 : decode zc_Mo_newRound 8 = .ok (.iadd, 1) := by decide +kernel
theorem zd_Mo_newRound_9 : decode zc_Mo_newRound 9 = .ok (.iastore, 1) := by decide +kernel
theorem zd_Mo_newRound_10 : decode zc_Mo_newRound 10 = .ok (.aload_n 0, 1) := by decide +kernel
theorem zd_Mo_newRound_11 : decode zc_Mo_newRound 11 = .ok (.getfield 13, 3) := by decide +kernel
theorem zd_Mo_newRound_14 : decode zc_Mo_newRound 14 = .ok (.iload_n 1, 1) := by decide +kernel
theorem zd_Mo_newRound_15 : decode zc_Mo_newRound 15 = .ok (.iaload, 1) := by decide +kernel
theorem zd_Mo_newRound_16 : decode zc_Mo_newRound 16 = .ok (.iconst 1, 1) := by decide +kernel
theorem zd_Mo_newRound_17 : decode zc_Mo_newRound 17 = .ok (.iload_n 1, 1) := by decide +kernel
theorem zd_Mo_newRound_18 : decode zc_Mo_newRound 18 = .ok (.ishl, 1) := by decide +kernel
theorem zd_Mo_newRound_19 : decode zc_Mo_newRound 19 = .ok (.ior, 1) := by decide +kernel
theorem zd_Mo_newRound_20 : decode zc_Mo_newRound 20 = .ok (.aload_n 0, 1) := by decide +kernel
theorem zd_Mo_newRound_21 : decode zc_Mo_newRound 21 = .ok (.getfield 16, 3) := by decide +kernel
theorem zd_Mo_newRound_24 : decode zc_Mo_newRound 24 = .ok (.iload_n 1, 1) := by decide +kernel
theorem zd_Mo_newRound_25 : decode zc_Mo_newRound 25 = .ok (.iaload, 1) := by decide +kernel
theorem zd_Mo_newRound_26 : decode zc_Mo_newRound 26 = .ok (.ifCond .le 12, 3) := by decide +kernel
theorem zd_Mo_newRound_29 : decode zc_Mo_newRound 29 = .ok (.aload_n 0, 1) := by decide +kernel
theorem zd_Mo_newRound_30 : decode zc_Mo_newRound 30 = .ok (.getfield 19, 3) := by decide +kernel
theorem zd_Mo_newRound_33 : decode zc_Mo_newRound 33 = .ok (.iload_n 1, 1) := by decide +kernel
theorem zd_Mo_newRound_34 : decode zc_Mo_newRound 34 = .ok (.iaload, 1) := by decide +kernel
theorem zd_Mo_newRound_35 : decode zc_Mo_newRound 35 = .ok (.goto 4, 3) := by decide +kernel
theorem zd_Mo_newRound_38 : decode zc_Mo_newRound 38 = .ok (.iconst 0, 1) := by decide +kernel
theorem zd_Mo_newRound_39 : decode zc_Mo_newRound 39 = .ok (.ior, 1) := by decide +kernel
theorem zd_Mo_newRound_40 : decode zc_Mo_newRound 40 = .ok (.istore_n 2, 1) := by decide +kernel
theorem zd_Mo_newRound_41 : decode zc_Mo_newRound 41 = .ok (.iconst (-1), 1) := by decide +kernel
theorem zd_Mo_newRound_42 : decode zc_Mo_newRound 42 = .ok (.istore_n 3, 1) := by decide +kernel
theorem zd_Mo_newRound_43 : decode zc_Mo_newRound 43 = .ok (.iconst (-1), 1) := by decide +kernel
theorem zd_Mo_newRound_44 : decode zc_Mo_newRound 44 = .ok (.istore 4, 2) := by decide +kernel
theorem zd_Mo_newRound_46 : decode zc_Mo_newRound 46 = .ok (.iconst 0, 1) := by decide +kernel
theorem zd_Mo_newRound_47 : decode zc_Mo_newRound 47 = .ok (.istore 5, 2) := by decide +kernel
theorem zd_Mo_newRound_49 : decode zc_Mo_newRound 49 = .ok (.iload 5, 2) := by decide +kernel
theorem zd_Mo_newRound_51 : decode zc_Mo_newRound 51 = .ok (.iconst 5, 1) := by decide +kernel
theorem zd_Mo_newRound_52 : decode zc_Mo_newRound 52 = .ok (.if_icmp .ge 66, 3) := by decide +kernel
theorem zd_Mo_newRound_55 : decode zc_Mo_newRound 55 = .ok (.bipush 37, 2) := by decide +kernel
theorem zd_Mo_newRound_57 : decode zc_Mo_newRound 57 = .ok (.iload 5, 2) := by decide +kernel
theorem zd_Mo_newRound_59 : decode zc_Mo_newRound 59 = .ok (.imul, 1) := by decide +kernel
theorem zd_Mo_newRound_60 : decode zc_Mo_newRound 60 = .ok (.bipush 61, 2) := by decide +kernel
theorem zd_Mo_newRound_62 : decode zc_Mo_newRound 62 = .ok (.aload_n 0, 1) := by decide +kernel
theorem zd_Mo_newRound_63 : decode zc_Mo_newRound 63 = .ok (.getfield 26, 3) := by decide +kernel
theorem zd_Mo_newRound_66 : decode zc_Mo_newRound 66 = .ok (.iload_n 1, 1) := by decide +kernel
theorem zd_Mo_newRound_67 : decode zc_Mo_newRound 67 = .ok (.iaload, 1) := by decide +kernel
theorem zd_Mo_newRound_68 : decode zc_Mo_newRound 68 = .ok (.imul, 1) := by decide +kernel
theorem zd_Mo_newRound_69 : decode zc_Mo_newRound 69 = .ok (.iadd, 1) := by decide +kernel
theorem zd_Mo_newRound_70 : decode zc_Mo_newRound 70 = .ok (.bipush 17, 2) := by decide +kernel
theorem zd_Mo_newRound_72 : decode zc_Mo_newRound 72 = .ok (.aload_n 0, 1) := by decide +kernel
theorem zd_Mo_newRound_73 : decode zc_Mo_newRound 73 = .ok (.getfield 29, 3) := by decide +kernel
theorem zd_Mo_newRound_76 : decode zc_Mo_newRound 76 = .ok (.iload_n 1, 1) := by decide +kernel
theorem zd_Mo_newRound_77 : decode zc_Mo_newRound 77 = .ok (.iaload, 1) := by decide +kernel
theorem zd_Mo_newRound_78 : decode zc_Mo_newRound 78 = .ok (.imul, 1) := by decide +kernel
theorem zd_Mo_newRound_79 : decode zc_Mo_newRound 79 = .ok (.iadd, 1) := by decide +kernel
theorem zd_Mo_newRound_80 : decode zc_Mo_newRound 80 = .ok (.bipush 29, 2) := by decide +kernel
theorem zd_Mo_newRound_82 : decode zc_Mo_newRound 82 = .ok (.imul, 1) := by decide +kernel
theorem zd_Mo_newRound_83 : decode zc_Mo_newRound 83 = .ok (.bipush 101, 2) := by decide +kernel
theorem zd_Mo_newRound_85 : decode zc_Mo_newRound 85 = .ok (.irem, 1) := by decide +kernel
theorem zd_Mo_newRound_86 : decode zc_Mo_newRound 86 = .ok (.istore 6, 2) := by decide +kernel
theorem zd_Mo_newRound_88 : decode zc_Mo_newRound 88 = .ok (.iload_n 2, 1) := by decide +kernel
theorem zd_Mo_newRound_89 : decode zc_Mo_newRound 89 = .ok (.iload 5, 2) := by decide +kernel
theorem zd_Mo_newRound_91 : decode zc_Mo_newRound 91 = .ok (.ishr, 1) := by decide +kernel
theorem zd_Mo_newRound_92 : decode zc_Mo_newRound 92 = .ok (.iconst 1, 1) := by decide +kernel
theorem zd_Mo_newRound_93 : decode zc_Mo_newRound 93 = .ok (.iand, 1) := by decide +kernel
theorem zd_Mo_newRound_94 : decode zc_Mo_newRound 94 = .ok (.iconst 1, 1) := by decide +kernel
theorem zd_Mo_newRound_95 : decode zc_Mo_newRound 95 = .ok (.if_icmp .ne 17, 3) := by decide +kernel
theorem zd_Mo_newRound_98 : decode zc_Mo_newRound 98 = .ok (.iload 6, 2) := by decide +kernel
theorem zd_Mo_newRound_100 : decode zc_Mo_newRound 100 = .ok (.iload 4, 2) := by decide +kernel
theorem zd_Mo_newRound_102 : decode zc_Mo_newRound 102 = .ok (.if_icmp .le 10, 3) := by decide +kernel
theorem zd_Mo_newRound_105 : decode zc_Mo_newRound 105 = .ok (.iload 5, 2) := by decide +kernel
theorem zd_Mo_newRound_107 : decode zc_Mo_newRound 107 = .ok (.istore_n 3, 1) := by decide +kernel
theorem zd_Mo_newRound_108 : decode zc_Mo_newRound 108 = .ok (.iload 6, 2) := by decide +kernel
theorem zd_Mo_newRound_110 : decode zc_Mo_newRound 110 = .ok (.istore 4, 2) := by decide +kernel
theorem zd_Mo_newRound_112 : decode zc_Mo_newRound 112 = .ok (.iinc 5 1, 3) := by decide +kernel
theorem zd_Mo_newRound_115 : decode zc_Mo_newRound 115 = .ok (.goto (-66), 3) := by decide +kernel
theorem zd_Mo_newRound_118 : decode zc_Mo_newRound 118 = .ok (.aload_n 0, 1) := by decide +kernel
theorem zd_Mo_newRound_119 : decode zc_Mo_newRound 119 = .ok (.getfield 32, 3) := by decide +kernel
theorem zd_Mo_newRound_122 : decode zc_Mo_newRound 122 = .ok (.iload_n 1, 1) := by decide +kernel
theorem zd_Mo_newRound_123 : decode zc_Mo_newRound 123 = .ok (.aload_n 0, 1) := by decide +kernel
theorem zd_Mo_newRound_124 : decode zc_Mo_newRound 124 = .ok (.getfield 32, 3) := by decide +kernel
theorem zd_Mo_newRound_127 : decode zc_Mo_newRound 127 = .ok (.iload_n 1, 1) := by decide +kernel
theorem zd_Mo_newRound_128 : decode zc_Mo_newRound 128 = .ok (.iaload, 1) := by decide +kernel
theorem zd_Mo_newRound_129 : decode zc_Mo_newRound 129 = .ok (.iconst 1, 1) := by decide +kernel
theorem zd_Mo_newRound_130 : decode zc_Mo_newRound 130 = .ok (.iload_n 3, 1) := by decide +kernel
theorem zd_Mo_newRound_131 : decode zc_Mo_newRound 131 = .ok (.ishl, 1) := by decide +kernel
theorem zd_Mo_newRound_132 : decode zc_Mo_newRound 132 = .ok (.ior, 1) := by decide +kernel
theorem zd_Mo_newRound_133 : decode zc_Mo_newRound 133 = .ok (.iastore, 1) := by decide +kernel
theorem zd_Mo_newRound_134 : decode zc_Mo_newRound 134 = .ok (.return_, 1) := by decide +kernel
theorem zd_Mo_propose_0 : decode zc_Mo_propose 0 = .ok (.aload_n 0, 1) := by decide +kernel
theorem zd_Mo_propose_1 : decode zc_Mo_propose 1 = .ok (.iload_n 1, 1) := by decide +kernel
theorem zd_Mo_propose_2 : decode zc_Mo_propose 2 = .ok (.invokevirtual 190, 3) := by decide +kernel
theorem zd_Mo_propose_5 : decode zc_Mo_propose 5 = .ok (.ifCond .eq 32, 3) := by decide +kernel
theorem zd_Mo_propose_8 : decode zc_Mo_propose 8 = .ok (.iload_n 2, 1) := by decide +kernel
theorem zd_Mo_propose_9 : decode zc_Mo_propose 9 = .ok (.iconst 1, 1) := by decide +kernel
theorem zd_Mo_propose_10 : decode zc_Mo_propose 10 = .ok (.bipush 7, 2) := by decide +kernel
theorem zd_Mo_propose_12 : decode zc_Mo_propose 12 = .ok (.invokestatic 105, 3) := by decide +kernel
theorem zd_Mo_propose_15 : decode zc_Mo_propose 15 = .ok (.ifCond .eq 22, 3) := by decide +kernel
theorem zd_Mo_propose_18 : decode zc_Mo_propose 18 = .ok (.aload_n 0, 1) := by decide +kernel
theorem zd_Mo_propose_19 : decode zc_Mo_propose 19 = .ok (.getfield 26, 3) := by decide +kernel
theorem zd_Mo_propose_22 : decode zc_Mo_propose 22 = .ok (.iload_n 1, 1) := by decide +kernel
theorem zd_Mo_propose_23 : decode zc_Mo_propose 23 = .ok (.iaload, 1) := by decide +kernel
theorem zd_Mo_propose_24 : decode zc_Mo_propose 24 = .ok (.iconst 3, 1) := by decide +kernel
theorem zd_Mo_propose_25 : decode zc_Mo_propose 25 = .ok (.if_icmp .eq 12, 3) := by decide +kernel
theorem zd_Mo_propose_28 : decode zc_Mo_propose 28 = .ok (.aload_n 0, 1) := by decide +kernel
theorem zd_Mo_propose_29 : decode zc_Mo_propose 29 = .ok (.getfield 38, 3) := by decide +kernel
theorem zd_Mo_propose_32 : decode zc_Mo_propose 32 = .ok (.iload_n 1, 1) := by decide +kernel
theorem zd_Mo_propose_33 : decode zc_Mo_propose 33 = .ok (.iaload, 1) := by decide +kernel
theorem zd_Mo_propose_34 : decode zc_Mo_propose 34 = .ok (.ifCond .le 5, 3) := by decide +kernel
theorem zd_Mo_propose_37 : decode zc_Mo_propose 37 = .ok (.iconst 0, 1) := by decide +kernel
theorem zd_Mo_propose_38 : decode zc_Mo_propose 38 = .ok (.ireturn, 1) := by decide +kernel
theorem zd_Mo_propose_39 : decode zc_Mo_propose 39 = .ok (.aload_n 0, 1) := by decide +kernel
theorem zd_Mo_propose_40 : decode zc_Mo_propose 40 = .ok (.iconst 1, 1) := by decide +kernel
theorem zd_Mo_propose_41 : decode zc_Mo_propose 41 = .ok (.putfield 117, 3) := by decide +kernel
theorem zd_Mo_propose_44 : decode zc_Mo_propose 44 = .ok (.aload_n 0, 1) := by decide +kernel
theorem zd_Mo_propose_45 : decode zc_Mo_propose 45 = .ok (.getfield 38, 3) := by decide +kernel
theorem zd_Mo_propose_48 : decode zc_Mo_propose 48 = .ok (.iload_n 1, 1) := by decide +kernel
theorem zd_Mo_propose_49 : decode zc_Mo_propose 49 = .ok (.iload_n 2, 1) := by decide +kernel
theorem zd_Mo_propose_50 : decode zc_Mo_propose 50 = .ok (.iastore, 1) := by decide +kernel
theorem zd_Mo_propose_51 : decode zc_Mo_propose 51 = .ok (.aload_n 0, 1) := by decide +kernel
theorem zd_Mo_propose_52 : decode zc_Mo_propose 52 = .ok (.getfield 29, 3) := by decide +kernel
theorem zd_Mo_propose_55 : decode zc_Mo_propose 55 = .ok (.iload_n 1, 1) := by decide +kernel
theorem zd_Mo_propose_56 : decode zc_Mo_propose 56 = .ok (.iaload, 1) := by decide +kernel
theorem zd_Mo_propose_57 : decode zc_Mo_propose 57 = .ok (.ifCond .ne 8, 3) := by decide +kernel
theorem zd_Mo_propose_60 : decode zc_Mo_propose 60 = .ok (.aload_n 0, 1) := by decide +kernel
theorem zd_Mo_propose_61 : decode zc_Mo_propose 61 = .ok (.iload_n 1, 1) := by decide +kernel
theorem zd_Mo_propose_62 : decode zc_Mo_propose 62 = .ok (.invokevirtual 193, 3) := by decide +kernel
theorem zd_Mo_propose_65 : decode zc_Mo_propose 65 = .ok (.aload_n 0, 1) := by decide +kernel
theorem zd_Mo_propose_66 : decode zc_Mo_propose 66 = .ok (.iload_n 1, 1) := by decide +kernel
theorem zd_Mo_propose_67 : decode zc_Mo_propose 67 = .ok (.invokevirtual 197, 3) := by decide +kernel
theorem zd_Mo_propose_70 : decode zc_Mo_propose 70 = .ok (.iconst 1, 1) := by decide +kernel
theorem zd_Mo_propose_71 : decode zc_Mo_propose 71 = .ok (.ireturn, 1) := by decide +kernel
theorem zd_Mo_timeout_0 : decode zc_Mo_timeout 0 = .ok (.aload_n 0, 1) := by decide +kernel
theorem zd_Mo_timeout_1 : decode zc_Mo_timeout 1 = .ok (.iload_n 1, 1) := by decide +kernel
theorem zd_Mo_timeout_2 : decode zc_Mo_timeout 2 = .ok (.invokevirtual 190, 3) := by decide +kernel
theorem zd_Mo_timeout_5 : decode zc_Mo_timeout 5 = .ok (.ifCond .eq 22, 3) := by decide +kernel
theorem zd_Mo_timeout_8 : decode zc_Mo_timeout 8 = .ok (.aload_n 0, 1) := by decide +kernel
theorem zd_Mo_timeout_9 : decode zc_Mo_timeout 9 = .ok (.getfield 26, 3) := by decide +kernel
theorem zd_Mo_timeout_12 : decode zc_Mo_timeout 12 = .ok (.iload_n 1, 1) := by decide +kernel
theorem zd_Mo_timeout_13 : decode zc_Mo_timeout 13 = .ok (.iaload, 1) := by decide +kernel
theorem zd_Mo_timeout_14 : decode zc_Mo_timeout 14 = .ok (.iconst 3, 1) := by decide +kernel
theorem zd_Mo_timeout_15 : decode zc_Mo_timeout 15 = .ok (.if_icmp .eq 12, 3) := by decide +kernel
theorem zd_Mo_timeout_18 : decode zc_Mo_timeout 18 = .ok (.aload_n 0, 1) := by decide +kernel
theorem zd_Mo_timeout_19 : decode zc_Mo_timeout 19 = .ok (.getfield 29, 3) := by decide +kernel
theorem zd_Mo_timeout_22 : decode zc_Mo_timeout 22 = .ok (.iload_n 1, 1) := by decide +kernel
theorem zd_Mo_timeout_23 : decode zc_Mo_timeout 23 = .ok (.iaload, 1) := by decide +kernel
theorem zd_Mo_timeout_24 : decode zc_Mo_timeout 24 = .ok (.ifCond .ne 5, 3) := by decide +kernel
theorem zd_Mo_timeout_27 : decode zc_Mo_timeout 27 = .ok (.iconst 0, 1) := by decide +kernel
theorem zd_Mo_timeout_28 : decode zc_Mo_timeout 28 = .ok (.ireturn, 1) := by decide +kernel
theorem zd_Mo_timeout_29 : decode zc_Mo_timeout 29 = .ok (.aload_n 0, 1) := by decide +kernel
theorem zd_Mo_timeout_30 : decode zc_Mo_timeout 30 = .ok (.iconst 1, 1) := by decide +kernel
theorem zd_Mo_timeout_31 : decode zc_Mo_timeout 31 = .ok (.putfield 117, 3) := by decide +kernel
theorem zd_Mo_timeout_34 : decode zc_Mo_timeout 34 = .ok (.aload_n 0, 1) := by decide +kernel
theorem zd_Mo_timeout_35 : decode zc_Mo_timeout 35 = .ok (.iload_n 1, 1) := by decide +kernel
theorem zd_Mo_timeout_36 : decode zc_Mo_timeout 36 = .ok (.invokevirtual 146, 3) := by decide +kernel
theorem zd_Mo_timeout_39 : decode zc_Mo_timeout 39 = .ok (.ifCond .ne 11, 3) := by decide +kernel
theorem zd_Mo_timeout_42 : decode zc_Mo_timeout 42 = .ok (.aload_n 0, 1) := by decide +kernel
theorem zd_Mo_timeout_43 : decode zc_Mo_timeout 43 = .ok (.iload_n 1, 1) := by decide +kernel
theorem zd_Mo_timeout_44 : decode zc_Mo_timeout 44 = .ok (.invokevirtual 193, 3) := by decide +kernel
theorem zd_Mo_timeout_47 : decode zc_Mo_timeout 47 = .ok (.goto 29, 3) := by decide +kernel
theorem zd_Mo_timeout_50 : decode zc_Mo_timeout 50 = .ok (.aload_n 0, 1) := by decide +kernel
theorem zd_Mo_timeout_51 : decode zc_Mo_timeout 51 = .ok (.getfield 35, 3) := by decide +kernel
theorem zd_Mo_timeout_54 : decode zc_Mo_timeout 54 = .ok (.iload_n 1, 1) := by decide +kernel
theorem zd_Mo_timeout_55 : decode zc_Mo_timeout 55 = .ok (.iaload, 1) := by decide +kernel
theorem zd_Mo_timeout_56 : decode zc_Mo_timeout 56 = .ok (.iconst 4, 1) := by decide +kernel
theorem zd_Mo_timeout_57 : decode zc_Mo_timeout 57 = .ok (.if_icmp .ge 19, 3) := by decide +kernel
theorem zd_Mo_timeout_60 : decode zc_Mo_timeout 60 = .ok (.aload_n 0, 1) := by decide +kernel
theorem zd_Mo_timeout_61 : decode zc_Mo_timeout 61 = .ok (.getfield 35, 3) := by decide +kernel
theorem zd_Mo_timeout_64 : decode zc_Mo_timeout 64 = .ok (.iload_n 1, 1) := by decide +kernel
theorem zd_Mo_timeout_65 : decode zc_Mo_timeout 65 = .ok (.dup2, 1) := by decide +kernel
theorem zd_Mo_timeout_66 : decode zc_Mo_timeout 66 = .ok (.iaload, 1) := by decide +kernel
theorem zd_Mo_timeout_67 : decode zc_Mo_timeout 67 = .ok (.iconst 1, 1) := by decide +kernel
theorem zd_Mo_timeout_68 : decode zc_Mo_timeout 68 = .ok (.iadd, 1) := by decide +kernel
theorem zd_Mo_timeout_69 : decode zc_Mo_timeout 69 = .ok (.iastore, 1) := by decide +kernel
theorem zd_Mo_timeout_70 : decode zc_Mo_timeout 70 = .ok (.aload_n 0, 1) := by decide +kernel
theorem zd_Mo_timeout_71 : decode zc_Mo_timeout 71 = .ok (.iload_n 1, 1) := by decide +kernel
theorem zd_Mo_timeout_72 : decode zc_Mo_timeout 72 = .ok (.invokevirtual 161, 3) := by decide +kernel
theorem zd_Mo_timeout_75 : decode zc_Mo_timeout 75 = .ok (.pop, 1) := by decide +kernel
theorem zd_Mo_timeout_76 : decode zc_Mo_timeout 76 = .ok (.aload_n 0, 1) := by decide +kernel
theorem zd_Mo_timeout_77 : decode zc_Mo_timeout 77 = .ok (.iload_n 1, 1) := by decide +kernel
theorem zd_Mo_timeout_78 : decode zc_Mo_timeout 78 = .ok (.invokevirtual 197, 3) := by decide +kernel
theorem zd_Mo_timeout_81 : decode zc_Mo_timeout 81 = .ok (.iconst 1, 1) := by decide +kernel
theorem zd_Mo_timeout_82 : decode zc_Mo_timeout 82 = .ok (.ireturn, 1) := by decide +kernel
theorem zd_Mo_sealed_0 : decode zc_Mo_sealed 0 = .ok (.aload_n 0, 1) := by decide +kernel
theorem zd_Mo_sealed_1 : decode zc_Mo_sealed 1 = .ok (.getfield 53, 3) := by decide +kernel
theorem zd_Mo_sealed_4 : decode zc_Mo_sealed 4 = .ok (.aload_n 0, 1) := by decide +kernel
theorem zd_Mo_sealed_5 : decode zc_Mo_sealed 5 = .ok (.getfield 200, 3) := by decide +kernel
theorem zd_Mo_sealed_8 : decode zc_Mo_sealed 8 = .ok (.iload_n 1, 1) := by decide +kernel
theorem zd_Mo_sealed_9 : decode zc_Mo_sealed 9 = .ok (.iastore, 1) := by decide +kernel
theorem zd_Mo_sealed_10 : decode zc_Mo_sealed 10 = .ok (.aload_n 0, 1) := by decide +kernel
theorem zd_Mo_sealed_11 : decode zc_Mo_sealed 11 = .ok (.getfield 56, 3) := by decide +kernel
theorem zd_Mo_sealed_14 : decode zc_Mo_sealed 14 = .ok (.aload_n 0, 1) := by decide +kernel
theorem zd_Mo_sealed_15 : decode zc_Mo_sealed 15 = .ok (.getfield 200, 3) := by decide +kernel
theorem zd_Mo_sealed_18 : decode zc_Mo_sealed 18 = .ok (.iload_n 2, 1) := by decide +kernel
theorem zd_Mo_sealed_19 : decode zc_Mo_sealed 19 = .ok (.iastore, 1) := by decide +kernel
theorem zd_Mo_sealed_20 : decode zc_Mo_sealed 20 = .ok (.aload_n 0, 1) := by decide +kernel
theorem zd_Mo_sealed_21 : decode zc_Mo_sealed 21 = .ok (.dup, 1) := by decide +kernel
theorem zd_Mo_sealed_22 : decode zc_Mo_sealed 22 = .ok (.getfield 200, 3) := by decide +kernel
theorem zd_Mo_sealed_25 : decode zc_Mo_sealed 25 = .ok (.iconst 1, 1) := by decide +kernel
theorem zd_Mo_sealed_26 : decode zc_Mo_sealed 26 = .ok (.iadd, 1) := by decide +kernel
theorem zd_Mo_sealed_27 : decode zc_Mo_sealed 27 = .ok (.putfield 200, 3) := by decide +kernel
theorem zd_Mo_sealed_30 : decode zc_Mo_sealed 30 = .ok (.aload_n 0, 1) := by decide +kernel
theorem zd_Mo_sealed_31 : decode zc_Mo_sealed 31 = .ok (.getfield 200, 3) := by decide +kernel
theorem zd_Mo_sealed_34 : decode zc_Mo_sealed 34 = .ok (.iconst 1, 1) := by decide +kernel
theorem zd_Mo_sealed_35 : decode zc_Mo_sealed 35 = .ok (.isub, 1) := by decide +kernel
theorem zd_Mo_sealed_36 : decode zc_Mo_sealed 36 = .ok (.ireturn, 1) := by decide +kernel
theorem zd_Mo_post_0 : decode zc_Mo_post 0 = .ok (.aload_n 0, 1) := by decide +kernel
theorem zd_Mo_post_1 : decode zc_Mo_post 1 = .ok (.iload_n 1, 1) := by decide +kernel
theorem zd_Mo_post_2 : decode zc_Mo_post 2 = .ok (.invokevirtual 190, 3) := by decide +kernel
theorem zd_Mo_post_5 : decode zc_Mo_post 5 = .ok (.ifCond .eq 31, 3) := by decide +kernel
theorem zd_Mo_post_8 : decode zc_Mo_post 8 = .ok (.iload_n 2, 1) := by decide +kernel
theorem zd_Mo_post_9 : decode zc_Mo_post 9 = .ok (.iconst 0, 1) := by decide +kernel
theorem zd_Mo_post_10 : decode zc_Mo_post 10 = .ok (.iconst 2, 1) := by decide +kernel
theorem zd_Mo_post_11 : decode zc_Mo_post 11 = .ok (.invokestatic 105, 3) := by decide +kernel
theorem zd_Mo_post_14 : decode zc_Mo_post 14 = .ok (.ifCond .eq 22, 3) := by decide +kernel
theorem zd_Mo_post_17 : decode zc_Mo_post 17 = .ok (.iload_n 2, 1) := by decide +kernel
theorem zd_Mo_post_18 : decode zc_Mo_post 18 = .ok (.aload_n 0, 1) := by decide +kernel
theorem zd_Mo_post_19 : decode zc_Mo_post 19 = .ok (.getfield 26, 3) := by decide +kernel
theorem zd_Mo_post_22 : decode zc_Mo_post 22 = .ok (.iload_n 1, 1) := by decide +kernel
theorem zd_Mo_post_23 : decode zc_Mo_post 23 = .ok (.iaload, 1) := by decide +kernel
theorem zd_Mo_post_24 : decode zc_Mo_post 24 = .ok (.if_icmp .gt 12, 3) := by decide +kernel
theorem zd_Mo_post_27 : decode zc_Mo_post 27 = .ok (.aload_n 0, 1) := by decide +kernel
theorem zd_Mo_post_28 : decode zc_Mo_post 28 = .ok (.getfield 200, 3) := by decide +kernel
theorem zd_Mo_post_31 : decode zc_Mo_post 31 = .ok (.bipush 120, 2) := by decide +kernel
theorem zd_Mo_post_33 : decode zc_Mo_post 33 = .ok (.if_icmp .ne 5, 3) := by decide +kernel
theorem zd_Mo_post_36 : decode zc_Mo_post 36 = .ok (.iconst (-1), 1) := by decide +kernel
theorem zd_Mo_post_37 : decode zc_Mo_post 37 = .ok (.ireturn, 1) := by decide +kernel
theorem zd_Mo_post_38 : decode zc_Mo_post 38 = .ok (.aload_n 0, 1) := by decide +kernel
theorem zd_Mo_post_39 : decode zc_Mo_post 39 = .ok (.iconst 1, 1) := by decide +kernel
theorem zd_Mo_post_40 : decode zc_Mo_post 40 = .ok (.putfield 117, 3) := by decide +kernel
theorem zd_Mo_post_43 : decode zc_Mo_post 43 = .ok (.iconst 0, 1) := by decide +kernel
theorem zd_Mo_post_44 : decode zc_Mo_post 44 = .ok (.istore_n 3, 1) := by decide +kernel
theorem zd_Mo_post_45 : decode zc_Mo_post 45 = .ok (.iload_n 3, 1) := by decide +kernel
theorem zd_Mo_post_46 : decode zc_Mo_post 46 = .ok (.iconst 3, 1) := by decide +kernel
theorem zd_Mo_post_47 : decode zc_Mo_post 47 = .ok (.if_icmp .ge 84, 3) := by decide +kernel
theorem zd_Mo_post_50 : decode zc_Mo_post 50 = .ok (.bipush 27, 2) := by decide +kernel
theorem zd_Mo_post_52 : decode zc_Mo_post 52 = .ok (.iload_n 1, 1) := by decide +kernel
theorem zd_Mo_post_53 : decode zc_Mo_post 53 = .ok (.imul, 1) := by decide +kernel
theorem zd_Mo_post_54 : decode zc_Mo_post 54 = .ok (.bipush 9, 2) := by decide +kernel
theorem zd_Mo_post_56 : decode zc_Mo_post 56 = .ok (.iload_n 2, 1) := by decide +kernel
theorem zd_Mo_post_57 : decode zc_Mo_post 57 = .ok (.imul, 1) := by decide +kernel
theorem zd_Mo_post_58 : decode zc_Mo_post 58 = .ok (.iadd, 1) := by decide +kernel
theorem zd_Mo_post_59 : decode zc_Mo_post 59 = .ok (.iconst 3, 1) := by decide +kernel
theorem zd_Mo_post_60 : decode zc_Mo_post 60 = .ok (.iload_n 3, 1) := by decide +kernel
theorem zd_Mo_post_61 : decode zc_Mo_post 61 = .ok (.imul, 1) := by decide +kernel
theorem zd_Mo_post_62 : decode zc_Mo_post 62 = .ok (.iadd, 1) := by decide +kernel
theorem zd_Mo_post_63 : decode zc_Mo_post 63 = .ok (.istore 4, 2) := by decide +kernel
theorem zd_Mo_post_65 : decode zc_Mo_post 65 = .ok (.aload_n 0, 1) := by decide +kernel
theorem zd_Mo_post_66 : decode zc_Mo_post 66 = .ok (.getfield 59, 3) := by decide +kernel
theorem zd_Mo_post_69 : decode zc_Mo_post 69 = .ok (.bipush 6, 2) := by decide +kernel
theorem zd_Mo_post_71 : decode zc_Mo_post 71 = .ok (.aload_n 0, 1) := by decide +kernel
theorem zd_Mo_post_72 : decode zc_Mo_post 72 = .ok (.getfield 200, 3) := by decide +kernel
theorem zd_Mo_post_75 : decode zc_Mo_post 75 = .ok (.imul, 1) := by decide +kernel
theorem zd_Mo_post_76 : decode zc_Mo_post 76 = .ok (.iconst 2, 1) := by decide +kernel
theorem zd_Mo_post_77 : decode zc_Mo_post 77 = .ok (.iload_n 3, 1) := by decide +kernel
theorem zd_Mo_post_78 : decode zc_Mo_post 78 = .ok (.imul, 1) := by decide +kernel
theorem zd_Mo_post_79 : decode zc_Mo_post 79 = .ok (.iadd, 1) := by decide +kernel
theorem zd_Mo_post_80 : decode zc_Mo_post 80 = .ok (.aload_n 0, 1) := by decide +kernel
theorem zd_Mo_post_81 : decode zc_Mo_post 81 = .ok (.getfield 41, 3) := by decide +kernel
theorem zd_Mo_post_84 : decode zc_Mo_post 84 = .ok (.iload 4, 2) := by decide +kernel
theorem zd_Mo_post_86 : decode zc_Mo_post 86 = .ok (.iaload, 1) := by decide +kernel
theorem zd_Mo_post_87 : decode zc_Mo_post 87 = .ok (.aload_n 0, 1) := by decide +kernel
theorem zd_Mo_post_88 : decode zc_Mo_post 88 = .ok (.getfield 41, 3) := by decide +kernel
theorem zd_Mo_post_91 : decode zc_Mo_post 91 = .ok (.iload 4, 2) := by decide +kernel
theorem zd_Mo_post_93 : decode zc_Mo_post 93 = .ok (.iconst 1, 1) := by decide +kernel
theorem zd_Mo_post_94 : decode zc_Mo_post 94 = .ok (.iadd, 1) := by decide +kernel
theorem zd_Mo_post_95 : decode zc_Mo_post 95 = .ok (.iaload, 1) := by decide +kernel
theorem zd_Mo_post_96 : decode zc_Mo_post 96 = .ok (.ior, 1) := by decide +kernel
theorem zd_Mo_post_97 : decode zc_Mo_post 97 = .ok (.iastore, 1) := by decide +kernel
theorem zd_Mo_post_98 : decode zc_Mo_post 98 = .ok (.aload_n 0, 1) := by decide +kernel
theorem zd_Mo_post_99 : decode zc_Mo_post 99 = .ok (.getfield 59, 3) := by decide +kernel
theorem zd_Mo_post_102 : decode zc_Mo_post 102 = .ok (.bipush 6, 2) := by decide +kernel
theorem zd_Mo_post_104 : decode zc_Mo_post 104 = .ok (.aload_n 0, 1) := by decide +kernel
theorem zd_Mo_post_105 : decode zc_Mo_post 105 = .ok (.getfield 200, 3) := by decide +kernel
theorem zd_Mo_post_108 : decode zc_Mo_post 108 = .ok (.imul, 1) := by decide +kernel
theorem zd_Mo_post_109 : decode zc_Mo_post 109 = .ok (.iconst 2, 1) := by decide +kernel
theorem zd_Mo_post_110 : decode zc_Mo_post 110 = .ok (.iload_n 3, 1) := by decide +kernel
theorem zd_Mo_post_111 : decode zc_Mo_post 111 = .ok (.imul, 1) := by decide +kernel
theorem zd_Mo_post_112 : decode zc_Mo_post 112 = .ok (.iadd, 1) := by decide +kernel
theorem zd_Mo_post_113 : decode zc_Mo_post 113 = .ok (.iconst 1, 1) := by decide +kernel
theorem zd_Mo_post_114 : decode zc_Mo_post 114 = .ok (.iadd, 1) := by decide +kernel
theorem zd_Mo_post_115 : decode zc_Mo_post 115 = .ok (.aload_n 0, 1) := by decide +kernel
theorem zd_Mo_post_116 : decode zc_Mo_post 116 = .ok (.getfield 41, 3) := by decide +kernel
theorem zd_Mo_post_119 : decode zc_Mo_post 119 = .ok (.iload 4, 2) := by decide +kernel
theorem zd_Mo_post_121 : decode zc_Mo_post 121 = .ok (.iconst 1, 1) := by decide +kernel
theorem zd_Mo_post_122 : decode zc_Mo_post 122 = .ok (.iadd, 1) := by decide +kernel
theorem zd_Mo_post_123 : decode zc_Mo_post 123 = .ok (.iaload, 1) := by decide +kernel
theorem zd_Mo_post_124 : decode zc_Mo_post 124 = .ok (.iastore, 1) := by decide +kernel
theorem zd_Mo_post_125 : decode zc_Mo_post 125 = .ok (.iinc 3 1, 3) := by decide +kernel
theorem zd_Mo_post_128 : decode zc_Mo_post 128 = .ok (.goto (-83), 3) := by decide +kernel
theorem zd_Mo_post_131 : decode zc_Mo_post 131 = .ok (.aload_n 0, 1) := by decide +kernel
theorem zd_Mo_post_132 : decode zc_Mo_post 132 = .ok (.iload_n 1, 1) := by decide +kernel
theorem zd_Mo_post_133 : decode zc_Mo_post 133 = .ok (.iload_n 2, 1) := by decide +kernel
theorem zd_Mo_post_134 : decode zc_Mo_post 134 = .ok (.invokevirtual 203, 3) := by decide +kernel
theorem zd_Mo_post_137 : decode zc_Mo_post 137 = .ok (.ireturn, 1) := by decide +kernel
theorem zd_Mo_forge_0 : decode zc_Mo_forge 0 = .ok (.iload_n 1, 1) := by decide +kernel
theorem zd_Mo_forge_1 : decode zc_Mo_forge 1 = .ok (.iconst 0, 1) := by decide +kernel
theorem zd_Mo_forge_2 : decode zc_Mo_forge 2 = .ok (.iconst 4, 1) := by decide +kernel
theorem zd_Mo_forge_3 : decode zc_Mo_forge 3 = .ok (.invokestatic 105, 3) := by decide +kernel
theorem zd_Mo_forge_6 : decode zc_Mo_forge 6 = .ok (.ifCond .eq 29, 3) := by decide +kernel
theorem zd_Mo_forge_9 : decode zc_Mo_forge 9 = .ok (.aload_n 0, 1) := by decide +kernel
theorem zd_Mo_forge_10 : decode zc_Mo_forge 10 = .ok (.iload_n 1, 1) := by decide +kernel
theorem zd_Mo_forge_11 : decode zc_Mo_forge 11 = .ok (.invokevirtual 190, 3) := by decide +kernel
theorem zd_Mo_forge_14 : decode zc_Mo_forge 14 = .ok (.ifCond .ne 21, 3) := by decide +kernel
theorem zd_Mo_forge_17 : decode zc_Mo_forge 17 = .ok (.iload_n 2, 1) := by decide +kernel
theorem zd_Mo_forge_18 : decode zc_Mo_forge 18 = .ok (.iconst 0, 1) := by decide +kernel
theorem zd_Mo_forge_19 : decode zc_Mo_forge 19 = .ok (.iconst 2, 1) := by decide +kernel
theorem zd_Mo_forge_20 : decode zc_Mo_forge 20 = .ok (.invokestatic 105, 3) := by decide +kernel
theorem zd_Mo_forge_23 : decode zc_Mo_forge 23 = .ok (.ifCond .eq 12, 3) := by decide +kernel
theorem zd_Mo_forge_26 : decode zc_Mo_forge 26 = .ok (.aload_n 0, 1) := by decide +kernel
theorem zd_Mo_forge_27 : decode zc_Mo_forge 27 = .ok (.getfield 200, 3) := by decide +kernel
theorem zd_Mo_forge_30 : decode zc_Mo_forge 30 = .ok (.bipush 120, 2) := by decide +kernel
theorem zd_Mo_forge_32 : decode zc_Mo_forge 32 = .ok (.if_icmp .ne 5, 3) := by decide +kernel
theorem zd_Mo_forge_35 : decode zc_Mo_forge 35 = .ok (.iconst (-1), 1) := by decide +kernel
theorem zd_Mo_forge_36 : decode zc_Mo_forge 36 = .ok (.ireturn, 1) := by decide +kernel
theorem zd_Mo_forge_37 : decode zc_Mo_forge 37 = .ok (.aload_n 0, 1) := by decide +kernel
theorem zd_Mo_forge_38 : decode zc_Mo_forge 38 = .ok (.iconst 1, 1) := by decide +kernel
theorem zd_Mo_forge_39 : decode zc_Mo_forge 39 = .ok (.putfield 117, 3) := by decide +kernel
theorem zd_Mo_forge_42 : decode zc_Mo_forge 42 = .ok (.iconst 0, 1) := by decide +kernel
theorem zd_Mo_forge_43 : decode zc_Mo_forge 43 = .ok (.istore 6, 2) := by decide +kernel
theorem zd_Mo_forge_45 : decode zc_Mo_forge 45 = .ok (.iload 6, 2) := by decide +kernel
theorem zd_Mo_forge_47 : decode zc_Mo_forge 47 = .ok (.iconst 2, 1) := by decide +kernel
theorem zd_Mo_forge_48 : decode zc_Mo_forge 48 = .ok (.if_icmp .ge 73, 3) := by decide +kernel
theorem zd_Mo_forge_51 : decode zc_Mo_forge 51 = .ok (.aload_n 0, 1) := by decide +kernel
theorem zd_Mo_forge_52 : decode zc_Mo_forge 52 = .ok (.getfield 59, 3) := by decide +kernel
theorem zd_Mo_forge_55 : decode zc_Mo_forge 55 = .ok (.bipush 6, 2) := by decide +kernel
theorem zd_Mo_forge_57 : decode zc_Mo_forge 57 = .ok (.aload_n 0, 1) := by decide +kernel
theorem zd_Mo_forge_58 : decode zc_Mo_forge 58 = .ok (.getfield 200, 3) := by decide +kernel
theorem zd_Mo_forge_61 : decode zc_Mo_forge 61 = .ok (.imul, 1) := by decide +kernel
theorem zd_Mo_forge_62 : decode zc_Mo_forge 62 = .ok (.iload 6, 2) := by decide +kernel
theorem zd_Mo_forge_64 : decode zc_Mo_forge 64 = .ok (.iadd, 1) := by decide +kernel
theorem zd_Mo_forge_65 : decode zc_Mo_forge 65 = .ok (.iload_n 3, 1) := by decide +kernel
theorem zd_Mo_forge_66 : decode zc_Mo_forge 66 = .ok (.sipush 254, 3) := by decide +kernel
theorem zd_Mo_forge_69 : decode zc_Mo_forge 69 = .ok (.iand, 1) := by decide +kernel
theorem zd_Mo_forge_70 : decode zc_Mo_forge 70 = .ok (.iastore, 1) := by decide +kernel
theorem zd_Mo_forge_71 : decode zc_Mo_forge 71 = .ok (.aload_n 0, 1) := by decide +kernel
theorem zd_Mo_forge_72 : decode zc_Mo_forge 72 = .ok (.getfield 59, 3) := by decide +kernel
theorem zd_Mo_forge_75 : decode zc_Mo_forge 75 = .ok (.bipush 6, 2) := by decide +kernel
theorem zd_Mo_forge_77 : decode zc_Mo_forge 77 = .ok (.aload_n 0, 1) := by decide +kernel
theorem zd_Mo_forge_78 : decode zc_Mo_forge 78 = .ok (.getfield 200, 3) := by decide +kernel
theorem zd_Mo_forge_81 : decode zc_Mo_forge 81 = .ok (.imul, 1) := by decide +kernel
theorem zd_Mo_forge_82 : decode zc_Mo_forge 82 = .ok (.iconst 2, 1) := by decide +kernel
theorem zd_Mo_forge_83 : decode zc_Mo_forge 83 = .ok (.iadd, 1) := by decide +kernel
theorem zd_Mo_forge_84 : decode zc_Mo_forge 84 = .ok (.iload 6, 2) := by decide +kernel
theorem zd_Mo_forge_86 : decode zc_Mo_forge 86 = .ok (.iadd, 1) := by decide +kernel
theorem zd_Mo_forge_87 : decode zc_Mo_forge 87 = .ok (.iload 4, 2) := by decide +kernel
theorem zd_Mo_forge_89 : decode zc_Mo_forge 89 = .ok (.ldc 207, 2) := by decide +kernel
theorem zd_Mo_forge_91 : decode zc_Mo_forge 91 = .ok (.iand, 1) := by decide +kernel
theorem zd_Mo_forge_92 : decode zc_Mo_forge 92 = .ok (.iastore, 1) := by decide +kernel
theorem zd_Mo_forge_93 : decode zc_Mo_forge 93 = .ok (.aload_n 0, 1) := by decide +kernel
theorem zd_Mo_forge_94 : decode zc_Mo_forge 94 = .ok (.getfield 59, 3) := by decide +kernel
theorem zd_Mo_forge_97 : decode zc_Mo_forge 97 = .ok (.bipush 6, 2) := by decide +kernel
theorem zd_Mo_forge_99 : decode zc_Mo_forge 99 = .ok (.aload_n 0, 1) := by decide +kernel
theorem zd_Mo_forge_100 : decode zc_Mo_forge 100 = .ok (.getfield 200, 3) := by decide +kernel
theorem zd_Mo_forge_103 : decode zc_Mo_forge 103 = .ok (.imul, 1) := by decide +kernel
theorem zd_Mo_forge_104 : decode zc_Mo_forge 104 = .ok (.iconst 4, 1) := by decide +kernel
theorem zd_Mo_forge_105 : decode zc_Mo_forge 105 = .ok (.iadd, 1) := by decide +kernel
theorem zd_Mo_forge_106 : decode zc_Mo_forge 106 = .ok (.iload 6, 2) := by decide +kernel
theorem zd_Mo_forge_108 : decode zc_Mo_forge 108 = .ok (.iadd, 1) := by decide +kernel
theorem zd_Mo_forge_109 : decode zc_Mo_forge 109 = .ok (.iload 5, 2) := by decide +kernel
theorem zd_Mo_forge_111 : decode zc_Mo_forge 111 = .ok (.ldc 207, 2) := by decide +kernel
theorem zd_Mo_forge_113 : decode zc_Mo_forge 113 = .ok (.iand, 1) := by decide +kernel
theorem zd_Mo_forge_114 : decode zc_Mo_forge 114 = .ok (.iastore, 1) := by decide +kernel
theorem zd_Mo_forge_115 : decode zc_Mo_forge 115 = .ok (.iinc 6 1, 3) := by decide +kernel
theorem zd_Mo_forge_118 : decode zc_Mo_forge 118 = .ok (.goto (-73), 3) := by decide +kernel
theorem zd_Mo_forge_121 : decode zc_Mo_forge 121 = .ok (.aload_n 0, 1) := by decide +kernel
theorem zd_Mo_forge_122 : decode zc_Mo_forge 122 = .ok (.iload_n 1, 1) := by decide +kernel
theorem zd_Mo_forge_123 : decode zc_Mo_forge 123 = .ok (.iload_n 2, 1) := by decide +kernel
theorem zd_Mo_forge_124 : decode zc_Mo_forge 124 = .ok (.invokevirtual 203, 3) := by decide +kernel
theorem zd_Mo_forge_127 : decode zc_Mo_forge 127 = .ok (.ireturn, 1) := by decide +kernel
theorem zd_Mo_deliver_0 : decode zc_Mo_deliver 0 = .ok (.iload_n 1, 1) := by decide +kernel
theorem zd_Mo_deliver_1 : decode zc_Mo_deliver 1 = .ok (.iconst 0, 1) := by decide +kernel
theorem zd_Mo_deliver_2 : decode zc_Mo_deliver 2 = .ok (.aload_n 0, 1) := by decide +kernel
theorem zd_Mo_deliver_3 : decode zc_Mo_deliver 3 = .ok (.getfield 200, 3) := by decide +kernel
theorem zd_Mo_deliver_6 : decode zc_Mo_deliver 6 = .ok (.iconst 1, 1) := by decide +kernel
theorem zd_Mo_deliver_7 : decode zc_Mo_deliver 7 = .ok (.isub, 1) := by decide +kernel
theorem zd_Mo_deliver_8 : decode zc_Mo_deliver 8 = .ok (.invokestatic 105, 3) := by decide +kernel
theorem zd_Mo_deliver_11 : decode zc_Mo_deliver 11 = .ok (.ifCond .eq 36, 3) := by decide +kernel
theorem zd_Mo_deliver_14 : decode zc_Mo_deliver 14 = .ok (.aload_n 0, 1) := by decide +kernel
theorem zd_Mo_deliver_15 : decode zc_Mo_deliver 15 = .ok (.iload_n 2, 1) := by decide +kernel
theorem zd_Mo_deliver_16 : decode zc_Mo_deliver 16 = .ok (.invokevirtual 190, 3) := by decide +kernel
theorem zd_Mo_deliver_19 : decode zc_Mo_deliver 19 = .ok (.ifCond .eq 28, 3) := by decide +kernel
theorem zd_Mo_deliver_22 : decode zc_Mo_deliver 22 = .ok (.aload_n 0, 1) := by decide +kernel
theorem zd_Mo_deliver_23 : decode zc_Mo_deliver 23 = .ok (.getfield 53, 3) := by decide +kernel
theorem zd_Mo_deliver_26 : decode zc_Mo_deliver 26 = .ok (.iload_n 1, 1) := by decide +kernel
theorem zd_Mo_deliver_27 : decode zc_Mo_deliver 27 = .ok (.iaload, 1) := by decide +kernel
theorem zd_Mo_deliver_28 : decode zc_Mo_deliver 28 = .ok (.iload_n 2, 1) := by decide +kernel
theorem zd_Mo_deliver_29 : decode zc_Mo_deliver 29 = .ok (.if_icmp .eq 18, 3) := by decide +kernel
theorem zd_Mo_deliver_32 : decode zc_Mo_deliver 32 = .ok (.aload_n 0, 1) := by decide +kernel
theorem zd_Mo_deliver_33 : decode zc_Mo_deliver 33 = .ok (.getfield 56, 3) := by decide +kernel
theorem zd_Mo_deliver_36 : decode zc_Mo_deliver 36 = .ok (.iload_n 1, 1) := by decide +kernel
theorem zd_Mo_deliver_37 : decode zc_Mo_deliver 37 = .ok (.iaload, 1) := by decide +kernel
theorem zd_Mo_deliver_38 : decode zc_Mo_deliver 38 = .ok (.aload_n 0, 1) := by decide +kernel
theorem zd_Mo_deliver_39 : decode zc_Mo_deliver 39 = .ok (.getfield 26, 3) := by decide +kernel
theorem zd_Mo_deliver_42 : decode zc_Mo_deliver 42 = .ok (.iload_n 2, 1) := by decide +kernel
theorem zd_Mo_deliver_43 : decode zc_Mo_deliver 43 = .ok (.iaload, 1) := by decide +kernel
theorem zd_Mo_deliver_44 : decode zc_Mo_deliver 44 = .ok (.if_icmp .eq 5, 3) := by decide +kernel
theorem zd_Mo_deliver_47 : decode zc_Mo_deliver 47 = .ok (.iconst 0, 1) := by decide +kernel
theorem zd_Mo_deliver_48 : decode zc_Mo_deliver 48 = .ok (.ireturn, 1) := by decide +kernel
theorem zd_Mo_deliver_49 : decode zc_Mo_deliver 49 = .ok (.iconst 0, 1) := by decide +kernel
theorem zd_Mo_deliver_50 : decode zc_Mo_deliver 50 = .ok (.istore_n 3, 1) := by decide +kernel
theorem zd_Mo_deliver_51 : decode zc_Mo_deliver 51 = .ok (.iload_n 3, 1) := by decide +kernel
theorem zd_Mo_deliver_52 : decode zc_Mo_deliver 52 = .ok (.bipush 6, 2) := by decide +kernel
theorem zd_Mo_deliver_54 : decode zc_Mo_deliver 54 = .ok (.if_icmp .ge 53, 3) := by decide +kernel
theorem zd_Mo_deliver_57 : decode zc_Mo_deliver 57 = .ok (.bipush 30, 2) := by decide +kernel
theorem zd_Mo_deliver_59 : decode zc_Mo_deliver 59 = .ok (.iload_n 2, 1) := by decide +kernel
theorem zd_Mo_deliver_60 : decode zc_Mo_deliver 60 = .ok (.imul, 1) := by decide +kernel
theorem zd_Mo_deliver_61 : decode zc_Mo_deliver 61 = .ok (.bipush 6, 2) := by decide +kernel
theorem zd_Mo_deliver_63 : decode zc_Mo_deliver 63 = .ok (.aload_n 0, 1) := by decide +kernel
theorem zd_Mo_deliver_64 : decode zc_Mo_deliver 64 = .ok (.getfield 53, 3) := by decide +kernel
theorem zd_Mo_deliver_67 : decode zc_Mo_deliver 67 = .ok (.iload_n 1, 1) := by decide +kernel
theorem zd_Mo_deliver_68 : decode zc_Mo_deliver 68 = .ok (.iaload, 1) := by decide +kernel
theorem zd_Mo_deliver_69 : decode zc_Mo_deliver 69 = .ok (.imul, 1) := by decide +kernel
theorem zd_Mo_deliver_70 : decode zc_Mo_deliver 70 = .ok (.iadd, 1) := by decide +kernel
theorem zd_Mo_deliver_71 : decode zc_Mo_deliver 71 = .ok (.iload_n 3, 1) := by decide +kernel
theorem zd_Mo_deliver_72 : decode zc_Mo_deliver 72 = .ok (.iadd, 1) := by decide +kernel
theorem zd_Mo_deliver_73 : decode zc_Mo_deliver 73 = .ok (.istore 4, 2) := by decide +kernel
theorem zd_Mo_deliver_75 : decode zc_Mo_deliver 75 = .ok (.aload_n 0, 1) := by decide +kernel
theorem zd_Mo_deliver_76 : decode zc_Mo_deliver 76 = .ok (.getfield 44, 3) := by decide +kernel
theorem zd_Mo_deliver_79 : decode zc_Mo_deliver 79 = .ok (.iload 4, 2) := by decide +kernel
theorem zd_Mo_deliver_81 : decode zc_Mo_deliver 81 = .ok (.aload_n 0, 1) := by decide +kernel
theorem zd_Mo_deliver_82 : decode zc_Mo_deliver 82 = .ok (.getfield 44, 3) := by decide +kernel
theorem zd_Mo_deliver_85 : decode zc_Mo_deliver 85 = .ok (.iload 4, 2) := by decide +kernel
theorem zd_Mo_deliver_87 : decode zc_Mo_deliver 87 = .ok (.iaload, 1) := by decide +kernel
theorem zd_Mo_deliver_88 : decode zc_Mo_deliver 88 = .ok (.aload_n 0, 1) := by decide +kernel
theorem zd_Mo_deliver_89 : decode zc_Mo_deliver 89 = .ok (.getfield 59, 3) := by decide +kernel
theorem zd_Mo_deliver_92 : decode zc_Mo_deliver 92 = .ok (.bipush 6, 2) := by decide +kernel
theorem zd_Mo_deliver_94 : decode zc_Mo_deliver 94 = .ok (.iload_n 1, 1) := by decide +kernel
theorem zd_Mo_deliver_95 : decode zc_Mo_deliver 95 = .ok (.imul, 1) := by decide +kernel
theorem zd_Mo_deliver_96 : decode zc_Mo_deliver 96 = .ok (.iload_n 3, 1) := by decide +kernel
theorem zd_Mo_deliver_97 : decode zc_Mo_deliver 97 = .ok (.iadd, 1) := by decide +kernel
theorem zd_Mo_deliver_98 : decode zc_Mo_deliver 98 = .ok (.iaload, 1) := by decide +kernel
theorem zd_Mo_deliver_99 : decode zc_Mo_deliver 99 = .ok (.ior, 1) := by decide +kernel
theorem zd_Mo_deliver_100 : decode zc_Mo_deliver 100 = .ok (.iastore, 1) := by decide +kernel
theorem zd_Mo_deliver_101 : decode zc_Mo_deliver 101 = .ok (.iinc 3 1, 3) := by decide +kernel
theorem zd_Mo_deliver_104 : decode zc_Mo_deliver 104 = .ok (.goto (-53), 3) := by decide +kernel
theorem zd_Mo_deliver_107 : decode zc_Mo_deliver 107 = .ok (.aload_n 0, 1) := by decide +kernel
theorem zd_Mo_deliver_108 : decode zc_Mo_deliver 108 = .ok (.iload_n 2, 1) := by decide +kernel
theorem zd_Mo_deliver_109 : decode zc_Mo_deliver 109 = .ok (.invokevirtual 197, 3) := by decide +kernel
theorem zd_Mo_deliver_112 : decode zc_Mo_deliver 112 = .ok (.iconst 1, 1) := by decide +kernel
theorem zd_Mo_deliver_113 : decode zc_Mo_deliver 113 = .ok (.ireturn, 1) := by decide +kernel
theorem zd_Mo_envelopes_0 : decode zc_Mo_envelopes 0 = .ok (.aload_n 0, 1) := by decide +kernel
theorem zd_Mo_envelopes_1 : decode zc_Mo_envelopes 1 = .ok (.getfield 200, 3) := by decide +kernel
theorem zd_Mo_envelopes_4 : decode zc_Mo_envelopes 4 = .ok (.ireturn, 1) := by decide +kernel
theorem zd_Mo_submit_0 : decode zc_Mo_submit 0 = .ok (.iload_n 1, 1) := by decide +kernel
theorem zd_Mo_submit_1 : decode zc_Mo_submit 1 = .ok (.iconst 0, 1) := by decide +kernel
theorem zd_Mo_submit_2 : decode zc_Mo_submit 2 = .ok (.iconst 2, 1) := by decide +kernel
theorem zd_Mo_submit_3 : decode zc_Mo_submit 3 = .ok (.invokestatic 105, 3) := by decide +kernel
theorem zd_Mo_submit_6 : decode zc_Mo_submit 6 = .ok (.ifCond .eq 53, 3) := by decide +kernel
theorem zd_Mo_submit_9 : decode zc_Mo_submit 9 = .ok (.iload_n 2, 1) := by decide +kernel
theorem zd_Mo_submit_10 : decode zc_Mo_submit 10 = .ok (.iconst 0, 1) := by decide +kernel
theorem zd_Mo_submit_11 : decode zc_Mo_submit 11 = .ok (.iconst 2, 1) := by decide +kernel
theorem zd_Mo_submit_12 : decode zc_Mo_submit 12 = .ok (.invokestatic 105, 3) := by decide +kernel
theorem zd_Mo_submit_15 : decode zc_Mo_submit 15 = .ok (.ifCond .eq 44, 3) := by decide +kernel
theorem zd_Mo_submit_18 : decode zc_Mo_submit 18 = .ok (.iload_n 3, 1) := by decide +kernel
theorem zd_Mo_submit_19 : decode zc_Mo_submit 19 = .ok (.iconst 0, 1) := by decide +kernel
theorem zd_Mo_submit_20 : decode zc_Mo_submit 20 = .ok (.iconst 1, 1) := by decide +kernel
theorem zd_Mo_submit_21 : decode zc_Mo_submit 21 = .ok (.invokestatic 105, 3) := by decide +kernel
theorem zd_Mo_submit_24 : decode zc_Mo_submit 24 = .ok (.ifCond .eq 35, 3) := by decide +kernel
theorem zd_Mo_submit_27 : decode zc_Mo_submit 27 = .ok (.iload 4, 2) := by decide +kernel
theorem zd_Mo_submit_29 : decode zc_Mo_submit 29 = .ok (.iconst 0, 1) := by decide +kernel
theorem zd_Mo_submit_30 : decode zc_Mo_submit 30 = .ok (.iconst 3, 1) := by decide +kernel
theorem zd_Mo_submit_31 : decode zc_Mo_submit 31 = .ok (.invokestatic 105, 3) := by decide +kernel
theorem zd_Mo_submit_34 : decode zc_Mo_submit 34 = .ok (.ifCond .eq 25, 3) := by decide +kernel
theorem zd_Mo_submit_37 : decode zc_Mo_submit 37 = .ok (.iload 5, 2) := by decide +kernel
theorem zd_Mo_submit_39 : decode zc_Mo_submit 39 = .ok (.iconst 0, 1) := by decide +kernel
theorem zd_Mo_submit_40 : decode zc_Mo_submit 40 = .ok (.iconst 1, 1) := by decide +kernel
theorem zd_Mo_submit_41 : decode zc_Mo_submit 41 = .ok (.invokestatic 105, 3) := by decide +kernel
theorem zd_Mo_submit_44 : decode zc_Mo_submit 44 = .ok (.ifCond .eq 15, 3) := by decide +kernel
theorem zd_Mo_submit_47 : decode zc_Mo_submit 47 = .ok (.iload 7, 2) := by decide +kernel
theorem zd_Mo_submit_49 : decode zc_Mo_submit 49 = .ok (.iconst 1, 1) := by decide +kernel
theorem zd_Mo_submit_50 : decode zc_Mo_submit 50 = .ok (.sipush 1000, 3) := by decide +kernel
theorem zd_Mo_submit_53 : decode zc_Mo_submit 53 = .ok (.invokestatic 105, 3) := by decide +kernel
theorem zd_Mo_submit_56 : decode zc_Mo_submit 56 = .ok (.ifCond .ne 5, 3) := by decide +kernel
theorem zd_Mo_submit_59 : decode zc_Mo_submit 59 = .ok (.iconst 0, 1) := by decide +kernel
theorem zd_Mo_submit_60 : decode zc_Mo_submit 60 = .ok (.ireturn, 1) := by decide +kernel
theorem zd_Mo_submit_61 : decode zc_Mo_submit 61 = .ok (.iload_n 3, 1) := by decide +kernel
theorem zd_Mo_submit_62 : decode zc_Mo_submit 62 = .ok (.ifCond .ne 13, 3) := by decide +kernel
theorem zd_Mo_submit_65 : decode zc_Mo_submit 65 = .ok (.iload 6, 2) := by decide +kernel
theorem zd_Mo_submit_67 : decode zc_Mo_submit 67 = .ok (.iconst 0, 1) := by decide +kernel
theorem zd_Mo_submit_68 : decode zc_Mo_submit 68 = .ok (.iconst 3, 1) := by decide +kernel
theorem zd_Mo_submit_69 : decode zc_Mo_submit 69 = .ok (.invokestatic 105, 3) := by decide +kernel
theorem zd_Mo_submit_72 : decode zc_Mo_submit 72 = .ok (.goto 11, 3) := by decide +kernel
theorem zd_Mo_submit_75 : decode zc_Mo_submit 75 = .ok (.iload 6, 2) := by decide +kernel
theorem zd_Mo_submit_77 : decode zc_Mo_submit 77 = .ok (.iconst 1, 1) := by decide +kernel
theorem zd_Mo_submit_78 : decode zc_Mo_submit 78 = .ok (.bipush 9, 2) := by decide +kernel
theorem zd_Mo_submit_80 : decode zc_Mo_submit 80 = .ok (.invokestatic 105, 3) := by decide +kernel
theorem zd_Mo_submit_83 : decode zc_Mo_submit 83 = .ok (.istore 8, 2) := by decide +kernel
theorem zd_Mo_submit_85 : decode zc_Mo_submit 85 = .ok (.iconst 0, 1) := by decide +kernel
theorem zd_Mo_submit_86 : decode zc_Mo_submit 86 = .ok (.istore 9, 2) := by decide +kernel
theorem zd_Mo_submit_88 : decode zc_Mo_submit 88 = .ok (.iload 9, 2) := by decide +kernel
theorem zd_Mo_submit_90 : decode zc_Mo_submit 90 = .ok (.iconst 5, 1) := by decide +kernel
theorem zd_Mo_submit_91 : decode zc_Mo_submit 91 = .ok (.if_icmp .ge 41, 3) := by decide +kernel
theorem zd_Mo_submit_94 : decode zc_Mo_submit 94 = .ok (.iload 8, 2) := by decide +kernel
theorem zd_Mo_submit_96 : decode zc_Mo_submit 96 = .ok (.ifCond .eq 27, 3) := by decide +kernel
theorem zd_Mo_submit_99 : decode zc_Mo_submit 99 = .ok (.aload_n 0, 1) := by decide +kernel
theorem zd_Mo_submit_100 : decode zc_Mo_submit 100 = .ok (.iload 9, 2) := by decide +kernel
theorem zd_Mo_submit_102 : decode zc_Mo_submit 102 = .ok (.invokevirtual 190, 3) := by decide +kernel
theorem zd_Mo_submit_105 : decode zc_Mo_submit 105 = .ok (.ifCond .eq 14, 3) := by decide +kernel
theorem zd_Mo_submit_108 : decode zc_Mo_submit 108 = .ok (.aload_n 0, 1) := by decide +kernel
theorem zd_Mo_submit_109 : decode zc_Mo_submit 109 = .ok (.getfield 26, 3) := by decide +kernel
theorem zd_Mo_submit_112 : decode zc_Mo_submit 112 = .ok (.iload 9, 2) := by decide +kernel
theorem zd_Mo_submit_114 : decode zc_Mo_submit 114 = .ok (.iaload, 1) := by decide +kernel
theorem zd_Mo_submit_115 : decode zc_Mo_submit 115 = .ok (.iload_n 1, 1) := by decide +kernel
theorem zd_Mo_submit_116 : decode zc_Mo_submit 116 = .ok (.if_icmp .gt 7, 3) := by decide +kernel
theorem zd_Mo_submit_119 : decode zc_Mo_submit 119 = .ok (.iconst 1, 1) := by decide +kernel
theorem zd_Mo_submit_120 : decode zc_Mo_submit 120 = .ok (.goto 4, 3) := by decide +kernel
theorem zd_Mo_submit_123 : decode zc_Mo_submit 123 = .ok (.iconst 0, 1) := by decide +kernel
theorem zd_Mo_submit_124 : decode zc_Mo_submit 124 = .ok (.istore 8, 2) := by decide +kernel
theorem zd_Mo_submit_126 : decode zc_Mo_submit 126 = .ok (.iinc 9 1, 3) := by decide +kernel
theorem zd_Mo_submit_129 : decode zc_Mo_submit 129 = .ok (.goto (-41), 3) := by decide +kernel
theorem zd_Mo_submit_132 : decode zc_Mo_submit 132 = .ok (.iconst 3, 1) := by decide +kernel
theorem zd_Mo_submit_133 : decode zc_Mo_submit 133 = .ok (.iload_n 1, 1) := by decide +kernel
theorem zd_Mo_submit_134 : decode zc_Mo_submit 134 = .ok (.imul, 1) := by decide +kernel
theorem zd_Mo_submit_135 : decode zc_Mo_submit 135 = .ok (.iload_n 2, 1) := by decide +kernel
theorem zd_Mo_submit_136 : decode zc_Mo_submit 136 = .ok (.iadd, 1) := by decide +kernel
theorem zd_Mo_submit_137 : decode zc_Mo_submit 137 = .ok (.istore 9, 2) := by decide +kernel
theorem zd_Mo_submit_139 : decode zc_Mo_submit 139 = .ok (.iload 8, 2) := by decide +kernel
theorem zd_Mo_submit_141 : decode zc_Mo_submit 141 = .ok (.ifCond .eq 13, 3) := by decide +kernel
theorem zd_Mo_submit_144 : decode zc_Mo_submit 144 = .ok (.aload_n 0, 1) := by decide +kernel
theorem zd_Mo_submit_145 : decode zc_Mo_submit 145 = .ok (.getfield 62, 3) := by decide +kernel
theorem zd_Mo_submit_148 : decode zc_Mo_submit 148 = .ok (.iload 9, 2) := by decide +kernel
theorem zd_Mo_submit_150 : decode zc_Mo_submit 150 = .ok (.baload, 1) := by decide +kernel
theorem zd_Mo_submit_151 : decode zc_Mo_submit 151 = .ok (.ifCond .eq 5, 3) := by decide +kernel
theorem zd_Mo_submit_154 : decode zc_Mo_submit 154 = .ok (.iconst 0, 1) := by decide +kernel
theorem zd_Mo_submit_155 : decode zc_Mo_submit 155 = .ok (.ireturn, 1) := by decide +kernel
theorem zd_Mo_submit_156 : decode zc_Mo_submit 156 = .ok (.aload_n 0, 1) := by decide +kernel
theorem zd_Mo_submit_157 : decode zc_Mo_submit 157 = .ok (.getfield 62, 3) := by decide +kernel
theorem zd_Mo_submit_160 : decode zc_Mo_submit 160 = .ok (.iload 9, 2) := by decide +kernel
theorem zd_Mo_submit_162 : decode zc_Mo_submit 162 = .ok (.iconst 1, 1) := by decide +kernel
theorem zd_Mo_submit_163 : decode zc_Mo_submit 163 = .ok (.bastore, 1) := by decide +kernel
theorem zd_Mo_submit_164 : decode zc_Mo_submit 164 = .ok (.aload_n 0, 1) := by decide +kernel
theorem zd_Mo_submit_165 : decode zc_Mo_submit 165 = .ok (.getfield 65, 3) := by decide +kernel
theorem zd_Mo_submit_168 : decode zc_Mo_submit 168 = .ok (.iload 9, 2) := by decide +kernel
theorem zd_Mo_submit_170 : decode zc_Mo_submit 170 = .ok (.iload_n 3, 1) := by decide +kernel
theorem zd_Mo_submit_171 : decode zc_Mo_submit 171 = .ok (.iastore, 1) := by decide +kernel
theorem zd_Mo_submit_172 : decode zc_Mo_submit 172 = .ok (.aload_n 0, 1) := by decide +kernel
theorem zd_Mo_submit_173 : decode zc_Mo_submit 173 = .ok (.getfield 68, 3) := by decide +kernel
theorem zd_Mo_submit_176 : decode zc_Mo_submit 176 = .ok (.iload 9, 2) := by decide +kernel
theorem zd_Mo_submit_178 : decode zc_Mo_submit 178 = .ok (.iload 4, 2) := by decide +kernel
theorem zd_Mo_submit_180 : decode zc_Mo_submit 180 = .ok (.iastore, 1) := by decide +kernel
theorem zd_Mo_submit_181 : decode zc_Mo_submit 181 = .ok (.aload_n 0, 1) := by decide +kernel
theorem zd_Mo_submit_182 : decode zc_Mo_submit 182 = .ok (.getfield 71, 3) := by decide +kernel
theorem zd_Mo_submit_185 : decode zc_Mo_submit 185 = .ok (.iload 9, 2) := by decide +kernel
theorem zd_Mo_submit_187 : decode zc_Mo_submit 187 = .ok (.iload 5, 2) := by decide +kernel
theorem zd_Mo_submit_189 : decode zc_Mo_submit 189 = .ok (.iastore, 1) := by decide +kernel
theorem zd_Mo_submit_190 : decode zc_Mo_submit 190 = .ok (.aload_n 0, 1) := by decide +kernel
theorem zd_Mo_submit_191 : decode zc_Mo_submit 191 = .ok (.getfield 74, 3) := by decide +kernel
theorem zd_Mo_submit_194 : decode zc_Mo_submit 194 = .ok (.iload 9, 2) := by decide +kernel
theorem zd_Mo_submit_196 : decode zc_Mo_submit 196 = .ok (.iload 6, 2) := by decide +kernel
theorem zd_Mo_submit_198 : decode zc_Mo_submit 198 = .ok (.iastore, 1) := by decide +kernel
theorem zd_Mo_submit_199 : decode zc_Mo_submit 199 = .ok (.aload_n 0, 1) := by decide +kernel
theorem zd_Mo_submit_200 : decode zc_Mo_submit 200 = .ok (.getfield 77, 3) := by decide +kernel
theorem zd_Mo_submit_203 : decode zc_Mo_submit 203 = .ok (.iload 9, 2) := by decide +kernel
theorem zd_Mo_submit_205 : decode zc_Mo_submit 205 = .ok (.iload 7, 2) := by decide +kernel
theorem zd_Mo_submit_207 : decode zc_Mo_submit 207 = .ok (.iastore, 1) := by decide +kernel
theorem zd_Mo_submit_208 : decode zc_Mo_submit 208 = .ok (.iconst 1, 1) := by decide +kernel
theorem zd_Mo_submit_209 : decode zc_Mo_submit 209 = .ok (.ireturn, 1) := by decide +kernel
theorem zd_Mo_state_0 : decode zc_Mo_state 0 = .ok (.aload_n 0, 1) := by decide +kernel
theorem zd_Mo_state_1 : decode zc_Mo_state 1 = .ok (.iload_n 1, 1) := by decide +kernel
theorem zd_Mo_state_2 : decode zc_Mo_state 2 = .ok (.invokevirtual 190, 3) := by decide +kernel
theorem zd_Mo_state_5 : decode zc_Mo_state 5 = .ok (.ifCond .eq 12, 3) := by decide +kernel
theorem zd_Mo_state_8 : decode zc_Mo_state 8 = .ok (.iload_n 2, 1) := by decide +kernel
theorem zd_Mo_state_9 : decode zc_Mo_state 9 = .ok (.iconst 0, 1) := by decide +kernel
theorem zd_Mo_state_10 : decode zc_Mo_state 10 = .ok (.iconst 5, 1) := by decide +kernel
theorem zd_Mo_state_11 : decode zc_Mo_state 11 = .ok (.invokestatic 105, 3) := by decide +kernel
theorem zd_Mo_state_14 : decode zc_Mo_state 14 = .ok (.ifCond .ne 5, 3) := by decide +kernel
theorem zd_Mo_state_17 : decode zc_Mo_state 17 = .ok (.iconst (-1), 1) := by decide +kernel
theorem zd_Mo_state_18 : decode zc_Mo_state 18 = .ok (.ireturn, 1) := by decide +kernel
theorem zd_Mo_state_19 : decode zc_Mo_state 19 = .ok (.iload_n 2, 1) := by decide +kernel
theorem zd_Mo_state_20 : decode zc_Mo_state 20 = .ok (.ifCond .eq 13, 3) := by decide +kernel
theorem zd_Mo_state_23 : decode zc_Mo_state 23 = .ok (.aload_n 0, 1) := by decide +kernel
theorem zd_Mo_state_24 : decode zc_Mo_state 24 = .ok (.getfield 26, 3) := by decide +kernel
theorem zd_Mo_state_27 : decode zc_Mo_state 27 = .ok (.iload_n 1, 1) := by decide +kernel
theorem zd_Mo_state_28 : decode zc_Mo_state 28 = .ok (.iaload, 1) := by decide +kernel
theorem zd_Mo_state_29 : decode zc_Mo_state 29 = .ok (.iconst 3, 1) := by decide +kernel
theorem zd_Mo_state_30 : decode zc_Mo_state 30 = .ok (.if_icmp .ne 18, 3) := by decide +kernel
theorem zd_Mo_state_33 : decode zc_Mo_state 33 = .ok (.iload_n 2, 1) := by decide +kernel
theorem zd_Mo_state_34 : decode zc_Mo_state 34 = .ok (.ifCond .ne 12, 3) := by decide +kernel
theorem zd_Mo_state_37 : decode zc_Mo_state 37 = .ok (.aload_n 0, 1) := by decide +kernel
theorem zd_Mo_state_38 : decode zc_Mo_state 38 = .ok (.getfield 26, 3) := by decide +kernel
theorem zd_Mo_state_41 : decode zc_Mo_state 41 = .ok (.iload_n 1, 1) := by decide +kernel
theorem zd_Mo_state_42 : decode zc_Mo_state 42 = .ok (.iaload, 1) := by decide +kernel
theorem zd_Mo_state_43 : decode zc_Mo_state 43 = .ok (.goto 4, 3) := by decide +kernel
theorem zd_Mo_state_46 : decode zc_Mo_state 46 = .ok (.iconst 0, 1) := by decide +kernel
theorem zd_Mo_state_47 : decode zc_Mo_state 47 = .ok (.ireturn, 1) := by decide +kernel
theorem zd_Mo_state_48 : decode zc_Mo_state 48 = .ok (.iload_n 2, 1) := by decide +kernel
theorem zd_Mo_state_49 : decode zc_Mo_state 49 = .ok (.iconst 1, 1) := by decide +kernel
theorem zd_Mo_state_50 : decode zc_Mo_state 50 = .ok (.if_icmp .ne 12, 3) := by decide +kernel
theorem zd_Mo_state_53 : decode zc_Mo_state 53 = .ok (.aload_n 0, 1) := by decide +kernel
theorem zd_Mo_state_54 : decode zc_Mo_state 54 = .ok (.getfield 29, 3) := by decide +kernel
theorem zd_Mo_state_57 : decode zc_Mo_state 57 = .ok (.iload_n 1, 1) := by decide +kernel
theorem zd_Mo_state_58 : decode zc_Mo_state 58 = .ok (.iaload, 1) := by decide +kernel
theorem zd_Mo_state_59 : decode zc_Mo_state 59 = .ok (.goto 50, 3) := by decide +kernel
theorem zd_Mo_state_62 : decode zc_Mo_state 62 = .ok (.iload_n 2, 1) := by decide +kernel
theorem zd_Mo_state_63 : decode zc_Mo_state 63 = .ok (.iconst 2, 1) := by decide +kernel
theorem zd_Mo_state_64 : decode zc_Mo_state 64 = .ok (.if_icmp .ne 12, 3) := by decide +kernel
theorem zd_Mo_state_67 : decode zc_Mo_state 67 = .ok (.aload_n 0, 1) := by decide +kernel
theorem zd_Mo_state_68 : decode zc_Mo_state 68 = .ok (.getfield 32, 3) := by decide +kernel
theorem zd_Mo_state_71 : decode zc_Mo_state 71 = .ok (.iload_n 1, 1) := by decide +kernel
theorem zd_Mo_state_72 : decode zc_Mo_state 72 = .ok (.iaload, 1) := by decide +kernel
theorem zd_Mo_state_73 : decode zc_Mo_state 73 = .ok (.goto 36, 3) := by decide +kernel
theorem zd_Mo_state_76 : decode zc_Mo_state 76 = .ok (.iload_n 2, 1) := by decide +kernel
theorem zd_Mo_state_77 : decode zc_Mo_state 77 = .ok (.iconst 3, 1) := by decide +kernel
theorem zd_Mo_state_78 : decode zc_Mo_state 78 = .ok (.if_icmp .ne 12, 3) := by decide +kernel
theorem zd_Mo_state_81 : decode zc_Mo_state 81 = .ok (.aload_n 0, 1) := by decide +kernel
theorem zd_Mo_state_82 : decode zc_Mo_state 82 = .ok (.getfield 35, 3) := by decide +kernel
theorem zd_Mo_state_85 : decode zc_Mo_state 85 = .ok (.iload_n 1, 1) := by decide +kernel
theorem zd_Mo_state_86 : decode zc_Mo_state 86 = .ok (.iaload, 1) := by decide +kernel
theorem zd_Mo_state_87 : decode zc_Mo_state 87 = .ok (.goto 22, 3) := by decide +kernel
theorem zd_Mo_state_90 : decode zc_Mo_state 90 = .ok (.iload_n 2, 1) := by decide +kernel
theorem zd_Mo_state_91 : decode zc_Mo_state 91 = .ok (.iconst 4, 1) := by decide +kernel
theorem zd_Mo_state_92 : decode zc_Mo_state 92 = .ok (.if_icmp .ne 11, 3) := by decide +kernel
theorem zd_Mo_state_95 : decode zc_Mo_state 95 = .ok (.aload_n 0, 1) := by decide +kernel
theorem zd_Mo_state_96 : decode zc_Mo_state 96 = .ok (.iload_n 1, 1) := by decide +kernel
theorem zd_Mo_state_97 : decode zc_Mo_state 97 = .ok (.invokevirtual 146, 3) := by decide +kernel
theorem zd_Mo_state_100 : decode zc_Mo_state 100 = .ok (.goto 9, 3) := by decide +kernel
theorem zd_Mo_state_103 : decode zc_Mo_state 103 = .ok (.aload_n 0, 1) := by decide +kernel
theorem zd_Mo_state_104 : decode zc_Mo_state 104 = .ok (.getfield 38, 3) := by decide +kernel
theorem zd_Mo_state_107 : decode zc_Mo_state 107 = .ok (.iload_n 1, 1) := by decide +kernel
theorem zd_Mo_state_108 : decode zc_Mo_state 108 = .ok (.iaload, 1) := by decide +kernel
theorem zd_Mo_state_109 : decode zc_Mo_state 109 = .ok (.ireturn, 1) := by decide +kernel
theorem zd_Mo_statements_0 : decode zc_Mo_statements 0 = .ok (.aload_n 0, 1) := by decide +kernel
theorem zd_Mo_statements_1 : decode zc_Mo_statements 1 = .ok (.iload_n 1, 1) := by decide +kernel
theorem zd_Mo_statements_2 : decode zc_Mo_statements 2 = .ok (.invokevirtual 190, 3) := by decide +kernel
theorem zd_Mo_statements_5 : decode zc_Mo_statements 5 = .ok (.ifCond .eq 31, 3) := by decide +kernel
theorem zd_Mo_statements_8 : decode zc_Mo_statements 8 = .ok (.iload_n 2, 1) := by decide +kernel
theorem zd_Mo_statements_9 : decode zc_Mo_statements 9 = .ok (.iconst 0, 1) := by decide +kernel
theorem zd_Mo_statements_10 : decode zc_Mo_statements 10 = .ok (.iconst 2, 1) := by decide +kernel
theorem zd_Mo_statements_11 : decode zc_Mo_statements 11 = .ok (.invokestatic 105, 3) := by decide +kernel
theorem zd_Mo_statements_14 : decode zc_Mo_statements 14 = .ok (.ifCond .eq 22, 3) := by decide +kernel
theorem zd_Mo_statements_17 : decode zc_Mo_statements 17 = .ok (.iload_n 3, 1) := by decide +kernel
theorem zd_Mo_statements_18 : decode zc_Mo_statements 18 = .ok (.iconst 0, 1) := by decide +kernel
theorem zd_Mo_statements_19 : decode zc_Mo_statements 19 = .ok (.iconst 2, 1) := by decide +kernel
theorem zd_Mo_statements_20 : decode zc_Mo_statements 20 = .ok (.invokestatic 105, 3) := by decide +kernel
theorem zd_Mo_statements_23 : decode zc_Mo_statements 23 = .ok (.ifCond .eq 13, 3) := by decide +kernel
theorem zd_Mo_statements_26 : decode zc_Mo_statements 26 = .ok (.iload 4, 2) := by decide +kernel
theorem zd_Mo_statements_28 : decode zc_Mo_statements 28 = .ok (.iconst 0, 1) := by decide +kernel
theorem zd_Mo_statements_29 : decode zc_Mo_statements 29 = .ok (.iconst 2, 1) := by decide +kernel
theorem zd_Mo_statements_30 : decode zc_Mo_statements 30 = .ok (.invokestatic 105, 3) := by decide +kernel
theorem zd_Mo_statements_33 : decode zc_Mo_statements 33 = .ok (.ifCond .ne 5, 3) := by decide +kernel
theorem zd_Mo_statements_36 : decode zc_Mo_statements 36 = .ok (.iconst (-1), 1) := by decide +kernel
theorem zd_Mo_statements_37 : decode zc_Mo_statements 37 = .ok (.ireturn, 1) := by decide +kernel
theorem zd_Mo_statements_38 : decode zc_Mo_statements 38 = .ok (.aload_n 0, 1) := by decide +kernel
theorem zd_Mo_statements_39 : decode zc_Mo_statements 39 = .ok (.getfield 41, 3) := by decide +kernel
theorem zd_Mo_statements_42 : decode zc_Mo_statements 42 = .ok (.bipush 27, 2) := by decide +kernel
theorem zd_Mo_statements_44 : decode zc_Mo_statements 44 = .ok (.iload_n 1, 1) := by decide +kernel
theorem zd_Mo_statements_45 : decode zc_Mo_statements 45 = .ok (.imul, 1) := by decide +kernel
theorem zd_Mo_statements_46 : decode zc_Mo_statements 46 = .ok (.bipush 9, 2) := by decide +kernel
theorem zd_Mo_statements_48 : decode zc_Mo_statements 48 = .ok (.iload_n 2, 1) := by decide +kernel
theorem zd_Mo_statements_49 : decode zc_Mo_statements 49 = .ok (.imul, 1) := by decide +kernel
theorem zd_Mo_statements_50 : decode zc_Mo_statements 50 = .ok (.iadd, 1) := by decide +kernel
theorem zd_Mo_statements_51 : decode zc_Mo_statements 51 = .ok (.iconst 3, 1) := by decide +kernel
theorem zd_Mo_statements_52 : decode zc_Mo_statements 52 = .ok (.iload_n 3, 1) := by decide +kernel
theorem zd_Mo_statements_53 : decode zc_Mo_statements 53 = .ok (.imul, 1) := by decide +kernel
theorem zd_Mo_statements_54 : decode zc_Mo_statements 54 = .ok (.iadd, 1) := by decide +kernel
theorem zd_Mo_statements_55 : decode zc_Mo_statements 55 = .ok (.iload 4, 2) := by decide +kernel
theorem zd_Mo_statements_57 : decode zc_Mo_statements 57 = .ok (.iadd, 1) := by decide +kernel
theorem zd_Mo_statements_58 : decode zc_Mo_statements 58 = .ok (.iaload, 1) := by decide +kernel
theorem zd_Mo_statements_59 : decode zc_Mo_statements 59 = .ok (.ireturn, 1) := by decide +kernel
theorem zd_Mo_value_0 : decode zc_Mo_value 0 = .ok (.aload_n 0, 1) := by decide +kernel
theorem zd_Mo_value_1 : decode zc_Mo_value 1 = .ok (.iload_n 1, 1) := by decide +kernel
theorem zd_Mo_value_2 : decode zc_Mo_value 2 = .ok (.invokevirtual 190, 3) := by decide +kernel
theorem zd_Mo_value_5 : decode zc_Mo_value 5 = .ok (.ifCond .eq 25, 3) := by decide +kernel
theorem zd_Mo_value_8 : decode zc_Mo_value 8 = .ok (.iload_n 2, 1) := by decide +kernel
theorem zd_Mo_value_9 : decode zc_Mo_value 9 = .ok (.iconst 0, 1) := by decide +kernel
theorem zd_Mo_value_10 : decode zc_Mo_value 10 = .ok (.iconst 2, 1) := by decide +kernel
theorem zd_Mo_value_11 : decode zc_Mo_value 11 = .ok (.invokestatic 105, 3) := by decide +kernel
theorem zd_Mo_value_14 : decode zc_Mo_value 14 = .ok (.ifCond .eq 16, 3) := by decide +kernel
theorem zd_Mo_value_17 : decode zc_Mo_value 17 = .ok (.aload_n 0, 1) := by decide +kernel
theorem zd_Mo_value_18 : decode zc_Mo_value 18 = .ok (.getfield 47, 3) := by decide +kernel
theorem zd_Mo_value_21 : decode zc_Mo_value 21 = .ok (.iconst 3, 1) := by decide +kernel
theorem zd_Mo_value_22 : decode zc_Mo_value 22 = .ok (.iload_n 1, 1) := by decide +kernel
theorem zd_Mo_value_23 : decode zc_Mo_value 23 = .ok (.imul, 1) := by decide +kernel
theorem zd_Mo_value_24 : decode zc_Mo_value 24 = .ok (.iload_n 2, 1) := by decide +kernel
theorem zd_Mo_value_25 : decode zc_Mo_value 25 = .ok (.iadd, 1) := by decide +kernel
theorem zd_Mo_value_26 : decode zc_Mo_value 26 = .ok (.iaload, 1) := by decide +kernel
theorem zd_Mo_value_27 : decode zc_Mo_value 27 = .ok (.goto 4, 3) := by decide +kernel
theorem zd_Mo_value_30 : decode zc_Mo_value 30 = .ok (.iconst (-1), 1) := by decide +kernel
theorem zd_Mo_value_31 : decode zc_Mo_value 31 = .ok (.ireturn, 1) := by decide +kernel
theorem zd_Mo_header_0 : decode zc_Mo_header 0 = .ok (.aload_n 0, 1) := by decide +kernel
theorem zd_Mo_header_1 : decode zc_Mo_header 1 = .ok (.iload_n 1, 1) := by decide +kernel
theorem zd_Mo_header_2 : decode zc_Mo_header 2 = .ok (.invokevirtual 190, 3) := by decide +kernel
theorem zd_Mo_header_5 : decode zc_Mo_header 5 = .ok (.ifCond .eq 12, 3) := by decide +kernel
theorem zd_Mo_header_8 : decode zc_Mo_header 8 = .ok (.aload_n 0, 1) := by decide +kernel
theorem zd_Mo_header_9 : decode zc_Mo_header 9 = .ok (.getfield 50, 3) := by decide +kernel
theorem zd_Mo_header_12 : decode zc_Mo_header 12 = .ok (.iload_n 1, 1) := by decide +kernel
theorem zd_Mo_header_13 : decode zc_Mo_header 13 = .ok (.iaload, 1) := by decide +kernel
theorem zd_Mo_header_14 : decode zc_Mo_header 14 = .ok (.goto 4, 3) := by decide +kernel
theorem zd_Mo_header_17 : decode zc_Mo_header 17 = .ok (.iconst 0, 1) := by decide +kernel
theorem zd_Mo_header_18 : decode zc_Mo_header 18 = .ok (.ireturn, 1) := by decide +kernel
theorem zd_Mo_balance_0 : decode zc_Mo_balance 0 = .ok (.aload_n 0, 1) := by decide +kernel
theorem zd_Mo_balance_1 : decode zc_Mo_balance 1 = .ok (.iload_n 1, 1) := by decide +kernel
theorem zd_Mo_balance_2 : decode zc_Mo_balance 2 = .ok (.invokevirtual 190, 3) := by decide +kernel
theorem zd_Mo_balance_5 : decode zc_Mo_balance 5 = .ok (.ifCond .eq 39, 3) := by decide +kernel
theorem zd_Mo_balance_8 : decode zc_Mo_balance 8 = .ok (.iload_n 2, 1) := by decide +kernel
theorem zd_Mo_balance_9 : decode zc_Mo_balance 9 = .ok (.iconst 0, 1) := by decide +kernel
theorem zd_Mo_balance_10 : decode zc_Mo_balance 10 = .ok (.iconst 3, 1) := by decide +kernel
theorem zd_Mo_balance_11 : decode zc_Mo_balance 11 = .ok (.invokestatic 105, 3) := by decide +kernel
theorem zd_Mo_balance_14 : decode zc_Mo_balance 14 = .ok (.ifCond .eq 30, 3) := by decide +kernel
theorem zd_Mo_balance_17 : decode zc_Mo_balance 17 = .ok (.iload_n 3, 1) := by decide +kernel
theorem zd_Mo_balance_18 : decode zc_Mo_balance 18 = .ok (.iconst 0, 1) := by decide +kernel
theorem zd_Mo_balance_19 : decode zc_Mo_balance 19 = .ok (.iconst 1, 1) := by decide +kernel
theorem zd_Mo_balance_20 : decode zc_Mo_balance 20 = .ok (.invokestatic 105, 3) := by decide +kernel
theorem zd_Mo_balance_23 : decode zc_Mo_balance 23 = .ok (.ifCond .eq 21, 3) := by decide +kernel
theorem zd_Mo_balance_26 : decode zc_Mo_balance 26 = .ok (.aload_n 0, 1) := by decide +kernel
theorem zd_Mo_balance_27 : decode zc_Mo_balance 27 = .ok (.getfield 80, 3) := by decide +kernel
theorem zd_Mo_balance_30 : decode zc_Mo_balance 30 = .ok (.bipush 8, 2) := by decide +kernel
theorem zd_Mo_balance_32 : decode zc_Mo_balance 32 = .ok (.iload_n 1, 1) := by decide +kernel
theorem zd_Mo_balance_33 : decode zc_Mo_balance 33 = .ok (.imul, 1) := by decide +kernel
theorem zd_Mo_balance_34 : decode zc_Mo_balance 34 = .ok (.iconst 2, 1) := by decide +kernel
theorem zd_Mo_balance_35 : decode zc_Mo_balance 35 = .ok (.iload_n 2, 1) := by decide +kernel
theorem zd_Mo_balance_36 : decode zc_Mo_balance 36 = .ok (.imul, 1) := by decide +kernel
theorem zd_Mo_balance_37 : decode zc_Mo_balance 37 = .ok (.iadd, 1) := by decide +kernel
theorem zd_Mo_balance_38 : decode zc_Mo_balance 38 = .ok (.iload_n 3, 1) := by decide +kernel
theorem zd_Mo_balance_39 : decode zc_Mo_balance 39 = .ok (.iadd, 1) := by decide +kernel
theorem zd_Mo_balance_40 : decode zc_Mo_balance 40 = .ok (.iaload, 1) := by decide +kernel
theorem zd_Mo_balance_41 : decode zc_Mo_balance 41 = .ok (.goto 4, 3) := by decide +kernel
theorem zd_Mo_balance_44 : decode zc_Mo_balance 44 = .ok (.iconst (-1), 1) := by decide +kernel
theorem zd_Mo_balance_45 : decode zc_Mo_balance 45 = .ok (.ireturn, 1) := by decide +kernel
theorem zd_Mo_offer_0 : decode zc_Mo_offer 0 = .ok (.aload_n 0, 1) := by decide +kernel
theorem zd_Mo_offer_1 : decode zc_Mo_offer 1 = .ok (.iload_n 1, 1) := by decide +kernel
theorem zd_Mo_offer_2 : decode zc_Mo_offer 2 = .ok (.invokevirtual 190, 3) := by decide +kernel
theorem zd_Mo_offer_5 : decode zc_Mo_offer 5 = .ok (.ifCond .eq 19, 3) := by decide +kernel
theorem zd_Mo_offer_8 : decode zc_Mo_offer 8 = .ok (.iload_n 2, 1) := by decide +kernel
theorem zd_Mo_offer_9 : decode zc_Mo_offer 9 = .ok (.iconst 0, 1) := by decide +kernel
theorem zd_Mo_offer_10 : decode zc_Mo_offer 10 = .ok (.aload_n 0, 1) := by decide +kernel
theorem zd_Mo_offer_11 : decode zc_Mo_offer 11 = .ok (.getfield 83, 3) := by decide +kernel
theorem zd_Mo_offer_14 : decode zc_Mo_offer 14 = .ok (.iload_n 1, 1) := by decide +kernel
theorem zd_Mo_offer_15 : decode zc_Mo_offer 15 = .ok (.iaload, 1) := by decide +kernel
theorem zd_Mo_offer_16 : decode zc_Mo_offer 16 = .ok (.iconst 1, 1) := by decide +kernel
theorem zd_Mo_offer_17 : decode zc_Mo_offer 17 = .ok (.isub, 1) := by decide +kernel
theorem zd_Mo_offer_18 : decode zc_Mo_offer 18 = .ok (.invokestatic 105, 3) := by decide +kernel
theorem zd_Mo_offer_21 : decode zc_Mo_offer 21 = .ok (.ifCond .ne 5, 3) := by decide +kernel
theorem zd_Mo_offer_24 : decode zc_Mo_offer 24 = .ok (.iconst (-1), 1) := by decide +kernel
theorem zd_Mo_offer_25 : decode zc_Mo_offer 25 = .ok (.ireturn, 1) := by decide +kernel
theorem zd_Mo_offer_26 : decode zc_Mo_offer 26 = .ok (.bipush 9, 2) := by decide +kernel
theorem zd_Mo_offer_28 : decode zc_Mo_offer 28 = .ok (.iload_n 1, 1) := by decide +kernel
theorem zd_Mo_offer_29 : decode zc_Mo_offer 29 = .ok (.imul, 1) := by decide +kernel
theorem zd_Mo_offer_30 : decode zc_Mo_offer 30 = .ok (.iload_n 2, 1) := by decide +kernel
theorem zd_Mo_offer_31 : decode zc_Mo_offer 31 = .ok (.iadd, 1) := by decide +kernel
theorem zd_Mo_offer_32 : decode zc_Mo_offer 32 = .ok (.istore_n 3, 1) := by decide +kernel
theorem zd_Mo_offer_33 : decode zc_Mo_offer 33 = .ok (.aload_n 0, 1) := by decide +kernel
theorem zd_Mo_offer_34 : decode zc_Mo_offer 34 = .ok (.getfield 86, 3) := by decide +kernel
theorem zd_Mo_offer_37 : decode zc_Mo_offer 37 = .ok (.iload_n 3, 1) := by decide +kernel
theorem zd_Mo_offer_38 : decode zc_Mo_offer 38 = .ok (.iaload, 1) := by decide +kernel
theorem zd_Mo_offer_39 : decode zc_Mo_offer 39 = .ok (.iconst 4, 1) := by decide +kernel
theorem zd_Mo_offer_40 : decode zc_Mo_offer 40 = .ok (.aload_n 0, 1) := by decide +kernel
theorem zd_Mo_offer_41 : decode zc_Mo_offer 41 = .ok (.getfield 89, 3) := by decide +kernel
theorem zd_Mo_offer_44 : decode zc_Mo_offer 44 = .ok (.iload_n 3, 1) := by decide +kernel
theorem zd_Mo_offer_45 : decode zc_Mo_offer 45 = .ok (.iaload, 1) := by decide +kernel
theorem zd_Mo_offer_46 : decode zc_Mo_offer 46 = .ok (.imul, 1) := by decide +kernel
theorem zd_Mo_offer_47 : decode zc_Mo_offer 47 = .ok (.iadd, 1) := by decide +kernel
theorem zd_Mo_offer_48 : decode zc_Mo_offer 48 = .ok (.bipush 16, 2) := by decide +kernel
theorem zd_Mo_offer_50 : decode zc_Mo_offer 50 = .ok (.aload_n 0, 1) := by decide +kernel
theorem zd_Mo_offer_51 : decode zc_Mo_offer 51 = .ok (.getfield 92, 3) := by decide +kernel
theorem zd_Mo_offer_54 : decode zc_Mo_offer 54 = .ok (.iload_n 3, 1) := by decide +kernel
theorem zd_Mo_offer_55 : decode zc_Mo_offer 55 = .ok (.iaload, 1) := by decide +kernel
theorem zd_Mo_offer_56 : decode zc_Mo_offer 56 = .ok (.imul, 1) := by decide +kernel
theorem zd_Mo_offer_57 : decode zc_Mo_offer 57 = .ok (.iadd, 1) := by decide +kernel
theorem zd_Mo_offer_58 : decode zc_Mo_offer 58 = .ok (.sipush 256, 3) := by decide +kernel
theorem zd_Mo_offer_61 : decode zc_Mo_offer 61 = .ok (.aload_n 0, 1) := by decide +kernel
theorem zd_Mo_offer_62 : decode zc_Mo_offer 62 = .ok (.getfield 95, 3) := by decide +kernel
theorem zd_Mo_offer_65 : decode zc_Mo_offer 65 = .ok (.iload_n 3, 1) := by decide +kernel
theorem zd_Mo_offer_66 : decode zc_Mo_offer 66 = .ok (.iaload, 1) := by decide +kernel
theorem zd_Mo_offer_67 : decode zc_Mo_offer 67 = .ok (.imul, 1) := by decide +kernel
theorem zd_Mo_offer_68 : decode zc_Mo_offer 68 = .ok (.iadd, 1) := by decide +kernel
theorem zd_Mo_offer_69 : decode zc_Mo_offer 69 = .ok (.ireturn, 1) := by decide +kernel
theorem zd_Law_cell_0 : decode zc_Law_cell 0 = .ok (.iload_n 1, 1) := by decide +kernel
theorem zd_Law_cell_1 : decode zc_Law_cell 1 = .ok (.aload_n 0, 1) := by decide +kernel
theorem zd_Law_cell_2 : decode zc_Law_cell 2 = .ok (.arraylength, 1) := by decide +kernel
theorem zd_Law_cell_3 : decode zc_Law_cell 3 = .ok (.if_icmp .ge 9, 3) := by decide +kernel
theorem zd_Law_cell_6 : decode zc_Law_cell 6 = .ok (.aload_n 0, 1) := by decide +kernel
theorem zd_Law_cell_7 : decode zc_Law_cell 7 = .ok (.iload_n 1, 1) := by decide +kernel
theorem zd_Law_cell_8 : decode zc_Law_cell 8 = .ok (.iaload, 1) := by decide +kernel
theorem zd_Law_cell_9 : decode zc_Law_cell 9 = .ok (.goto 4, 3) := by decide +kernel
theorem zd_Law_cell_12 : decode zc_Law_cell 12 = .ok (.iconst 0, 1) := by decide +kernel
theorem zd_Law_cell_13 : decode zc_Law_cell 13 = .ok (.ireturn, 1) := by decide +kernel
theorem zd_Law_law_0 : decode code 0 = .ok (.new 7, 3) := by decide +kernel
theorem zd_Law_law_3 : decode code 3 = .ok (.dup, 1) := by decide +kernel
theorem zd_Law_law_4 : decode code 4 = .ok (.aload_n 0, 1) := by decide +kernel
theorem zd_Law_law_5 : decode code 5 = .ok (.iconst 0, 1) := by decide +kernel
theorem zd_Law_law_6 : decode code 6 = .ok (.invokestatic 9, 3) := by decide +kernel
theorem zd_Law_law_9 : decode code 9 = .ok (.invokespecial 15, 3) := by decide +kernel
theorem zd_Law_law_12 : decode code 12 = .ok (.astore_n 1, 1) := by decide +kernel
theorem zd_Law_law_13 : decode code 13 = .ok (.new 18, 3) := by decide +kernel
theorem zd_Law_law_16 : decode code 16 = .ok (.dup, 1) := by decide +kernel
theorem zd_Law_law_17 : decode code 17 = .ok (.aload_n 0, 1) := by decide +kernel
theorem zd_Law_law_18 : decode code 18 = .ok (.iconst 0, 1) := by decide +kernel
theorem zd_Law_law_19 : decode code 19 = .ok (.invokestatic 9, 3) := by decide +kernel
theorem zd_Law_law_22 : decode code 22 = .ok (.invokespecial 20, 3) := by decide +kernel
theorem zd_Law_law_25 : decode code 25 = .ok (.astore_n 2, 1) := by decide +kernel
theorem zd_Law_law_26 : decode code 26 = .ok (.iconst 1, 1) := by decide +kernel
theorem zd_Law_law_27 : decode code 27 = .ok (.istore_n 3, 1) := by decide +kernel
theorem zd_Law_law_28 : decode code 28 = .ok (.iload_n 3, 1) := by decide +kernel
theorem zd_Law_law_29 : decode code 29 = .ok (.aload_n 0, 1) := by decide +kernel
theorem zd_Law_law_30 : decode code 30 = .ok (.arraylength, 1) := by decide +kernel
theorem zd_Law_law_31 : decode code 31 = .ok (.bipush 8, 2) := by decide +kernel
theorem zd_Law_law_33 : decode code 33 = .ok (.isub, 1) := by decide +kernel
theorem zd_Law_law_34 : decode code 34 = .ok (.if_icmp .gt 650, 3) := by decide +kernel
theorem zd_Law_law_37 : decode code 37 = .ok (.aload_n 0, 1) := by decide +kernel
theorem zd_Law_law_38 : decode code 38 = .ok (.iload_n 3, 1) := by decide +kernel
theorem zd_Law_law_39 : decode code 39 = .ok (.iaload, 1) := by decide +kernel
theorem zd_Law_law_40 : decode code 40 = .ok (.bipush 15, 2) := by decide +kernel
theorem zd_Law_law_42 : decode code 42 = .ok (.iand, 1) := by decide +kernel
theorem zd_Law_law_43 : decode code 43 = .ok (.tableswitch 635 0 13 #[69, 132, 219, 252, 275, 308, 371, 404, 417, 450, 503, 536, 559, 602], 69) := by decide +kernel
theorem zd_Law_law_112 : decode code 112 = .ok (.aload_n 1, 1) := by decide +kernel
theorem zd_Law_law_113 : decode code 113 = .ok (.aload_n 0, 1) := by decide +kernel
theorem zd_Law_law_114 : decode code 114 = .ok (.iload_n 3, 1) := by decide +kernel
theorem zd_Law_law_115 : decode code 115 = .ok (.iconst 1, 1) := by decide +kernel
theorem zd_Law_law_116 : decode code 116 = .ok (.iadd, 1) := by decide +kernel
theorem zd_Law_law_117 : decode code 117 = .ok (.iaload, 1) := by decide +kernel
theorem zd_Law_law_118 : decode code 118 = .ok (.aload_n 0, 1) := by decide +kernel
theorem zd_Law_law_119 : decode code 119 = .ok (.iload_n 3, 1) := by decide +kernel
theorem zd_Law_law_120 : decode code 120 = .ok (.iconst 2, 1) := by decide +kernel
theorem zd_Law_law_121 : decode code 121 = .ok (.iadd, 1) := by decide +kernel
theorem zd_Law_law_122 : decode code 122 = .ok (.iaload, 1) := by decide +kernel
theorem zd_Law_law_123 : decode code 123 = .ok (.aload_n 0, 1) := by decide +kernel
theorem zd_Law_law_124 : decode code 124 = .ok (.iload_n 3, 1) := by decide +kernel
theorem zd_Law_law_125 : decode code 125 = .ok (.iconst 3, 1) := by decide +kernel
theorem zd_Law_law_126 : decode code 126 = .ok (.iadd, 1) := by decide +kernel
theorem zd_Law_law_127 : decode code 127 = .ok (.iaload, 1) := by decide +kernel
theorem zd_Law_law_128 : decode code 128 = .ok (.aload_n 0, 1) := by decide +kernel
theorem zd_Law_law_129 : decode code 129 = .ok (.iload_n 3, 1) := by decide +kernel
theorem zd_Law_law_130 : decode code 130 = .ok (.iconst 4, 1) := by decide +kernel
theorem zd_Law_law_131 : decode code 131 = .ok (.iadd, 1) := by decide +kernel
theorem zd_Law_law_132 : decode code 132 = .ok (.iaload, 1) := by decide +kernel
theorem zd_Law_law_133 : decode code 133 = .ok (.aload_n 0, 1) := by decide +kernel
theorem zd_Law_law_134 : decode code 134 = .ok (.iload_n 3, 1) := by decide +kernel
theorem zd_Law_law_135 : decode code 135 = .ok (.iconst 5, 1) := by decide +kernel
theorem zd_Law_law_136 : decode code 136 = .ok (.iadd, 1) := by decide +kernel
theorem zd_Law_law_137 : decode code 137 = .ok (.iaload, 1) := by decide +kernel
theorem zd_Law_law_138 : decode code 138 = .ok (.invokevirtual 21, 3) := by decide +kernel
theorem zd_Law_law_141 : decode code 141 = .ok (.aload_n 2, 1) := by decide +kernel
theorem zd_Law_law_142 : decode code 142 = .ok (.aload_n 0, 1) := by decide +kernel
theorem zd_Law_law_143 : decode code 143 = .ok (.iload_n 3, 1) := by decide +kernel
theorem zd_Law_law_144 : decode code 144 = .ok (.iconst 1, 1) := by decide +kernel
theorem zd_Law_law_145 : decode code 145 = .ok (.iadd, 1) := by decide +kernel
theorem zd_Law_law_146 : decode code 146 = .ok (.iaload, 1) := by decide +kernel
theorem zd_Law_law_147 : decode code 147 = .ok (.aload_n 0, 1) := by decide +kernel
theorem zd_Law_law_148 : decode code 148 = .ok (.iload_n 3, 1) := by decide +kernel
theorem zd_Law_law_149 : decode code 149 = .ok (.iconst 2, 1) := by decide +kernel
theorem zd_Law_law_150 : decode code 150 = .ok (.iadd, 1) := by decide +kernel
theorem zd_Law_law_151 : decode code 151 = .ok (.iaload, 1) := by decide +kernel
theorem zd_Law_law_152 : decode code 152 = .ok (.aload_n 0, 1) := by decide +kernel
theorem zd_Law_law_153 : decode code 153 = .ok (.iload_n 3, 1) := by decide +kernel
theorem zd_Law_law_154 : decode code 154 = .ok (.iconst 3, 1) := by decide +kernel
theorem zd_Law_law_155 : decode code 155 = .ok (.iadd, 1) := by decide +kernel
theorem zd_Law_law_156 : decode code 156 = .ok (.iaload, 1) := by decide +kernel
theorem zd_Law_law_157 : decode code 157 = .ok (.aload_n 0, 1) := by decide +kernel
theorem zd_Law_law_158 : decode code 158 = .ok (.iload_n 3, 1) := by decide +kernel
theorem zd_Law_law_159 : decode code 159 = .ok (.iconst 4, 1) := by decide +kernel
theorem zd_Law_law_160 : decode code 160 = .ok (.iadd, 1) := by decide +kernel
theorem zd_Law_law_161 : decode code 161 = .ok (.iaload, 1) := by decide +kernel
theorem zd_Law_law_162 : decode code 162 = .ok (.aload_n 0, 1) := by decide +kernel
theorem zd_Law_law_163 : decode code 163 = .ok (.iload_n 3, 1) := by decide +kernel
theorem zd_Law_law_164 : decode code 164 = .ok (.iconst 5, 1) := by decide +kernel
theorem zd_Law_law_165 : decode code 165 = .ok (.iadd, 1) := by decide +kernel
theorem zd_Law_law_166 : decode code 166 = .ok (.iaload, 1) := by decide +kernel
theorem zd_Law_law_167 : decode code 167 = .ok (.invokevirtual 25, 3) := by decide +kernel
theorem zd_Law_law_170 : decode code 170 = .ok (.if_icmp .eq 508, 3) := by decide +kernel
theorem zd_Law_law_173 : decode code 173 = .ok (.iconst 0, 1) := by decide +kernel
theorem zd_Law_law_174 : decode code 174 = .ok (.ireturn, 1) := by decide +kernel
theorem zd_Law_law_175 : decode code 175 = .ok (.aload_n 1, 1) := by decide +kernel
theorem zd_Law_law_176 : decode code 176 = .ok (.aload_n 0, 1) := by decide +kernel
theorem zd_Law_law_177 : decode code 177 = .ok (.iload_n 3, 1) := by decide +kernel
theorem zd_Law_law_178 : decode code 178 = .ok (.iconst 1, 1) := by decide +kernel
theorem zd_Law_law_179 : decode code 179 = .ok (.iadd, 1) := by decide +kernel
theorem zd_Law_law_180 : decode code 180 = .ok (.iaload, 1) := by decide +kernel
theorem zd_Law_law_181 : decode code 181 = .ok (.aload_n 0, 1) := by decide +kernel
theorem zd_Law_law_182 : decode code 182 = .ok (.iload_n 3, 1) := by decide +kernel
theorem zd_Law_law_183 : decode code 183 = .ok (.iconst 2, 1) := by decide +kernel
theorem zd_Law_law_184 : decode code 184 = .ok (.iadd, 1) := by decide +kernel
theorem zd_Law_law_185 : decode code 185 = .ok (.iaload, 1) := by decide +kernel
theorem zd_Law_law_186 : decode code 186 = .ok (.aload_n 0, 1) := by decide +kernel
theorem zd_Law_law_187 : decode code 187 = .ok (.iload_n 3, 1) := by decide +kernel
theorem zd_Law_law_188 : decode code 188 = .ok (.iconst 3, 1) := by decide +kernel
theorem zd_Law_law_189 : decode code 189 = .ok (.iadd, 1) := by decide +kernel
theorem zd_Law_law_190 : decode code 190 = .ok (.iaload, 1) := by decide +kernel
theorem zd_Law_law_191 : decode code 191 = .ok (.aload_n 0, 1) := by decide +kernel
theorem zd_Law_law_192 : decode code 192 = .ok (.iload_n 3, 1) := by decide +kernel
theorem zd_Law_law_193 : decode code 193 = .ok (.iconst 4, 1) := by decide +kernel
theorem zd_Law_law_194 : decode code 194 = .ok (.iadd, 1) := by decide +kernel
theorem zd_Law_law_195 : decode code 195 = .ok (.iaload, 1) := by decide +kernel
theorem zd_Law_law_196 : decode code 196 = .ok (.aload_n 0, 1) := by decide +kernel
theorem zd_Law_law_197 : decode code 197 = .ok (.iload_n 3, 1) := by decide +kernel
theorem zd_Law_law_198 : decode code 198 = .ok (.iconst 5, 1) := by decide +kernel
theorem zd_Law_law_199 : decode code 199 = .ok (.iadd, 1) := by decide +kernel
theorem zd_Law_law_200 : decode code 200 = .ok (.iaload, 1) := by decide +kernel
theorem zd_Law_law_201 : decode code 201 = .ok (.aload_n 0, 1) := by decide +kernel
theorem zd_Law_law_202 : decode code 202 = .ok (.iload_n 3, 1) := by decide +kernel
theorem zd_Law_law_203 : decode code 203 = .ok (.bipush 6, 2) := by decide +kernel
theorem zd_Law_law_205 : decode code 205 = .ok (.iadd, 1) := by decide +kernel
theorem zd_Law_law_206 : decode code 206 = .ok (.iaload, 1) := by decide +kernel
theorem zd_Law_law_207 : decode code 207 = .ok (.aload_n 0, 1) := by decide +kernel
theorem zd_Law_law_208 : decode code 208 = .ok (.iload_n 3, 1) := by decide +kernel
theorem zd_Law_law_209 : decode code 209 = .ok (.bipush 7, 2) := by decide +kernel
theorem zd_Law_law_211 : decode code 211 = .ok (.iadd, 1) := by decide +kernel
theorem zd_Law_law_212 : decode code 212 = .ok (.iaload, 1) := by decide +kernel
theorem zd_Law_law_213 : decode code 213 = .ok (.invokevirtual 26, 3) := by decide +kernel
theorem zd_Law_law_216 : decode code 216 = .ok (.aload_n 2, 1) := by decide +kernel
theorem zd_Law_law_217 : decode code 217 = .ok (.aload_n 0, 1) := by decide +kernel
theorem zd_Law_law_218 : decode code 218 = .ok (.iload_n 3, 1) := by decide +kernel
theorem zd_Law_law_219 : decode code 219 = .ok (.iconst 1, 1) := by decide +kernel
theorem zd_Law_law_220 : decode code 220 = .ok (.iadd, 1) := by decide +kernel
theorem zd_Law_law_221 : decode code 221 = .ok (.iaload, 1) := by decide +kernel
theorem zd_Law_law_222 : decode code 222 = .ok (.aload_n 0, 1) := by decide +kernel
theorem zd_Law_law_223 : decode code 223 = .ok (.iload_n 3, 1) := by decide +kernel
theorem zd_Law_law_224 : decode code 224 = .ok (.iconst 2, 1) := by decide +kernel
theorem zd_Law_law_225 : decode code 225 = .ok (.iadd, 1) := by decide +kernel
theorem zd_Law_law_226 : decode code 226 = .ok (.iaload, 1) := by decide +kernel
theorem zd_Law_law_227 : decode code 227 = .ok (.aload_n 0, 1) := by decide +kernel
theorem zd_Law_law_228 : decode code 228 = .ok (.iload_n 3, 1) := by decide +kernel
theorem zd_Law_law_229 : decode code 229 = .ok (.iconst 3, 1) := by decide +kernel
theorem zd_Law_law_230 : decode code 230 = .ok (.iadd, 1) := by decide +kernel
theorem zd_Law_law_231 : decode code 231 = .ok (.iaload, 1) := by decide +kernel
theorem zd_Law_law_232 : decode code 232 = .ok (.aload_n 0, 1) := by decide +kernel
theorem zd_Law_law_233 : decode code 233 = .ok (.iload_n 3, 1) := by decide +kernel
theorem zd_Law_law_234 : decode code 234 = .ok (.iconst 4, 1) := by decide +kernel
theorem zd_Law_law_235 : decode code 235 = .ok (.iadd, 1) := by decide +kernel
theorem zd_Law_law_236 : decode code 236 = .ok (.iaload, 1) := by decide +kernel
theorem zd_Law_law_237 : decode code 237 = .ok (.aload_n 0, 1) := by decide +kernel
theorem zd_Law_law_238 : decode code 238 = .ok (.iload_n 3, 1) := by decide +kernel
theorem zd_Law_law_239 : decode code 239 = .ok (.iconst 5, 1) := by decide +kernel
theorem zd_Law_law_240 : decode code 240 = .ok (.iadd, 1) := by decide +kernel
theorem zd_Law_law_241 : decode code 241 = .ok (.iaload, 1) := by decide +kernel
theorem zd_Law_law_242 : decode code 242 = .ok (.aload_n 0, 1) := by decide +kernel
theorem zd_Law_law_243 : decode code 243 = .ok (.iload_n 3, 1) := by decide +kernel
theorem zd_Law_law_244 : decode code 244 = .ok (.bipush 6, 2) := by decide +kernel
theorem zd_Law_law_246 : decode code 246 = .ok (.iadd, 1) := by decide +kernel
theorem zd_Law_law_247 : decode code 247 = .ok (.iaload, 1) := by decide +kernel
theorem zd_Law_law_248 : decode code 248 = .ok (.aload_n 0, 1) := by decide +kernel
theorem zd_Law_law_249 : decode code 249 = .ok (.iload_n 3, 1) := by decide +kernel
theorem zd_Law_law_250 : decode code 250 = .ok (.bipush 7, 2) := by decide +kernel
theorem zd_Law_law_252 : decode code 252 = .ok (.iadd, 1) := by decide +kernel
theorem zd_Law_law_253 : decode code 253 = .ok (.iaload, 1) := by decide +kernel
theorem zd_Law_law_254 : decode code 254 = .ok (.invokevirtual 30, 3) := by decide +kernel
theorem zd_Law_law_257 : decode code 257 = .ok (.if_icmp .eq 421, 3) := by decide +kernel
theorem zd_Law_law_260 : decode code 260 = .ok (.iconst 0, 1) := by decide +kernel
theorem zd_Law_law_261 : decode code 261 = .ok (.ireturn, 1) := by decide +kernel
theorem zd_Law_law_262 : decode code 262 = .ok (.aload_n 1, 1) := by decide +kernel
theorem zd_Law_law_263 : decode code 263 = .ok (.aload_n 0, 1) := by decide +kernel
theorem zd_Law_law_264 : decode code 264 = .ok (.iload_n 3, 1) := by decide +kernel
theorem zd_Law_law_265 : decode code 265 = .ok (.iconst 1, 1) := by decide +kernel
theorem zd_Law_law_266 : decode code 266 = .ok (.iadd, 1) := by decide +kernel
theorem zd_Law_law_267 : decode code 267 = .ok (.iaload, 1) := by decide +kernel
theorem zd_Law_law_268 : decode code 268 = .ok (.aload_n 0, 1) := by decide +kernel
theorem zd_Law_law_269 : decode code 269 = .ok (.iload_n 3, 1) := by decide +kernel
theorem zd_Law_law_270 : decode code 270 = .ok (.iconst 2, 1) := by decide +kernel
theorem zd_Law_law_271 : decode code 271 = .ok (.iadd, 1) := by decide +kernel
theorem zd_Law_law_272 : decode code 272 = .ok (.iaload, 1) := by decide +kernel
theorem zd_Law_law_273 : decode code 273 = .ok (.invokevirtual 31, 3) := by decide +kernel
theorem zd_Law_law_276 : decode code 276 = .ok (.aload_n 2, 1) := by decide +kernel
theorem zd_Law_law_277 : decode code 277 = .ok (.aload_n 0, 1) := by decide +kernel
theorem zd_Law_law_278 : decode code 278 = .ok (.iload_n 3, 1) := by decide +kernel
theorem zd_Law_law_279 : decode code 279 = .ok (.iconst 1, 1) := by decide +kernel
theorem zd_Law_law_280 : decode code 280 = .ok (.iadd, 1) := by decide +kernel
theorem zd_Law_law_281 : decode code 281 = .ok (.iaload, 1) := by decide +kernel
theorem zd_Law_law_282 : decode code 282 = .ok (.aload_n 0, 1) := by decide +kernel
theorem zd_Law_law_283 : decode code 283 = .ok (.iload_n 3, 1) := by decide +kernel
theorem zd_Law_law_284 : decode code 284 = .ok (.iconst 2, 1) := by decide +kernel
theorem zd_Law_law_285 : decode code 285 = .ok (.iadd, 1) := by decide +kernel
theorem zd_Law_law_286 : decode code 286 = .ok (.iaload, 1) := by decide +kernel
theorem zd_Law_law_287 : decode code 287 = .ok (.invokevirtual 35, 3) := by decide +kernel
theorem zd_Law_law_290 : decode code 290 = .ok (.if_icmp .eq 388, 3) := by decide +kernel
theorem zd_Law_law_293 : decode code 293 = .ok (.iconst 0, 1) := by decide +kernel
theorem zd_Law_law_294 : decode code 294 = .ok (.ireturn, 1) := by decide +kernel
theorem zd_Law_law_295 : decode code 295 = .ok (.aload_n 1, 1) := by decide +kernel
theorem zd_Law_law_296 : decode code 296 = .ok (.aload_n 0, 1) := by decide +kernel
theorem zd_Law_law_297 : decode code 297 = .ok (.iload_n 3, 1) := by decide +kernel
theorem zd_Law_law_298 : decode code 298 = .ok (.iconst 1, 1) := by decide +kernel
theorem zd_Law_law_299 : decode code 299 = .ok (.iadd, 1) := by decide +kernel
theorem zd_Law_law_300 : decode code 300 = .ok (.iaload, 1) := by decide +kernel
theorem zd_Law_law_301 : decode code 301 = .ok (.invokevirtual 36, 3) := by decide +kernel
theorem zd_Law_law_304 : decode code 304 = .ok (.aload_n 2, 1) := by decide +kernel
theorem zd_Law_law_305 : decode code 305 = .ok (.aload_n 0, 1) := by decide +kernel
theorem zd_Law_law_306 : decode code 306 = .ok (.iload_n 3, 1) := by decide +kernel
theorem zd_Law_law_307 : decode code 307 = .ok (.iconst 1, 1) := by decide +kernel
theorem zd_Law_law_308 : decode code 308 = .ok (.iadd, 1) := by decide +kernel
theorem zd_Law_law_309 : decode code 309 = .ok (.iaload, 1) := by decide +kernel
theorem zd_Law_law_310 : decode code 310 = .ok (.invokevirtual 40, 3) := by decide +kernel
theorem zd_Law_law_313 : decode code 313 = .ok (.if_icmp .eq 365, 3) := by decide +kernel
theorem zd_Law_law_316 : decode code 316 = .ok (.iconst 0, 1) := by decide +kernel
theorem zd_Law_law_317 : decode code 317 = .ok (.ireturn, 1) := by decide +kernel
theorem zd_Law_law_318 : decode code 318 = .ok (.aload_n 1, 1) := by decide +kernel
theorem zd_Law_law_319 : decode code 319 = .ok (.aload_n 0, 1) := by decide +kernel
theorem zd_Law_law_320 : decode code 320 = .ok (.iload_n 3, 1) := by decide +kernel
theorem zd_Law_law_321 : decode code 321 = .ok (.iconst 1, 1) := by decide +kernel
theorem zd_Law_law_322 : decode code 322 = .ok (.iadd, 1) := by decide +kernel
theorem zd_Law_law_323 : decode code 323 = .ok (.iaload, 1) := by decide +kernel
theorem zd_Law_law_324 : decode code 324 = .ok (.aload_n 0, 1) := by decide +kernel
theorem zd_Law_law_325 : decode code 325 = .ok (.iload_n 3, 1) := by decide +kernel
theorem zd_Law_law_326 : decode code 326 = .ok (.iconst 2, 1) := by decide +kernel
theorem zd_Law_law_327 : decode code 327 = .ok (.iadd, 1) := by decide +kernel
theorem zd_Law_law_328 : decode code 328 = .ok (.iaload, 1) := by decide +kernel
theorem zd_Law_law_329 : decode code 329 = .ok (.invokevirtual 41, 3) := by decide +kernel
theorem zd_Law_law_332 : decode code 332 = .ok (.aload_n 2, 1) := by decide +kernel
theorem zd_Law_law_333 : decode code 333 = .ok (.aload_n 0, 1) := by decide +kernel
theorem zd_Law_law_334 : decode code 334 = .ok (.iload_n 3, 1) := by decide +kernel
theorem zd_Law_law_335 : decode code 335 = .ok (.iconst 1, 1) := by decide +kernel
theorem zd_Law_law_336 : decode code 336 = .ok (.iadd, 1) := by decide +kernel
theorem zd_Law_law_337 : decode code 337 = .ok (.iaload, 1) := by decide +kernel
theorem zd_Law_law_338 : decode code 338 = .ok (.aload_n 0, 1) := by decide +kernel
theorem zd_Law_law_339 : decode code 339 = .ok (.iload_n 3, 1) := by decide +kernel
theorem zd_Law_law_340 : decode code 340 = .ok (.iconst 2, 1) := by decide +kernel
theorem zd_Law_law_341 : decode code 341 = .ok (.iadd, 1) := by decide +kernel
theorem zd_Law_law_342 : decode code 342 = .ok (.iaload, 1) := by decide +kernel
theorem zd_Law_law_343 : decode code 343 = .ok (.invokevirtual 45, 3) := by decide +kernel
theorem zd_Law_law_346 : decode code 346 = .ok (.if_icmp .eq 332, 3) := by decide +kernel
theorem zd_Law_law_349 : decode code 349 = .ok (.iconst 0, 1) := by decide +kernel
theorem zd_Law_law_350 : decode code 350 = .ok (.ireturn, 1) := by decide +kernel
theorem zd_Law_law_351 : decode code 351 = .ok (.aload_n 1, 1) := by decide +kernel
theorem zd_Law_law_352 : decode code 352 = .ok (.aload_n 0, 1) := by decide +kernel
theorem zd_Law_law_353 : decode code 353 = .ok (.iload_n 3, 1) := by decide +kernel
theorem zd_Law_law_354 : decode code 354 = .ok (.iconst 1, 1) := by decide +kernel
theorem zd_Law_law_355 : decode code 355 = .ok (.iadd, 1) := by decide +kernel
theorem zd_Law_law_356 : decode code 356 = .ok (.iaload, 1) := by decide +kernel
theorem zd_Law_law_357 : decode code 357 = .ok (.aload_n 0, 1) := by decide +kernel
theorem zd_Law_law_358 : decode code 358 = .ok (.iload_n 3, 1) := by decide +kernel
theorem zd_Law_law_359 : decode code 359 = .ok (.iconst 2, 1) := by decide +kernel
theorem zd_Law_law_360 : decode code 360 = .ok (.iadd, 1) := by decide +kernel
theorem zd_Law_law_361 : decode code 361 = .ok (.iaload, 1) := by decide +kernel
theorem zd_Law_law_362 : decode code 362 = .ok (.aload_n 0, 1) := by decide +kernel
theorem zd_Law_law_363 : decode code 363 = .ok (.iload_n 3, 1) := by decide +kernel
theorem zd_Law_law_364 : decode code 364 = .ok (.iconst 3, 1) := by decide +kernel
theorem zd_Law_law_365 : decode code 365 = .ok (.iadd, 1) := by decide +kernel
theorem zd_Law_law_366 : decode code 366 = .ok (.iaload, 1) := by decide +kernel
theorem zd_Law_law_367 : decode code 367 = .ok (.aload_n 0, 1) := by decide +kernel
theorem zd_Law_law_368 : decode code 368 = .ok (.iload_n 3, 1) := by decide +kernel
theorem zd_Law_law_369 : decode code 369 = .ok (.iconst 4, 1) := by decide +kernel
theorem zd_Law_law_370 : decode code 370 = .ok (.iadd, 1) := by decide +kernel
theorem zd_Law_law_371 : decode code 371 = .ok (.iaload, 1) := by decide +kernel
theorem zd_Law_law_372 : decode code 372 = .ok (.aload_n 0, 1) := by decide +kernel
theorem zd_Law_law_373 : decode code 373 = .ok (.iload_n 3, 1) := by decide +kernel
theorem zd_Law_law_374 : decode code 374 = .ok (.iconst 5, 1) := by decide +kernel
theorem zd_Law_law_375 : decode code 375 = .ok (.iadd, 1) := by decide +kernel
theorem zd_Law_law_376 : decode code 376 = .ok (.iaload, 1) := by decide +kernel
theorem zd_Law_law_377 : decode code 377 = .ok (.invokevirtual 46, 3) := by decide +kernel
theorem zd_Law_law_380 : decode code 380 = .ok (.aload_n 2, 1) := by decide +kernel
theorem zd_Law_law_381 : decode code 381 = .ok (.aload_n 0, 1) := by decide +kernel
theorem zd_Law_law_382 : decode code 382 = .ok (.iload_n 3, 1) := by decide +kernel
theorem zd_Law_law_383 : decode code 383 = .ok (.iconst 1, 1) := by decide +kernel
theorem zd_Law_law_384 : decode code 384 = .ok (.iadd, 1) := by decide +kernel
theorem zd_Law_law_385 : decode code 385 = .ok (.iaload, 1) := by decide +kernel
theorem zd_Law_law_386 : decode code 386 = .ok (.aload_n 0, 1) := by decide +kernel
theorem zd_Law_law_387 : decode code 387 = .ok (.iload_n 3, 1) := by decide +kernel
theorem zd_Law_law_388 : decode code 388 = .ok (.iconst 2, 1) := by decide +kernel
theorem zd_Law_law_389 : decode code 389 = .ok (.iadd, 1) := by decide +kernel
theorem zd_Law_law_390 : decode code 390 = .ok (.iaload, 1) := by decide +kernel
theorem zd_Law_law_391 : decode code 391 = .ok (.aload_n 0, 1) := by decide +kernel
theorem zd_Law_law_392 : decode code 392 = .ok (.iload_n 3, 1) := by decide +kernel
theorem zd_Law_law_393 : decode code 393 = .ok (.iconst 3, 1) := by decide +kernel
theorem zd_Law_law_394 : decode code 394 = .ok (.iadd, 1) := by decide +kernel
theorem zd_Law_law_395 : decode code 395 = .ok (.iaload, 1) := by decide +kernel
theorem zd_Law_law_396 : decode code 396 = .ok (.aload_n 0, 1) := by decide +kernel
theorem zd_Law_law_397 : decode code 397 = .ok (.iload_n 3, 1) := by decide +kernel
theorem zd_Law_law_398 : decode code 398 = .ok (.iconst 4, 1) := by decide +kernel
theorem zd_Law_law_399 : decode code 399 = .ok (.iadd, 1) := by decide +kernel
theorem zd_Law_law_400 : decode code 400 = .ok (.iaload, 1) := by decide +kernel
theorem zd_Law_law_401 : decode code 401 = .ok (.aload_n 0, 1) := by decide +kernel
theorem zd_Law_law_402 : decode code 402 = .ok (.iload_n 3, 1) := by decide +kernel
theorem zd_Law_law_403 : decode code 403 = .ok (.iconst 5, 1) := by decide +kernel
theorem zd_Law_law_404 : decode code 404 = .ok (.iadd, 1) := by decide +kernel
theorem zd_Law_law_405 : decode code 405 = .ok (.iaload, 1) := by decide +kernel
theorem zd_Law_law_406 : decode code 406 = .ok (.invokevirtual 50, 3) := by decide +kernel
theorem zd_Law_law_409 : decode code 409 = .ok (.if_icmp .eq 269, 3) := by decide +kernel
theorem zd_Law_law_412 : decode code 412 = .ok (.iconst 0, 1) := by decide +kernel
theorem zd_Law_law_413 : decode code 413 = .ok (.ireturn, 1) := by decide +kernel
theorem zd_Law_law_414 : decode code 414 = .ok (.aload_n 1, 1) := by decide +kernel
theorem zd_Law_law_415 : decode code 415 = .ok (.aload_n 0, 1) := by decide +kernel
theorem zd_Law_law_416 : decode code 416 = .ok (.iload_n 3, 1) := by decide +kernel
theorem zd_Law_law_417 : decode code 417 = .ok (.iconst 1, 1) := by decide +kernel
theorem zd_Law_law_418 : decode code 418 = .ok (.iadd, 1) := by decide +kernel
theorem zd_Law_law_419 : decode code 419 = .ok (.iaload, 1) := by decide +kernel
theorem zd_Law_law_420 : decode code 420 = .ok (.aload_n 0, 1) := by decide +kernel
theorem zd_Law_law_421 : decode code 421 = .ok (.iload_n 3, 1) := by decide +kernel
theorem zd_Law_law_422 : decode code 422 = .ok (.iconst 2, 1) := by decide +kernel
theorem zd_Law_law_423 : decode code 423 = .ok (.iadd, 1) := by decide +kernel
theorem zd_Law_law_424 : decode code 424 = .ok (.iaload, 1) := by decide +kernel
theorem zd_Law_law_425 : decode code 425 = .ok (.invokevirtual 51, 3) := by decide +kernel
theorem zd_Law_law_428 : decode code 428 = .ok (.aload_n 2, 1) := by decide +kernel
theorem zd_Law_law_429 : decode code 429 = .ok (.aload_n 0, 1) := by decide +kernel
theorem zd_Law_law_430 : decode code 430 = .ok (.iload_n 3, 1) := by decide +kernel
theorem zd_Law_law_431 : decode code 431 = .ok (.iconst 1, 1) := by decide +kernel
theorem zd_Law_law_432 : decode code 432 = .ok (.iadd, 1) := by decide +kernel
theorem zd_Law_law_433 : decode code 433 = .ok (.iaload, 1) := by decide +kernel
theorem zd_Law_law_434 : decode code 434 = .ok (.aload_n 0, 1) := by decide +kernel
theorem zd_Law_law_435 : decode code 435 = .ok (.iload_n 3, 1) := by decide +kernel
theorem zd_Law_law_436 : decode code 436 = .ok (.iconst 2, 1) := by decide +kernel
theorem zd_Law_law_437 : decode code 437 = .ok (.iadd, 1) := by decide +kernel
theorem zd_Law_law_438 : decode code 438 = .ok (.iaload, 1) := by decide +kernel
theorem zd_Law_law_439 : decode code 439 = .ok (.invokevirtual 54, 3) := by decide +kernel
theorem zd_Law_law_442 : decode code 442 = .ok (.if_icmp .eq 236, 3) := by decide +kernel
theorem zd_Law_law_445 : decode code 445 = .ok (.iconst 0, 1) := by decide +kernel
theorem zd_Law_law_446 : decode code 446 = .ok (.ireturn, 1) := by decide +kernel
theorem zd_Law_law_447 : decode code 447 = .ok (.aload_n 1, 1) := by decide +kernel
theorem zd_Law_law_448 : decode code 448 = .ok (.invokevirtual 55, 3) := by decide +kernel
theorem zd_Law_law_451 : decode code 451 = .ok (.aload_n 2, 1) := by decide +kernel
theorem zd_Law_law_452 : decode code 452 = .ok (.invokevirtual 59, 3) := by decide +kernel
theorem zd_Law_law_455 : decode code 455 = .ok (.if_icmp .eq 223, 3) := by decide +kernel
theorem zd_Law_law_458 : decode code 458 = .ok (.iconst 0, 1) := by decide +kernel
theorem zd_Law_law_459 : decode code 459 = .ok (.ireturn, 1) := by decide +kernel
theorem zd_Law_law_460 : decode code 460 = .ok (.aload_n 1, 1) := by decide +kernel
theorem zd_Law_law_461 : decode code 461 = .ok (.aload_n 0, 1) := by decide +kernel
theorem zd_Law_law_462 : decode code 462 = .ok (.iload_n 3, 1) := by decide +kernel
theorem zd_Law_law_463 : decode code 463 = .ok (.iconst 1, 1) := by decide +kernel
theorem zd_Law_law_464 : decode code 464 = .ok (.iadd, 1) := by decide +kernel
theorem zd_Law_law_465 : decode code 465 = .ok (.iaload, 1) := by decide +kernel
theorem zd_Law_law_466 : decode code 466 = .ok (.aload_n 0, 1) := by decide +kernel
theorem zd_Law_law_467 : decode code 467 = .ok (.iload_n 3, 1) := by decide +kernel
theorem zd_Law_law_468 : decode code 468 = .ok (.iconst 2, 1) := by decide +kernel
theorem zd_Law_law_469 : decode code 469 = .ok (.iadd, 1) := by decide +kernel
theorem zd_Law_law_470 : decode code 470 = .ok (.iaload, 1) := by decide +kernel
theorem zd_Law_law_471 : decode code 471 = .ok (.invokevirtual 60, 3) := by decide +kernel
theorem zd_Law_law_474 : decode code 474 = .ok (.aload_n 2, 1) := by decide +kernel
theorem zd_Law_law_475 : decode code 475 = .ok (.aload_n 0, 1) := by decide +kernel
theorem zd_Law_law_476 : decode code 476 = .ok (.iload_n 3, 1) := by decide +kernel
theorem zd_Law_law_477 : decode code 477 = .ok (.iconst 1, 1) := by decide +kernel
theorem zd_Law_law_478 : decode code 478 = .ok (.iadd, 1) := by decide +kernel
theorem zd_Law_law_479 : decode code 479 = .ok (.iaload, 1) := by decide +kernel
theorem zd_Law_law_480 : decode code 480 = .ok (.aload_n 0, 1) := by decide +kernel
theorem zd_Law_law_481 : decode code 481 = .ok (.iload_n 3, 1) := by decide +kernel
theorem zd_Law_law_482 : decode code 482 = .ok (.iconst 2, 1) := by decide +kernel
theorem zd_Law_law_483 : decode code 483 = .ok (.iadd, 1) := by decide +kernel
theorem zd_Law_law_484 : decode code 484 = .ok (.iaload, 1) := by decide +kernel
theorem zd_Law_law_485 : decode code 485 = .ok (.invokevirtual 63, 3) := by decide +kernel
theorem zd_Law_law_488 : decode code 488 = .ok (.if_icmp .eq 190, 3) := by decide +kernel
theorem zd_Law_law_491 : decode code 491 = .ok (.iconst 0, 1) := by decide +kernel
theorem zd_Law_law_492 : decode code 492 = .ok (.ireturn, 1) := by decide +kernel
theorem zd_Law_law_493 : decode code 493 = .ok (.aload_n 1, 1) := by decide +kernel
theorem zd_Law_law_494 : decode code 494 = .ok (.aload_n 0, 1) := by decide +kernel
theorem zd_Law_law_495 : decode code 495 = .ok (.iload_n 3, 1) := by decide +kernel
theorem zd_Law_law_496 : decode code 496 = .ok (.iconst 1, 1) := by decide +kernel
theorem zd_Law_law_497 : decode code 497 = .ok (.iadd, 1) := by decide +kernel
theorem zd_Law_law_498 : decode code 498 = .ok (.iaload, 1) := by decide +kernel
theorem zd_Law_law_499 : decode code 499 = .ok (.aload_n 0, 1) := by decide +kernel
theorem zd_Law_law_500 : decode code 500 = .ok (.iload_n 3, 1) := by decide +kernel
theorem zd_Law_law_501 : decode code 501 = .ok (.iconst 2, 1) := by decide +kernel
theorem zd_Law_law_502 : decode code 502 = .ok (.iadd, 1) := by decide +kernel
theorem zd_Law_law_503 : decode code 503 = .ok (.iaload, 1) := by decide +kernel
theorem zd_Law_law_504 : decode code 504 = .ok (.aload_n 0, 1) := by decide +kernel
theorem zd_Law_law_505 : decode code 505 = .ok (.iload_n 3, 1) := by decide +kernel
theorem zd_Law_law_506 : decode code 506 = .ok (.iconst 3, 1) := by decide +kernel
theorem zd_Law_law_507 : decode code 507 = .ok (.iadd, 1) := by decide +kernel
theorem zd_Law_law_508 : decode code 508 = .ok (.iaload, 1) := by decide +kernel
theorem zd_Law_law_509 : decode code 509 = .ok (.aload_n 0, 1) := by decide +kernel
theorem zd_Law_law_510 : decode code 510 = .ok (.iload_n 3, 1) := by decide +kernel
theorem zd_Law_law_511 : decode code 511 = .ok (.iconst 4, 1) := by decide +kernel
theorem zd_Law_law_512 : decode code 512 = .ok (.iadd, 1) := by decide +kernel
theorem zd_Law_law_513 : decode code 513 = .ok (.iaload, 1) := by decide +kernel
theorem zd_Law_law_514 : decode code 514 = .ok (.invokevirtual 64, 3) := by decide +kernel
theorem zd_Law_law_517 : decode code 517 = .ok (.aload_n 2, 1) := by decide +kernel
theorem zd_Law_law_518 : decode code 518 = .ok (.aload_n 0, 1) := by decide +kernel
theorem zd_Law_law_519 : decode code 519 = .ok (.iload_n 3, 1) := by decide +kernel
theorem zd_Law_law_520 : decode code 520 = .ok (.iconst 1, 1) := by decide +kernel
theorem zd_Law_law_521 : decode code 521 = .ok (.iadd, 1) := by decide +kernel
theorem zd_Law_law_522 : decode code 522 = .ok (.iaload, 1) := by decide +kernel
theorem zd_Law_law_523 : decode code 523 = .ok (.aload_n 0, 1) := by decide +kernel
theorem zd_Law_law_524 : decode code 524 = .ok (.iload_n 3, 1) := by decide +kernel
theorem zd_Law_law_525 : decode code 525 = .ok (.iconst 2, 1) := by decide +kernel
theorem zd_Law_law_526 : decode code 526 = .ok (.iadd, 1) := by decide +kernel
theorem zd_Law_law_527 : decode code 527 = .ok (.iaload, 1) := by decide +kernel
theorem zd_Law_law_528 : decode code 528 = .ok (.aload_n 0, 1) := by decide +kernel
theorem zd_Law_law_529 : decode code 529 = .ok (.iload_n 3, 1) := by decide +kernel
theorem zd_Law_law_530 : decode code 530 = .ok (.iconst 3, 1) := by decide +kernel
theorem zd_Law_law_531 : decode code 531 = .ok (.iadd, 1) := by decide +kernel
theorem zd_Law_law_532 : decode code 532 = .ok (.iaload, 1) := by decide +kernel
theorem zd_Law_law_533 : decode code 533 = .ok (.aload_n 0, 1) := by decide +kernel
theorem zd_Law_law_534 : decode code 534 = .ok (.iload_n 3, 1) := by decide +kernel
theorem zd_Law_law_535 : decode code 535 = .ok (.iconst 4, 1) := by decide +kernel
theorem zd_Law_law_536 : decode code 536 = .ok (.iadd, 1) := by decide +kernel
theorem zd_Law_law_537 : decode code 537 = .ok (.iaload, 1) := by decide +kernel
theorem zd_Law_law_538 : decode code 538 = .ok (.invokevirtual 68, 3) := by decide +kernel
theorem zd_Law_law_541 : decode code 541 = .ok (.if_icmp .eq 137, 3) := by decide +kernel
theorem zd_Law_law_544 : decode code 544 = .ok (.iconst 0, 1) := by decide +kernel
theorem zd_Law_law_545 : decode code 545 = .ok (.ireturn, 1) := by decide +kernel
theorem zd_Law_law_546 : decode code 546 = .ok (.aload_n 1, 1) := by decide +kernel
theorem zd_Law_law_547 : decode code 547 = .ok (.aload_n 0, 1) := by decide +kernel
theorem zd_Law_law_548 : decode code 548 = .ok (.iload_n 3, 1) := by decide +kernel
theorem zd_Law_law_549 : decode code 549 = .ok (.iconst 1, 1) := by decide +kernel
theorem zd_Law_law_550 : decode code 550 = .ok (.iadd, 1) := by decide +kernel
theorem zd_Law_law_551 : decode code 551 = .ok (.iaload, 1) := by decide +kernel
theorem zd_Law_law_552 : decode code 552 = .ok (.aload_n 0, 1) := by decide +kernel
theorem zd_Law_law_553 : decode code 553 = .ok (.iload_n 3, 1) := by decide +kernel
theorem zd_Law_law_554 : decode code 554 = .ok (.iconst 2, 1) := by decide +kernel
theorem zd_Law_law_555 : decode code 555 = .ok (.iadd, 1) := by decide +kernel
theorem zd_Law_law_556 : decode code 556 = .ok (.iaload, 1) := by decide +kernel
theorem zd_Law_law_557 : decode code 557 = .ok (.invokevirtual 69, 3) := by decide +kernel
theorem zd_Law_law_560 : decode code 560 = .ok (.aload_n 2, 1) := by decide +kernel
theorem zd_Law_law_561 : decode code 561 = .ok (.aload_n 0, 1) := by decide +kernel
theorem zd_Law_law_562 : decode code 562 = .ok (.iload_n 3, 1) := by decide +kernel
theorem zd_Law_law_563 : decode code 563 = .ok (.iconst 1, 1) := by decide +kernel
theorem zd_Law_law_564 : decode code 564 = .ok (.iadd, 1) := by decide +kernel
theorem zd_Law_law_565 : decode code 565 = .ok (.iaload, 1) := by decide +kernel
theorem zd_Law_law_566 : decode code 566 = .ok (.aload_n 0, 1) := by decide +kernel
theorem zd_Law_law_567 : decode code 567 = .ok (.iload_n 3, 1) := by decide +kernel
theorem zd_Law_law_568 : decode code 568 = .ok (.iconst 2, 1) := by decide +kernel
theorem zd_Law_law_569 : decode code 569 = .ok (.iadd, 1) := by decide +kernel
theorem zd_Law_law_570 : decode code 570 = .ok (.iaload, 1) := by decide +kernel
theorem zd_Law_law_571 : decode code 571 = .ok (.invokevirtual 72, 3) := by decide +kernel
theorem zd_Law_law_574 : decode code 574 = .ok (.if_icmp .eq 104, 3) := by decide +kernel
theorem zd_Law_law_577 : decode code 577 = .ok (.iconst 0, 1) := by decide +kernel
theorem zd_Law_law_578 : decode code 578 = .ok (.ireturn, 1) := by decide +kernel
theorem zd_Law_law_579 : decode code 579 = .ok (.aload_n 1, 1) := by decide +kernel
theorem zd_Law_law_580 : decode code 580 = .ok (.aload_n 0, 1) := by decide +kernel
theorem zd_Law_law_581 : decode code 581 = .ok (.iload_n 3, 1) := by decide +kernel
theorem zd_Law_law_582 : decode code 582 = .ok (.iconst 1, 1) := by decide +kernel
theorem zd_Law_law_583 : decode code 583 = .ok (.iadd, 1) := by decide +kernel
theorem zd_Law_law_584 : decode code 584 = .ok (.iaload, 1) := by decide +kernel
theorem zd_Law_law_585 : decode code 585 = .ok (.invokevirtual 73, 3) := by decide +kernel
theorem zd_Law_law_588 : decode code 588 = .ok (.aload_n 2, 1) := by decide +kernel
theorem zd_Law_law_589 : decode code 589 = .ok (.aload_n 0, 1) := by decide +kernel
theorem zd_Law_law_590 : decode code 590 = .ok (.iload_n 3, 1) := by decide +kernel
theorem zd_Law_law_591 : decode code 591 = .ok (.iconst 1, 1) := by decide +kernel
theorem zd_Law_law_592 : decode code 592 = .ok (.iadd, 1) := by decide +kernel
theorem zd_Law_law_593 : decode code 593 = .ok (.iaload, 1) := by decide +kernel
theorem zd_Law_law_594 : decode code 594 = .ok (.invokevirtual 77, 3) := by decide +kernel
theorem zd_Law_law_597 : decode code 597 = .ok (.if_icmp .eq 81, 3) := by decide +kernel
theorem zd_Law_law_600 : decode code 600 = .ok (.iconst 0, 1) := by decide +kernel
theorem zd_Law_law_601 : decode code 601 = .ok (.ireturn, 1) := by decide +kernel
theorem zd_Law_law_602 : decode code 602 = .ok (.aload_n 1, 1) := by decide +kernel
theorem zd_Law_law_603 : decode code 603 = .ok (.aload_n 0, 1) := by decide +kernel
theorem zd_Law_law_604 : decode code 604 = .ok (.iload_n 3, 1) := by decide +kernel
theorem zd_Law_law_605 : decode code 605 = .ok (.iconst 1, 1) := by decide +kernel
theorem zd_Law_law_606 : decode code 606 = .ok (.iadd, 1) := by decide +kernel
theorem zd_Law_law_607 : decode code 607 = .ok (.iaload, 1) := by decide +kernel
theorem zd_Law_law_608 : decode code 608 = .ok (.aload_n 0, 1) := by decide +kernel
theorem zd_Law_law_609 : decode code 609 = .ok (.iload_n 3, 1) := by decide +kernel
theorem zd_Law_law_610 : decode code 610 = .ok (.iconst 2, 1) := by decide +kernel
theorem zd_Law_law_611 : decode code 611 = .ok (.iadd, 1) := by decide +kernel
theorem zd_Law_law_612 : decode code 612 = .ok (.iaload, 1) := by decide +kernel
theorem zd_Law_law_613 : decode code 613 = .ok (.aload_n 0, 1) := by decide +kernel
theorem zd_Law_law_614 : decode code 614 = .ok (.iload_n 3, 1) := by decide +kernel
theorem zd_Law_law_615 : decode code 615 = .ok (.iconst 3, 1) := by decide +kernel
theorem zd_Law_law_616 : decode code 616 = .ok (.iadd, 1) := by decide +kernel
theorem zd_Law_law_617 : decode code 617 = .ok (.iaload, 1) := by decide +kernel
theorem zd_Law_law_618 : decode code 618 = .ok (.invokevirtual 78, 3) := by decide +kernel
theorem zd_Law_law_621 : decode code 621 = .ok (.aload_n 2, 1) := by decide +kernel
theorem zd_Law_law_622 : decode code 622 = .ok (.aload_n 0, 1) := by decide +kernel
theorem zd_Law_law_623 : decode code 623 = .ok (.iload_n 3, 1) := by decide +kernel
theorem zd_Law_law_624 : decode code 624 = .ok (.iconst 1, 1) := by decide +kernel
theorem zd_Law_law_625 : decode code 625 = .ok (.iadd, 1) := by decide +kernel
theorem zd_Law_law_626 : decode code 626 = .ok (.iaload, 1) := by decide +kernel
theorem zd_Law_law_627 : decode code 627 = .ok (.aload_n 0, 1) := by decide +kernel
theorem zd_Law_law_628 : decode code 628 = .ok (.iload_n 3, 1) := by decide +kernel
theorem zd_Law_law_629 : decode code 629 = .ok (.iconst 2, 1) := by decide +kernel
theorem zd_Law_law_630 : decode code 630 = .ok (.iadd, 1) := by decide +kernel
theorem zd_Law_law_631 : decode code 631 = .ok (.iaload, 1) := by decide +kernel
theorem zd_Law_law_632 : decode code 632 = .ok (.aload_n 0, 1) := by decide +kernel
theorem zd_Law_law_633 : decode code 633 = .ok (.iload_n 3, 1) := by decide +kernel
theorem zd_Law_law_634 : decode code 634 = .ok (.iconst 3, 1) := by decide +kernel
theorem zd_Law_law_635 : decode code 635 = .ok (.iadd, 1) := by decide +kernel
theorem zd_Law_law_636 : decode code 636 = .ok (.iaload, 1) := by decide +kernel
theorem zd_Law_law_637 : decode code 637 = .ok (.invokevirtual 82, 3) := by decide +kernel
theorem zd_Law_law_640 : decode code 640 = .ok (.if_icmp .eq 38, 3) := by decide +kernel
theorem zd_Law_law_643 : decode code 643 = .ok (.iconst 0, 1) := by decide +kernel
theorem zd_Law_law_644 : decode code 644 = .ok (.ireturn, 1) := by decide +kernel
theorem zd_Law_law_645 : decode code 645 = .ok (.aload_n 1, 1) := by decide +kernel
theorem zd_Law_law_646 : decode code 646 = .ok (.aload_n 0, 1) := by decide +kernel
theorem zd_Law_law_647 : decode code 647 = .ok (.iload_n 3, 1) := by decide +kernel
theorem zd_Law_law_648 : decode code 648 = .ok (.iconst 1, 1) := by decide +kernel
theorem zd_Law_law_649 : decode code 649 = .ok (.iadd, 1) := by decide +kernel
theorem zd_Law_law_650 : decode code 650 = .ok (.iaload, 1) := by decide +kernel
theorem zd_Law_law_651 : decode code 651 = .ok (.aload_n 0, 1) := by decide +kernel
theorem zd_Law_law_652 : decode code 652 = .ok (.iload_n 3, 1) := by decide +kernel
theorem zd_Law_law_653 : decode code 653 = .ok (.iconst 2, 1) := by decide +kernel
theorem zd_Law_law_654 : decode code 654 = .ok (.iadd, 1) := by decide +kernel
theorem zd_Law_law_655 : decode code 655 = .ok (.iaload, 1) := by decide +kernel
theorem zd_Law_law_656 : decode code 656 = .ok (.invokevirtual 83, 3) := by decide +kernel
theorem zd_Law_law_659 : decode code 659 = .ok (.aload_n 2, 1) := by decide +kernel
theorem zd_Law_law_660 : decode code 660 = .ok (.aload_n 0, 1) := by decide +kernel
theorem zd_Law_law_661 : decode code 661 = .ok (.iload_n 3, 1) := by decide +kernel
theorem zd_Law_law_662 : decode code 662 = .ok (.iconst 1, 1) := by decide +kernel
theorem zd_Law_law_663 : decode code 663 = .ok (.iadd, 1) := by decide +kernel
theorem zd_Law_law_664 : decode code 664 = .ok (.iaload, 1) := by decide +kernel
theorem zd_Law_law_665 : decode code 665 = .ok (.aload_n 0, 1) := by decide +kernel
theorem zd_Law_law_666 : decode code 666 = .ok (.iload_n 3, 1) := by decide +kernel
theorem zd_Law_law_667 : decode code 667 = .ok (.iconst 2, 1) := by decide +kernel
theorem zd_Law_law_668 : decode code 668 = .ok (.iadd, 1) := by decide +kernel
theorem zd_Law_law_669 : decode code 669 = .ok (.iaload, 1) := by decide +kernel
theorem zd_Law_law_670 : decode code 670 = .ok (.invokevirtual 86, 3) := by decide +kernel
theorem zd_Law_law_673 : decode code 673 = .ok (.if_icmp .eq 5, 3) := by decide +kernel
theorem zd_Law_law_676 : decode code 676 = .ok (.iconst 0, 1) := by decide +kernel
theorem zd_Law_law_677 : decode code 677 = .ok (.ireturn, 1) := by decide +kernel
theorem zd_Law_law_678 : decode code 678 = .ok (.iinc 3 8, 3) := by decide +kernel

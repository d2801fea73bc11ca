theorem zd_Mo_put_32 : decode zc_Mo_put 32 = .ok (.aload_n 0, 1) := by decide +kernel
theorem zd_Mo_put_33 : decode zc_Mo_put 33 = .ok (.getfield 41, 3) := by decide +kernel
theorem zd_Mo_put_36 : decode zc_Mo_put 36 = .ok (.iload 5, 2) := by decide +kernel
theorem zd_Mo_put_38 : decode zc_Mo_put 38 = .ok (.iaload, 1) := by decide +kernel
theorem zd_Mo_put_39 : decode zc_Mo_put 39 = .ok (.iload 6, 2) := by decide +kernel
theorem zd_Mo_put_41 : decode zc_Mo_put 41 = .ok (.if_icmp .eq 7, 3) := by decide +kernel
theorem zd_Mo_put_44 : decode zc_Mo_put 44 = .ok (.iconst 1, 1) := by decide +kernel
theorem zd_Mo_put_45 : decode zc_Mo_put 45 = .ok (.goto 4, 3) := by decide +kernel
theorem zd_Mo_put_48 : decode zc_Mo_put 48 = .ok (.iconst 0, 1) := by decide +kernel
theorem zd_Mo_put_49 : decode zc_Mo_put 49 = .ok (.ireturn, 1) := by decide +kernel
theorem zd_Mo_nodes_0 : decode zc_Mo_nodes 0 = .ok (.iconst 0, 1) := by decide +kernel
theorem zd_Mo_nodes_1 : decode zc_Mo_nodes 1 = .ok (.istore 5, 2) := by decide +kernel
theorem zd_Mo_nodes_3 : decode zc_Mo_nodes 3 = .ok (.iconst 0, 1) := by decide +kernel
theorem zd_Mo_nodes_4 : decode zc_Mo_nodes 4 = .ok (.istore 6, 2) := by decide +kernel
theorem zd_Mo_nodes_6 : decode zc_Mo_nodes 6 = .ok (.iload 6, 2) := by decide +kernel
theorem zd_Mo_nodes_8 : decode zc_Mo_nodes 8 = .ok (.iconst 5, 1) := by decide +kernel
theorem zd_Mo_nodes_9 : decode zc_Mo_nodes 9 = .ok (.if_icmp .ge 122, 3) := by decide +kernel
theorem zd_Mo_nodes_12 : decode zc_Mo_nodes 12 = .ok (.aload_n 0, 1) := by decide +kernel
theorem zd_Mo_nodes_13 : decode zc_Mo_nodes 13 = .ok (.iload_n 1, 1) := by decide +kernel
theorem zd_Mo_nodes_14 : decode zc_Mo_nodes 14 = .ok (.iload_n 2, 1) := by decide +kernel
theorem zd_Mo_nodes_15 : decode zc_Mo_nodes 15 = .ok (.iconst 1, 1) := by decide +kernel
theorem zd_Mo_nodes_16 : decode zc_Mo_nodes 16 = .ok (.iload_n 3, 1) := by decide +kernel
theorem zd_Mo_nodes_17 : decode zc_Mo_nodes 17 = .ok (.invokevirtual 125, 3) := by decide +kernel
theorem zd_Mo_nodes_20 : decode zc_Mo_nodes 20 = .ok (.ifCond .ne 19, 3) := by decide +kernel
theorem zd_Mo_nodes_23 : decode zc_Mo_nodes 23 = .ok (.iload 4, 2) := by decide +kernel
theorem zd_Mo_nodes_25 : decode zc_Mo_nodes 25 = .ok (.ifCond .ne 18, 3) := by decide +kernel
theorem zd_Mo_nodes_28 : decode zc_Mo_nodes 28 = .ok (.aload_n 0, 1) := by decide +kernel
theorem zd_Mo_nodes_29 : decode zc_Mo_nodes 29 = .ok (.iload_n 1, 1) := by decide +kernel
theorem zd_Mo_nodes_30 : decode zc_Mo_nodes 30 = .ok (.iload_n 2, 1) := by decide +kernel
theorem zd_Mo_nodes_31 : decode zc_Mo_nodes 31 = .ok (.iconst 0, 1) := by decide +kernel
theorem zd_Mo_nodes_32 : decode zc_Mo_nodes 32 = .ok (.iload_n 3, 1) := by decide +kernel
theorem zd_Mo_nodes_33 : decode zc_Mo_nodes 33 = .ok (.invokevirtual 125, 3) := by decide +kernel
theorem zd_Mo_nodes_36 : decode zc_Mo_nodes 36 = .ok (.ifCond .eq 7, 3) := by decide +kernel
theorem zd_Mo_nodes_39 : decode zc_Mo_nodes 39 = .ok (.iconst 1, 1) := by decide +kernel
theorem zd_Mo_nodes_40 : decode zc_Mo_nodes 40 = .ok (.goto 4, 3) := by decide +kernel
theorem zd_Mo_nodes_43 : decode zc_Mo_nodes 43 = .ok (.iconst 0, 1) := by decide +kernel
theorem zd_Mo_nodes_44 : decode zc_Mo_nodes 44 = .ok (.istore 7, 2) := by decide +kernel
theorem zd_Mo_nodes_46 : decode zc_Mo_nodes 46 = .ok (.aload_n 0, 1) := by decide +kernel
theorem zd_Mo_nodes_47 : decode zc_Mo_nodes 47 = .ok (.getfield 44, 3) := by decide +kernel
theorem zd_Mo_nodes_50 : decode zc_Mo_nodes 50 = .ok (.bipush 30, 2) := by decide +kernel
theorem zd_Mo_nodes_52 : decode zc_Mo_nodes 52 = .ok (.iload_n 1, 1) := by decide +kernel
theorem zd_Mo_nodes_53 : decode zc_Mo_nodes 53 = .ok (.imul, 1) := by decide +kernel
theorem zd_Mo_nodes_54 : decode zc_Mo_nodes 54 = .ok (.bipush 6, 2) := by decide +kernel
theorem zd_Mo_nodes_56 : decode zc_Mo_nodes 56 = .ok (.iload 6, 2) := by decide +kernel
theorem zd_Mo_nodes_58 : decode zc_Mo_nodes 58 = .ok (.imul, 1) := by decide +kernel
theorem zd_Mo_nodes_59 : decode zc_Mo_nodes 59 = .ok (.iadd, 1) := by decide +kernel
theorem zd_Mo_nodes_60 : decode zc_Mo_nodes 60 = .ok (.iconst 2, 1) := by decide +kernel
theorem zd_Mo_nodes_61 : decode zc_Mo_nodes 61 = .ok (.iload_n 2, 1) := by decide +kernel
theorem zd_Mo_nodes_62 : decode zc_Mo_nodes 62 = .ok (.imul, 1) := by decide +kernel
theorem zd_Mo_nodes_63 : decode zc_Mo_nodes 63 = .ok (.iadd, 1) := by decide +kernel
theorem zd_Mo_nodes_64 : decode zc_Mo_nodes 64 = .ok (.iload 4, 2) := by decide +kernel
theorem zd_Mo_nodes_66 : decode zc_Mo_nodes 66 = .ok (.ifCond .eq 7, 3) := by decide +kernel
theorem zd_Mo_nodes_69 : decode zc_Mo_nodes 69 = .ok (.iconst 1, 1) := by decide +kernel
theorem zd_Mo_nodes_70 : decode zc_Mo_nodes 70 = .ok (.goto 4, 3) := by decide +kernel
theorem zd_Mo_nodes_73 : decode zc_Mo_nodes 73 = .ok (.iconst 0, 1) := by decide +kernel
theorem zd_Mo_nodes_74 : decode zc_Mo_nodes 74 = .ok (.iadd, 1) := by decide +kernel
theorem zd_Mo_nodes_75 : decode zc_Mo_nodes 75 = .ok (.iaload, 1) := by decide +kernel
theorem zd_Mo_nodes_76 : decode zc_Mo_nodes 76 = .ok (.istore 8, 2) := by decide +kernel
theorem zd_Mo_nodes_78 : decode zc_Mo_nodes 78 = .ok (.iload 6, 2) := by decide +kernel
theorem zd_Mo_nodes_80 : decode zc_Mo_nodes 80 = .ok (.iload_n 1, 1) := by decide +kernel
theorem zd_Mo_nodes_81 : decode zc_Mo_nodes 81 = .ok (.if_icmp .ne 8, 3) := by decide +kernel
theorem zd_Mo_nodes_84 : decode zc_Mo_nodes 84 = .ok (.iload 7, 2) := by decide +kernel
theorem zd_Mo_nodes_86 : decode zc_Mo_nodes 86 = .ok (.goto 18, 3) := by decide +kernel
theorem zd_Mo_nodes_89 : decode zc_Mo_nodes 89 = .ok (.iload 8, 2) := by decide +kernel
theorem zd_Mo_nodes_91 : decode zc_Mo_nodes 91 = .ok (.iload_n 3, 1) := by decide +kernel
theorem zd_Mo_nodes_92 : decode zc_Mo_nodes 92 = .ok (.ishr, 1) := by decide +kernel
theorem zd_Mo_nodes_93 : decode zc_Mo_nodes 93 = .ok (.iconst 1, 1) := by decide +kernel
theorem zd_Mo_nodes_94 : decode zc_Mo_nodes 94 = .ok (.iand, 1) := by decide +kernel
theorem zd_Mo_nodes_95 : decode zc_Mo_nodes 95 = .ok (.iconst 1, 1) := by decide +kernel
theorem zd_Mo_nodes_96 : decode zc_Mo_nodes 96 = .ok (.if_icmp .ne 7, 3) := by decide +kernel
theorem zd_Mo_nodes_99 : decode zc_Mo_nodes 99 = .ok (.iconst 1, 1) := by decide +kernel
theorem zd_Mo_nodes_100 : decode zc_Mo_nodes 100 = .ok (.goto 4, 3) := by decide +kernel
theorem zd_Mo_nodes_103 : decode zc_Mo_nodes 103 = .ok (.iconst 0, 1) := by decide +kernel
theorem zd_Mo_nodes_104 : decode zc_Mo_nodes 104 = .ok (.istore 9, 2) := by decide +kernel
theorem zd_Mo_nodes_106 : decode zc_Mo_nodes 106 = .ok (.iload 9, 2) := by decide +kernel
theorem zd_Mo_nodes_108 : decode zc_Mo_nodes 108 = .ok (.ifCond .eq 13, 3) := by decide +kernel
theorem zd_Mo_nodes_111 : decode zc_Mo_nodes 111 = .ok (.iload 5, 2) := by decide +kernel
theorem zd_Mo_nodes_113 : decode zc_Mo_nodes 113 = .ok (.iconst 1, 1) := by decide +kernel
theorem zd_Mo_nodes_114 : decode zc_Mo_nodes 114 = .ok (.iload 6, 2) := by decide +kernel
theorem zd_Mo_nodes_116 : decode zc_Mo_nodes 116 = .ok (.ishl, 1) := by decide +kernel
theorem zd_Mo_nodes_117 : decode zc_Mo_nodes 117 = .ok (.ior, 1) := by decide +kernel
theorem zd_Mo_nodes_118 : decode zc_Mo_nodes 118 = .ok (.goto 5, 3) := by decide +kernel
theorem zd_Mo_nodes_121 : decode zc_Mo_nodes 121 = .ok (.iload 5, 2) := by decide +kernel
theorem zd_Mo_nodes_123 : decode zc_Mo_nodes 123 = .ok (.istore 5, 2) := by decide +kernel
theorem zd_Mo_nodes_125 : decode zc_Mo_nodes 125 = .ok (.iinc 6 1, 3) := by decide +kernel
theorem zd_Mo_nodes_128 : decode zc_Mo_nodes 128 = .ok (.goto (-122), 3) := by decide +kernel
theorem zd_Mo_nodes_131 : decode zc_Mo_nodes 131 = .ok (.iload 5, 2) := by decide +kernel
theorem zd_Mo_nodes_133 : decode zc_Mo_nodes 133 = .ok (.ireturn, 1) := by decide +kernel
theorem zd_Mo_worth_0 : decode zc_Mo_worth 0 = .ok (.iload_n 0, 1) := by decide +kernel
theorem zd_Mo_worth_1 : decode zc_Mo_worth 1 = .ok (.bipush 7, 2) := by decide +kernel
theorem zd_Mo_worth_3 : decode zc_Mo_worth 3 = .ok (.irem, 1) := by decide +kernel
theorem zd_Mo_worth_4 : decode zc_Mo_worth 4 = .ok (.iconst 1, 1) := by decide +kernel
theorem zd_Mo_worth_5 : decode zc_Mo_worth 5 = .ok (.iadd, 1) := by decide +kernel
theorem zd_Mo_worth_6 : decode zc_Mo_worth 6 = .ok (.ireturn, 1) := by decide +kernel
theorem zd_Mo_aborts_0 : decode zc_Mo_aborts 0 = .ok (.iload_n 1, 1) := by decide +kernel
theorem zd_Mo_aborts_1 : decode zc_Mo_aborts 1 = .ok (.iload_n 0, 1) := by decide +kernel
theorem zd_Mo_aborts_2 : decode zc_Mo_aborts 2 = .ok (.if_icmp .ge 18, 3) := by decide +kernel
theorem zd_Mo_aborts_5 : decode zc_Mo_aborts 5 = .ok (.iload_n 1, 1) := by decide +kernel
theorem zd_Mo_aborts_6 : decode zc_Mo_aborts 6 = .ok (.invokestatic 129, 3) := by decide +kernel
theorem zd_Mo_aborts_9 : decode zc_Mo_aborts 9 = .ok (.iload_n 0, 1) := by decide +kernel
theorem zd_Mo_aborts_10 : decode zc_Mo_aborts 10 = .ok (.invokestatic 129, 3) := by decide +kernel
theorem zd_Mo_aborts_13 : decode zc_Mo_aborts 13 = .ok (.if_icmp .eq 7, 3) := by decide +kernel
theorem zd_Mo_aborts_16 : decode zc_Mo_aborts 16 = .ok (.iconst 1, 1) := by decide +kernel
theorem zd_Mo_aborts_17 : decode zc_Mo_aborts 17 = .ok (.goto 4, 3) := by decide +kernel
theorem zd_Mo_aborts_20 : decode zc_Mo_aborts 20 = .ok (.iconst 0, 1) := by decide +kernel
theorem zd_Mo_aborts_21 : decode zc_Mo_aborts 21 = .ok (.ireturn, 1) := by decide +kernel
theorem zd_Mo_clash_0 : decode zc_Mo_clash 0 = .ok (.iconst 0, 1) := by decide +kernel
theorem zd_Mo_clash_1 : decode zc_Mo_clash 1 = .ok (.istore 6, 2) := by decide +kernel
theorem zd_Mo_clash_3 : decode zc_Mo_clash 3 = .ok (.iload 6, 2) := by decide +kernel
theorem zd_Mo_clash_5 : decode zc_Mo_clash 5 = .ok (.bipush 28, 2) := by decide +kernel
theorem zd_Mo_clash_7 : decode zc_Mo_clash 7 = .ok (.if_icmp .ge 52, 3) := by decide +kernel
theorem zd_Mo_clash_10 : decode zc_Mo_clash 10 = .ok (.iload 5, 2) := by decide +kernel
theorem zd_Mo_clash_12 : decode zc_Mo_clash 12 = .ok (.ifCond .eq 13, 3) := by decide +kernel
theorem zd_Mo_clash_15 : decode zc_Mo_clash 15 = .ok (.iload 6, 2) := by decide +kernel
theorem zd_Mo_clash_17 : decode zc_Mo_clash 17 = .ok (.iload 4, 2) := by decide +kernel
theorem zd_Mo_clash_19 : decode zc_Mo_clash 19 = .ok (.invokestatic 132, 3) := by decide +kernel
theorem zd_Mo_clash_22 : decode zc_Mo_clash 22 = .ok (.goto 10, 3) := by decide +kernel
theorem zd_Mo_clash_25 : decode zc_Mo_clash 25 = .ok (.iload 4, 2) := by decide +kernel
theorem zd_Mo_clash_27 : decode zc_Mo_clash 27 = .ok (.iload 6, 2) := by decide +kernel
theorem zd_Mo_clash_29 : decode zc_Mo_clash 29 = .ok (.invokestatic 132, 3) := by decide +kernel
theorem zd_Mo_clash_32 : decode zc_Mo_clash 32 = .ok (.istore 7, 2) := by decide +kernel
theorem zd_Mo_clash_34 : decode zc_Mo_clash 34 = .ok (.iload 7, 2) := by decide +kernel
theorem zd_Mo_clash_36 : decode zc_Mo_clash 36 = .ok (.ifCond .eq 17, 3) := by decide +kernel
theorem zd_Mo_clash_39 : decode zc_Mo_clash 39 = .ok (.aload_n 0, 1) := by decide +kernel
theorem zd_Mo_clash_40 : decode zc_Mo_clash 40 = .ok (.iload_n 1, 1) := by decide +kernel
theorem zd_Mo_clash_41 : decode zc_Mo_clash 41 = .ok (.iload_n 2, 1) := by decide +kernel
theorem zd_Mo_clash_42 : decode zc_Mo_clash 42 = .ok (.iload_n 3, 1) := by decide +kernel
theorem zd_Mo_clash_43 : decode zc_Mo_clash 43 = .ok (.iload 6, 2) := by decide +kernel
theorem zd_Mo_clash_45 : decode zc_Mo_clash 45 = .ok (.invokevirtual 125, 3) := by decide +kernel
theorem zd_Mo_clash_48 : decode zc_Mo_clash 48 = .ok (.ifCond .eq 5, 3) := by decide +kernel
theorem zd_Mo_clash_51 : decode zc_Mo_clash 51 = .ok (.iconst 1, 1) := by decide +kernel
theorem zd_Mo_clash_52 : decode zc_Mo_clash 52 = .ok (.ireturn, 1) := by decide +kernel
theorem zd_Mo_clash_53 : decode zc_Mo_clash 53 = .ok (.iinc 6 1, 3) := by decide +kernel
theorem zd_Mo_clash_56 : decode zc_Mo_clash 56 = .ok (.goto (-53), 3) := by decide +kernel
theorem zd_Mo_clash_59 : decode zc_Mo_clash 59 = .ok (.iconst 0, 1) := by decide +kernel
theorem zd_Mo_clash_60 : decode zc_Mo_clash 60 = .ok (.ireturn, 1) := by decide +kernel
theorem zd_Mo_mayAccept_0 : decode zc_Mo_mayAccept 0 = .ok (.iload_n 2, 1) := by decide +kernel
theorem zd_Mo_mayAccept_1 : decode zc_Mo_mayAccept 1 = .ok (.iconst 1, 1) := by decide +kernel
theorem zd_Mo_mayAccept_2 : decode zc_Mo_mayAccept 2 = .ok (.if_icmp .ne 15, 3) := by decide +kernel
theorem zd_Mo_mayAccept_5 : decode zc_Mo_mayAccept 5 = .ok (.aload_n 0, 1) := by decide +kernel
theorem zd_Mo_mayAccept_6 : decode zc_Mo_mayAccept 6 = .ok (.iload_n 1, 1) := by decide +kernel
theorem zd_Mo_mayAccept_7 : decode zc_Mo_mayAccept 7 = .ok (.iconst 2, 1) := by decide +kernel
theorem zd_Mo_mayAccept_8 : decode zc_Mo_mayAccept 8 = .ok (.iconst 1, 1) := by decide +kernel
theorem zd_Mo_mayAccept_9 : decode zc_Mo_mayAccept 9 = .ok (.iload_n 3, 1) := by decide +kernel
theorem zd_Mo_mayAccept_10 : decode zc_Mo_mayAccept 10 = .ok (.iconst 0, 1) := by decide +kernel
theorem zd_Mo_mayAccept_11 : decode zc_Mo_mayAccept 11 = .ok (.invokevirtual 135, 3) := by decide +kernel
theorem zd_Mo_mayAccept_14 : decode zc_Mo_mayAccept 14 = .ok (.ifCond .ne 20, 3) := by decide +kernel
theorem zd_Mo_mayAccept_17 : decode zc_Mo_mayAccept 17 = .ok (.iload_n 2, 1) := by decide +kernel
theorem zd_Mo_mayAccept_18 : decode zc_Mo_mayAccept 18 = .ok (.iconst 2, 1) := by decide +kernel
theorem zd_Mo_mayAccept_19 : decode zc_Mo_mayAccept 19 = .ok (.if_icmp .ne 17, 3) := by decide +kernel
theorem zd_Mo_mayAccept_22 : decode zc_Mo_mayAccept 22 = .ok (.aload_n 0, 1) := by decide +kernel
theorem zd_Mo_mayAccept_23 : decode zc_Mo_mayAccept 23 = .ok (.iload_n 1, 1) := by decide +kernel
theorem zd_Mo_mayAccept_24 : decode zc_Mo_mayAccept 24 = .ok (.iconst 1, 1) := by decide +kernel
theorem zd_Mo_mayAccept_25 : decode zc_Mo_mayAccept 25 = .ok (.iconst 1, 1) := by decide +kernel
theorem zd_Mo_mayAccept_26 : decode zc_Mo_mayAccept 26 = .ok (.iload_n 3, 1) := by decide +kernel
theorem zd_Mo_mayAccept_27 : decode zc_Mo_mayAccept 27 = .ok (.iconst 1, 1) := by decide +kernel
theorem zd_Mo_mayAccept_28 : decode zc_Mo_mayAccept 28 = .ok (.invokevirtual 135, 3) := by decide +kernel
theorem zd_Mo_mayAccept_31 : decode zc_Mo_mayAccept 31 = .ok (.ifCond .eq 5, 3) := by decide +kernel
theorem zd_Mo_mayAccept_34 : decode zc_Mo_mayAccept 34 = .ok (.iconst 0, 1) := by decide +kernel
theorem zd_Mo_mayAccept_35 : decode zc_Mo_mayAccept 35 = .ok (.ireturn, 1) := by decide +kernel
theorem zd_Mo_mayAccept_36 : decode zc_Mo_mayAccept 36 = .ok (.aload_n 0, 1) := by decide +kernel
theorem zd_Mo_mayAccept_37 : decode zc_Mo_mayAccept 37 = .ok (.iload_n 1, 1) := by decide +kernel
theorem zd_Mo_mayAccept_38 : decode zc_Mo_mayAccept 38 = .ok (.iload_n 2, 1) := by decide +kernel
theorem zd_Mo_mayAccept_39 : decode zc_Mo_mayAccept 39 = .ok (.iload_n 3, 1) := by decide +kernel
theorem zd_Mo_mayAccept_40 : decode zc_Mo_mayAccept 40 = .ok (.iconst 0, 1) := by decide +kernel
theorem zd_Mo_mayAccept_41 : decode zc_Mo_mayAccept 41 = .ok (.invokevirtual 139, 3) := by decide +kernel
theorem zd_Mo_mayAccept_44 : decode zc_Mo_mayAccept 44 = .ok (.istore 4, 2) := by decide +kernel
theorem zd_Mo_mayAccept_46 : decode zc_Mo_mayAccept 46 = .ok (.aload_n 0, 1) := by decide +kernel
theorem zd_Mo_mayAccept_47 : decode zc_Mo_mayAccept 47 = .ok (.iload_n 1, 1) := by decide +kernel
theorem zd_Mo_mayAccept_48 : decode zc_Mo_mayAccept 48 = .ok (.iload_n 2, 1) := by decide +kernel
theorem zd_Mo_mayAccept_49 : decode zc_Mo_mayAccept 49 = .ok (.iload_n 3, 1) := by decide +kernel
theorem zd_Mo_mayAccept_50 : decode zc_Mo_mayAccept 50 = .ok (.iconst 1, 1) := by decide +kernel
theorem zd_Mo_mayAccept_51 : decode zc_Mo_mayAccept 51 = .ok (.invokevirtual 139, 3) := by decide +kernel
theorem zd_Mo_mayAccept_54 : decode zc_Mo_mayAccept 54 = .ok (.istore 5, 2) := by decide +kernel
theorem zd_Mo_mayAccept_56 : decode zc_Mo_mayAccept 56 = .ok (.aload_n 0, 1) := by decide +kernel
theorem zd_Mo_mayAccept_57 : decode zc_Mo_mayAccept 57 = .ok (.bipush 31, 2) := by decide +kernel
theorem zd_Mo_mayAccept_59 : decode zc_Mo_mayAccept 59 = .ok (.iload 5, 2) := by decide +kernel
theorem zd_Mo_mayAccept_61 : decode zc_Mo_mayAccept 61 = .ok (.iconst (-1), 1) := by decide +kernel
theorem zd_Mo_mayAccept_62 : decode zc_Mo_mayAccept 62 = .ok (.ixor, 1) := by decide +kernel
theorem zd_Mo_mayAccept_63 : decode zc_Mo_mayAccept 63 = .ok (.iand, 1) := by decide +kernel
theorem zd_Mo_mayAccept_64 : decode zc_Mo_mayAccept 64 = .ok (.iload_n 1, 1) := by decide +kernel
theorem zd_Mo_mayAccept_65 : decode zc_Mo_mayAccept 65 = .ok (.invokevirtual 113, 3) := by decide +kernel
theorem zd_Mo_mayAccept_68 : decode zc_Mo_mayAccept 68 = .ok (.ifCond .ne 7, 3) := by decide +kernel
theorem zd_Mo_mayAccept_71 : decode zc_Mo_mayAccept 71 = .ok (.iconst 1, 1) := by decide +kernel
theorem zd_Mo_mayAccept_72 : decode zc_Mo_mayAccept 72 = .ok (.goto 4, 3) := by decide +kernel
theorem zd_Mo_mayAccept_75 : decode zc_Mo_mayAccept 75 = .ok (.iconst 0, 1) := by decide +kernel
theorem zd_Mo_mayAccept_76 : decode zc_Mo_mayAccept 76 = .ok (.istore 6, 2) := by decide +kernel
theorem zd_Mo_mayAccept_78 : decode zc_Mo_mayAccept 78 = .ok (.iload 6, 2) := by decide +kernel
theorem zd_Mo_mayAccept_80 : decode zc_Mo_mayAccept 80 = .ok (.ifCond .ne 13, 3) := by decide +kernel
theorem zd_Mo_mayAccept_83 : decode zc_Mo_mayAccept 83 = .ok (.aload_n 0, 1) := by decide +kernel
theorem zd_Mo_mayAccept_84 : decode zc_Mo_mayAccept 84 = .ok (.iload 4, 2) := by decide +kernel
theorem zd_Mo_mayAccept_86 : decode zc_Mo_mayAccept 86 = .ok (.iload_n 1, 1) := by decide +kernel
theorem zd_Mo_mayAccept_87 : decode zc_Mo_mayAccept 87 = .ok (.invokevirtual 143, 3) := by decide +kernel
theorem zd_Mo_mayAccept_90 : decode zc_Mo_mayAccept 90 = .ok (.ifCond .eq 7, 3) := by decide +kernel
theorem zd_Mo_mayAccept_93 : decode zc_Mo_mayAccept 93 = .ok (.iconst 1, 1) := by decide +kernel
theorem zd_Mo_mayAccept_94 : decode zc_Mo_mayAccept 94 = .ok (.goto 4, 3) := by decide +kernel
theorem zd_Mo_mayAccept_97 : decode zc_Mo_mayAccept 97 = .ok (.iconst 0, 1) := by decide +kernel
theorem zd_Mo_mayAccept_98 : decode zc_Mo_mayAccept 98 = .ok (.ireturn, 1) := by decide +kernel
theorem zd_Mo_mayConfirm_0 : decode zc_Mo_mayConfirm 0 = .ok (.aload_n 0, 1) := by decide +kernel
theorem zd_Mo_mayConfirm_1 : decode zc_Mo_mayConfirm 1 = .ok (.iload_n 1, 1) := by decide +kernel
theorem zd_Mo_mayConfirm_2 : decode zc_Mo_mayConfirm 2 = .ok (.iload_n 2, 1) := by decide +kernel
theorem zd_Mo_mayConfirm_3 : decode zc_Mo_mayConfirm 3 = .ok (.iload_n 3, 1) := by decide +kernel
theorem zd_Mo_mayConfirm_4 : decode zc_Mo_mayConfirm 4 = .ok (.iconst 1, 1) := by decide +kernel
theorem zd_Mo_mayConfirm_5 : decode zc_Mo_mayConfirm 5 = .ok (.invokevirtual 139, 3) := by decide +kernel
theorem zd_Mo_mayConfirm_8 : decode zc_Mo_mayConfirm 8 = .ok (.istore 4, 2) := by decide +kernel
theorem zd_Mo_mayConfirm_10 : decode zc_Mo_mayConfirm 10 = .ok (.aload_n 0, 1) := by decide +kernel
theorem zd_Mo_mayConfirm_11 : decode zc_Mo_mayConfirm 11 = .ok (.iload 4, 2) := by decide +kernel
theorem zd_Mo_mayConfirm_13 : decode zc_Mo_mayConfirm 13 = .ok (.iload_n 1, 1) := by decide +kernel
theorem zd_Mo_mayConfirm_14 : decode zc_Mo_mayConfirm 14 = .ok (.invokevirtual 143, 3) := by decide +kernel
theorem zd_Mo_mayConfirm_17 : decode zc_Mo_mayConfirm 17 = .ok (.ireturn, 1) := by decide +kernel
theorem zd_Mo_composite_0 : decode zc_Mo_composite 0 = .ok (.iconst 0, 1) := by decide +kernel
theorem zd_Mo_composite_1 : decode zc_Mo_composite 1 = .ok (.istore_n 2, 1) := by decide +kernel
theorem zd_Mo_composite_2 : decode zc_Mo_composite 2 = .ok (.iconst 1, 1) := by decide +kernel
theorem zd_Mo_composite_3 : decode zc_Mo_composite 3 = .ok (.istore_n 3, 1) := by decide +kernel
theorem zd_Mo_composite_4 : decode zc_Mo_composite 4 = .ok (.iload_n 3, 1) := by decide +kernel
theorem zd_Mo_composite_5 : decode zc_Mo_composite 5 = .ok (.bipush 8, 2) := by decide +kernel
theorem zd_Mo_composite_7 : decode zc_Mo_composite 7 = .ok (.if_icmp .ge 28, 3) := by decide +kernel
theorem zd_Mo_composite_10 : decode zc_Mo_composite 10 = .ok (.aload_n 0, 1) := by decide +kernel
theorem zd_Mo_composite_11 : decode zc_Mo_composite 11 = .ok (.iload_n 1, 1) := by decide +kernel
theorem zd_Mo_composite_12 : decode zc_Mo_composite 12 = .ok (.iconst 0, 1) := by decide +kernel
theorem zd_Mo_composite_13 : decode zc_Mo_composite 13 = .ok (.iconst 2, 1) := by decide +kernel
theorem zd_Mo_composite_14 : decode zc_Mo_composite 14 = .ok (.iload_n 3, 1) := by decide +kernel
theorem zd_Mo_composite_15 : decode zc_Mo_composite 15 = .ok (.invokevirtual 125, 3) := by decide +kernel
theorem zd_Mo_composite_18 : decode zc_Mo_composite 18 = .ok (.ifCond .eq 9, 3) := by decide +kernel
theorem zd_Mo_composite_21 : decode zc_Mo_composite 21 = .ok (.iload_n 2, 1) := by decide +kernel
theorem zd_Mo_composite_22 : decode zc_Mo_composite 22 = .ok (.iload_n 3, 1) := by decide +kernel
theorem zd_Mo_composite_23 : decode zc_Mo_composite 23 = .ok (.ior, 1) := by decide +kernel
theorem zd_Mo_composite_24 : decode zc_Mo_composite 24 = .ok (.goto 4, 3) := by decide +kernel
theorem zd_Mo_composite_27 : decode zc_Mo_composite 27 = .ok (.iload_n 2, 1) := by decide +kernel
theorem zd_Mo_composite_28 : decode zc_Mo_composite 28 = .ok (.istore_n 2, 1) := by decide +kernel
theorem zd_Mo_composite_29 : decode zc_Mo_composite 29 = .ok (.iinc 3 1, 3) := by decide +kernel
theorem zd_Mo_composite_32 : decode zc_Mo_composite 32 = .ok (.goto (-28), 3) := by decide +kernel
theorem zd_Mo_composite_35 : decode zc_Mo_composite 35 = .ok (.iload_n 2, 1) := by decide +kernel
theorem zd_Mo_composite_36 : decode zc_Mo_composite 36 = .ok (.ireturn, 1) := by decide +kernel
theorem zd_Mo_toPrepare_0 : decode zc_Mo_toPrepare 0 = .ok (.bipush 27, 2) := by decide +kernel
theorem zd_Mo_toPrepare_2 : decode zc_Mo_toPrepare 2 = .ok (.istore_n 2, 1) := by decide +kernel
theorem zd_Mo_toPrepare_3 : decode zc_Mo_toPrepare 3 = .ok (.iload_n 2, 1) := by decide +kernel
theorem zd_Mo_toPrepare_4 : decode zc_Mo_toPrepare 4 = .ok (.ifCond .lt 25, 3) := by decide +kernel
theorem zd_Mo_toPrepare_7 : decode zc_Mo_toPrepare 7 = .ok (.aload_n 0, 1) := by decide +kernel
theorem zd_Mo_toPrepare_8 : decode zc_Mo_toPrepare 8 = .ok (.iload_n 1, 1) := by decide +kernel
theorem zd_Mo_toPrepare_9 : decode zc_Mo_toPrepare 9 = .ok (.iconst 1, 1) := by decide +kernel
theorem zd_Mo_toPrepare_10 : decode zc_Mo_toPrepare 10 = .ok (.iconst 2, 1) := by decide +kernel
theorem zd_Mo_toPrepare_11 : decode zc_Mo_toPrepare 11 = .ok (.iload_n 2, 1) := by decide +kernel
theorem zd_Mo_toPrepare_12 : decode zc_Mo_toPrepare 12 = .ok (.invokevirtual 125, 3) := by decide +kernel
theorem zd_Mo_toPrepare_15 : decode zc_Mo_toPrepare 15 = .ok (.ifCond .eq 8, 3) := by decide +kernel
theorem zd_Mo_toPrepare_18 : decode zc_Mo_toPrepare 18 = .ok (.iload_n 2, 1) := by decide +kernel
theorem zd_Mo_toPrepare_19 : decode zc_Mo_toPrepare 19 = .ok (.invokestatic 129, 3) := by decide +kernel
theorem zd_Mo_toPrepare_22 : decode zc_Mo_toPrepare 22 = .ok (.ireturn, 1) := by decide +kernel
theorem zd_Mo_toPrepare_23 : decode zc_Mo_toPrepare 23 = .ok (.iinc 2 (-1), 3) := by decide +kernel
theorem zd_Mo_toPrepare_26 : decode zc_Mo_toPrepare 26 = .ok (.goto (-23), 3) := by decide +kernel
theorem zd_Mo_toPrepare_29 : decode zc_Mo_toPrepare 29 = .ok (.aload_n 0, 1) := by decide +kernel
theorem zd_Mo_toPrepare_30 : decode zc_Mo_toPrepare 30 = .ok (.iload_n 1, 1) := by decide +kernel
theorem zd_Mo_toPrepare_31 : decode zc_Mo_toPrepare 31 = .ok (.invokevirtual 146, 3) := by decide +kernel
theorem zd_Mo_toPrepare_34 : decode zc_Mo_toPrepare 34 = .ok (.ireturn, 1) := by decide +kernel
theorem zd_Mo_votePrepare_0 : decode zc_Mo_votePrepare 0 = .ok (.aload_n 0, 1) := by decide +kernel
theorem zd_Mo_votePrepare_1 : decode zc_Mo_votePrepare 1 = .ok (.iload_n 1, 1) := by decide +kernel
theorem zd_Mo_votePrepare_2 : decode zc_Mo_votePrepare 2 = .ok (.invokevirtual 149, 3) := by decide +kernel
theorem zd_Mo_votePrepare_5 : decode zc_Mo_votePrepare 5 = .ok (.istore_n 2, 1) := by decide +kernel
theorem zd_Mo_votePrepare_6 : decode zc_Mo_votePrepare 6 = .ok (.aload_n 0, 1) := by decide +kernel
theorem zd_Mo_votePrepare_7 : decode zc_Mo_votePrepare 7 = .ok (.iload_n 1, 1) := by decide +kernel
theorem zd_Mo_votePrepare_8 : decode zc_Mo_votePrepare 8 = .ok (.iconst 1, 1) := by decide +kernel
theorem zd_Mo_votePrepare_9 : decode zc_Mo_votePrepare 9 = .ok (.iconst 0, 1) := by decide +kernel
theorem zd_Mo_votePrepare_10 : decode zc_Mo_votePrepare 10 = .ok (.bipush 7, 2) := by decide +kernel
theorem zd_Mo_votePrepare_12 : decode zc_Mo_votePrepare 12 = .ok (.aload_n 0, 1) := by decide +kernel
theorem zd_Mo_votePrepare_13 : decode zc_Mo_votePrepare 13 = .ok (.getfield 35, 3) := by decide +kernel
theorem zd_Mo_votePrepare_16 : decode zc_Mo_votePrepare 16 = .ok (.iload_n 1, 1) := by decide +kernel
theorem zd_Mo_votePrepare_17 : decode zc_Mo_votePrepare 17 = .ok (.iaload, 1) := by decide +kernel
theorem zd_Mo_votePrepare_18 : decode zc_Mo_votePrepare 18 = .ok (.iconst 1, 1) := by decide +kernel
theorem zd_Mo_votePrepare_19 : decode zc_Mo_votePrepare 19 = .ok (.isub, 1) := by decide +kernel
theorem zd_Mo_votePrepare_20 : decode zc_Mo_votePrepare 20 = .ok (.imul, 1) := by decide +kernel
theorem zd_Mo_votePrepare_21 : decode zc_Mo_votePrepare 21 = .ok (.iload_n 2, 1) := by decide +kernel
theorem zd_Mo_votePrepare_22 : decode zc_Mo_votePrepare 22 = .ok (.iadd, 1) := by decide +kernel
theorem zd_Mo_votePrepare_23 : decode zc_Mo_votePrepare 23 = .ok (.iconst 1, 1) := by decide +kernel
theorem zd_Mo_votePrepare_24 : decode zc_Mo_votePrepare 24 = .ok (.isub, 1) := by decide +kernel
theorem zd_Mo_votePrepare_25 : decode zc_Mo_votePrepare 25 = .ok (.invokevirtual 152, 3) := by decide +kernel
theorem zd_Mo_votePrepare_28 : decode zc_Mo_votePrepare 28 = .ok (.ireturn, 1) := by decide +kernel
theorem zd_Mo_ruleA_0 : decode zc_Mo_ruleA 0 = .ok (.iconst 0, 1) := by decide +kernel
theorem zd_Mo_ruleA_1 : decode zc_Mo_ruleA 1 = .ok (.istore_n 2, 1) := by decide +kernel
theorem zd_Mo_ruleA_2 : decode zc_Mo_ruleA 2 = .ok (.aload_n 0, 1) := by decide +kernel
theorem zd_Mo_ruleA_3 : decode zc_Mo_ruleA 3 = .ok (.getfield 41, 3) := by decide +kernel
theorem zd_Mo_ruleA_6 : decode zc_Mo_ruleA 6 = .ok (.aload_n 0, 1) := by decide +kernel
theorem zd_Mo_ruleA_7 : decode zc_Mo_ruleA 7 = .ok (.iload_n 1, 1) := by decide +kernel
theorem zd_Mo_ruleA_8 : decode zc_Mo_ruleA 8 = .ok (.iconst 0, 1) := by decide +kernel
theorem zd_Mo_ruleA_9 : decode zc_Mo_ruleA 9 = .ok (.iconst 2, 1) := by decide +kernel
theorem zd_Mo_ruleA_10 : decode zc_Mo_ruleA 10 = .ok (.invokevirtual 121, 3) := by decide +kernel
theorem zd_Mo_ruleA_13 : decode zc_Mo_ruleA 13 = .ok (.iaload, 1) := by decide +kernel
theorem zd_Mo_ruleA_14 : decode zc_Mo_ruleA 14 = .ok (.ifCond .eq 5, 3) := by decide +kernel
theorem zd_Mo_ruleA_17 : decode zc_Mo_ruleA 17 = .ok (.iconst 0, 1) := by decide +kernel
theorem zd_Mo_ruleA_18 : decode zc_Mo_ruleA 18 = .ok (.ireturn, 1) := by decide +kernel
theorem zd_Mo_ruleA_19 : decode zc_Mo_ruleA 19 = .ok (.iconst 1, 1) := by decide +kernel
theorem zd_Mo_ruleA_20 : decode zc_Mo_ruleA 20 = .ok (.istore_n 3, 1) := by decide +kernel
theorem zd_Mo_ruleA_21 : decode zc_Mo_ruleA 21 = .ok (.iload_n 3, 1) := by decide +kernel
theorem zd_Mo_ruleA_22 : decode zc_Mo_ruleA 22 = .ok (.bipush 8, 2) := by decide +kernel
theorem zd_Mo_ruleA_24 : decode zc_Mo_ruleA 24 = .ok (.if_icmp .ge 88, 3) := by decide +kernel
theorem zd_Mo_ruleA_27 : decode zc_Mo_ruleA 27 = .ok (.aload_n 0, 1) := by decide +kernel
theorem zd_Mo_ruleA_28 : decode zc_Mo_ruleA 28 = .ok (.iload_n 1, 1) := by decide +kernel
theorem zd_Mo_ruleA_29 : decode zc_Mo_ruleA 29 = .ok (.iconst 0, 1) := by decide +kernel
theorem zd_Mo_ruleA_30 : decode zc_Mo_ruleA 30 = .ok (.iload_n 3, 1) := by decide +kernel
theorem zd_Mo_ruleA_31 : decode zc_Mo_ruleA 31 = .ok (.iconst 0, 1) := by decide +kernel
theorem zd_Mo_ruleA_32 : decode zc_Mo_ruleA 32 = .ok (.invokevirtual 139, 3) := by decide +kernel
theorem zd_Mo_ruleA_35 : decode zc_Mo_ruleA 35 = .ok (.istore 4, 2) := by decide +kernel
theorem zd_Mo_ruleA_37 : decode zc_Mo_ruleA 37 = .ok (.aload_n 0, 1) := by decide +kernel
theorem zd_Mo_ruleA_38 : decode zc_Mo_ruleA 38 = .ok (.getfield 32, 3) := by decide +kernel
theorem zd_Mo_ruleA_41 : decode zc_Mo_ruleA 41 = .ok (.iload_n 1, 1) := by decide +kernel
theorem zd_Mo_ruleA_42 : decode zc_Mo_ruleA 42 = .ok (.iaload, 1) := by decide +kernel
theorem zd_Mo_ruleA_43 : decode zc_Mo_ruleA 43 = .ok (.iload_n 1, 1) := by decide +kernel
theorem zd_Mo_ruleA_44 : decode zc_Mo_ruleA 44 = .ok (.ishr, 1) := by decide +kernel
theorem zd_Mo_ruleA_45 : decode zc_Mo_ruleA 45 = .ok (.iconst 1, 1) := by decide +kernel
theorem zd_Mo_ruleA_46 : decode zc_Mo_ruleA 46 = .ok (.iand, 1) := by decide +kernel
theorem zd_Mo_ruleA_47 : decode zc_Mo_ruleA 47 = .ok (.iconst 1, 1) := by decide +kernel
theorem zd_Mo_ruleA_48 : decode zc_Mo_ruleA 48 = .ok (.if_icmp .ne 17, 3) := by decide +kernel
theorem zd_Mo_ruleA_51 : decode zc_Mo_ruleA 51 = .ok (.aload_n 0, 1) := by decide +kernel
theorem zd_Mo_ruleA_52 : decode zc_Mo_ruleA 52 = .ok (.getfield 38, 3) := by decide +kernel
theorem zd_Mo_ruleA_55 : decode zc_Mo_ruleA 55 = .ok (.iload_n 1, 1) := by decide +kernel
theorem zd_Mo_ruleA_56 : decode zc_Mo_ruleA 56 = .ok (.iaload, 1) := by decide +kernel
theorem zd_Mo_ruleA_57 : decode zc_Mo_ruleA 57 = .ok (.iload_n 3, 1) := by decide +kernel
theorem zd_Mo_ruleA_58 : decode zc_Mo_ruleA 58 = .ok (.if_icmp .ne 7, 3) := by decide +kernel
theorem zd_Mo_ruleA_61 : decode zc_Mo_ruleA 61 = .ok (.iconst 1, 1) := by decide +kernel
theorem zd_Mo_ruleA_62 : decode zc_Mo_ruleA 62 = .ok (.goto 4, 3) := by decide +kernel
theorem zd_Mo_ruleA_65 : decode zc_Mo_ruleA 65 = .ok (.iconst 0, 1) := by decide +kernel
theorem zd_Mo_ruleA_66 : decode zc_Mo_ruleA 66 = .ok (.istore 5, 2) := by decide +kernel
theorem zd_Mo_ruleA_68 : decode zc_Mo_ruleA 68 = .ok (.iload 5, 2) := by decide +kernel
theorem zd_Mo_ruleA_70 : decode zc_Mo_ruleA 70 = .ok (.ifCond .ne 15, 3) := by decide +kernel
theorem zd_Mo_ruleA_73 : decode zc_Mo_ruleA 73 = .ok (.iload 4, 2) := by decide +kernel
theorem zd_Mo_ruleA_75 : decode zc_Mo_ruleA 75 = .ok (.aload_n 0, 1) := by decide +kernel
theorem zd_Mo_ruleA_76 : decode zc_Mo_ruleA 76 = .ok (.getfield 32, 3) := by decide +kernel
theorem zd_Mo_ruleA_79 : decode zc_Mo_ruleA 79 = .ok (.iload_n 1, 1) := by decide +kernel
theorem zd_Mo_ruleA_80 : decode zc_Mo_ruleA 80 = .ok (.iaload, 1) := by decide +kernel
theorem zd_Mo_ruleA_81 : decode zc_Mo_ruleA 81 = .ok (.iand, 1) := by decide +kernel
theorem zd_Mo_ruleA_82 : decode zc_Mo_ruleA 82 = .ok (.ifCond .eq 24, 3) := by decide +kernel
theorem zd_Mo_ruleA_85 : decode zc_Mo_ruleA 85 = .ok (.aload_n 0, 1) := by decide +kernel
theorem zd_Mo_ruleA_86 : decode zc_Mo_ruleA 86 = .ok (.iload_n 1, 1) := by decide +kernel
theorem zd_Mo_ruleA_87 : decode zc_Mo_ruleA 87 = .ok (.iconst 0, 1) := by decide +kernel
theorem zd_Mo_ruleA_88 : decode zc_Mo_ruleA 88 = .ok (.iconst 0, 1) := by decide +kernel
theorem zd_Mo_ruleA_89 : decode zc_Mo_ruleA 89 = .ok (.iload_n 3, 1) := by decide +kernel
theorem zd_Mo_ruleA_90 : decode zc_Mo_ruleA 90 = .ok (.invokevirtual 152, 3) := by decide +kernel
theorem zd_Mo_ruleA_93 : decode zc_Mo_ruleA 93 = .ok (.ifCond .ne 7, 3) := by decide +kernel
theorem zd_Mo_ruleA_96 : decode zc_Mo_ruleA 96 = .ok (.iload_n 2, 1) := by decide +kernel
theorem zd_Mo_ruleA_97 : decode zc_Mo_ruleA 97 = .ok (.ifCond .eq 7, 3) := by decide +kernel
theorem zd_Mo_ruleA_100 : decode zc_Mo_ruleA 100 = .ok (.iconst 1, 1) := by decide +kernel
theorem zd_Mo_ruleA_101 : decode zc_Mo_ruleA 101 = .ok (.goto 4, 3) := by decide +kernel
theorem zd_Mo_ruleA_104 : decode zc_Mo_ruleA 104 = .ok (.iconst 0, 1) := by decide +kernel
theorem zd_Mo_ruleA_105 : decode zc_Mo_ruleA 105 = .ok (.istore_n 2, 1) := by decide +kernel
theorem zd_Mo_ruleA_106 : decode zc_Mo_ruleA 106 = .ok (.iinc 3 1, 3) := by decide +kernel
theorem zd_Mo_ruleA_109 : decode zc_Mo_ruleA 109 = .ok (.goto (-88), 3) := by decide +kernel
theorem zd_Mo_ruleA_112 : decode zc_Mo_ruleA 112 = .ok (.iload_n 2, 1) := by decide +kernel
theorem zd_Mo_ruleA_113 : decode zc_Mo_ruleA 113 = .ok (.ireturn, 1) := by decide +kernel
theorem zd_Mo_accept_0 : decode zc_Mo_accept 0 = .ok (.iconst 0, 1) := by decide +kernel
theorem zd_Mo_accept_1 : decode zc_Mo_accept 1 = .ok (.istore 5, 2) := by decide +kernel
theorem zd_Mo_accept_3 : decode zc_Mo_accept 3 = .ok (.iload_n 3, 1) := by decide +kernel
theorem zd_Mo_accept_4 : decode zc_Mo_accept 4 = .ok (.istore 6, 2) := by decide +kernel
theorem zd_Mo_accept_6 : decode zc_Mo_accept 6 = .ok (.iload 6, 2) := by decide +kernel
theorem zd_Mo_accept_8 : decode zc_Mo_accept 8 = .ok (.iload 4, 2) := by decide +kernel
theorem zd_Mo_accept_10 : decode zc_Mo_accept 10 = .ok (.if_icmp .gt 56, 3) := by decide +kernel
theorem zd_Mo_accept_13 : decode zc_Mo_accept 13 = .ok (.aload_n 0, 1) := by decide +kernel
theorem zd_Mo_accept_14 : decode zc_Mo_accept 14 = .ok (.iload_n 1, 1) := by decide +kernel
theorem zd_Mo_accept_15 : decode zc_Mo_accept 15 = .ok (.iload_n 2, 1) := by decide +kernel
theorem zd_Mo_accept_16 : decode zc_Mo_accept 16 = .ok (.iconst 1, 1) := by decide +kernel
theorem zd_Mo_accept_17 : decode zc_Mo_accept 17 = .ok (.iload 6, 2) := by decide +kernel
theorem zd_Mo_accept_19 : decode zc_Mo_accept 19 = .ok (.invokevirtual 125, 3) := by decide +kernel
theorem zd_Mo_accept_22 : decode zc_Mo_accept 22 = .ok (.ifCond .ne 38, 3) := by decide +kernel
theorem zd_Mo_accept_25 : decode zc_Mo_accept 25 = .ok (.aload_n 0, 1) := by decide +kernel
theorem zd_Mo_accept_26 : decode zc_Mo_accept 26 = .ok (.iload_n 1, 1) := by decide +kernel
theorem zd_Mo_accept_27 : decode zc_Mo_accept 27 = .ok (.iload_n 2, 1) := by decide +kernel
theorem zd_Mo_accept_28 : decode zc_Mo_accept 28 = .ok (.iload 6, 2) := by decide +kernel
theorem zd_Mo_accept_30 : decode zc_Mo_accept 30 = .ok (.invokevirtual 155, 3) := by decide +kernel
theorem zd_Mo_accept_33 : decode zc_Mo_accept 33 = .ok (.ifCond .eq 27, 3) := by decide +kernel
theorem zd_Mo_accept_36 : decode zc_Mo_accept 36 = .ok (.aload_n 0, 1) := by decide +kernel
theorem zd_Mo_accept_37 : decode zc_Mo_accept 37 = .ok (.iload_n 1, 1) := by decide +kernel
theorem zd_Mo_accept_38 : decode zc_Mo_accept 38 = .ok (.iload_n 2, 1) := by decide +kernel
theorem zd_Mo_accept_39 : decode zc_Mo_accept 39 = .ok (.iconst 1, 1) := by decide +kernel
theorem zd_Mo_accept_40 : decode zc_Mo_accept 40 = .ok (.iload 6, 2) := by decide +kernel
theorem zd_Mo_accept_42 : decode zc_Mo_accept 42 = .ok (.invokevirtual 152, 3) := by decide +kernel
theorem zd_Mo_accept_45 : decode zc_Mo_accept 45 = .ok (.ifCond .ne 8, 3) := by decide +kernel
theorem zd_Mo_accept_48 : decode zc_Mo_accept 48 = .ok (.iload 5, 2) := by decide +kernel
theorem zd_Mo_accept_50 : decode zc_Mo_accept 50 = .ok (.ifCond .eq 7, 3) := by decide +kernel
theorem zd_Mo_accept_53 : decode zc_Mo_accept 53 = .ok (.iconst 1, 1) := by decide +kernel
theorem zd_Mo_accept_54 : decode zc_Mo_accept 54 = .ok (.goto 4, 3) := by decide +kernel
theorem zd_Mo_accept_57 : decode zc_Mo_accept 57 = .ok (.iconst 0, 1) := by decide +kernel
theorem zd_Mo_accept_58 : decode zc_Mo_accept 58 = .ok (.istore 5, 2) := by decide +kernel
theorem zd_Mo_accept_60 : decode zc_Mo_accept 60 = .ok (.iinc 6 1, 3) := by decide +kernel
theorem zd_Mo_accept_63 : decode zc_Mo_accept 63 = .ok (.goto (-57), 3) := by decide +kernel
theorem zd_Mo_accept_66 : decode zc_Mo_accept 66 = .ok (.iload 5, 2) := by decide +kernel
theorem zd_Mo_accept_68 : decode zc_Mo_accept 68 = .ok (.ireturn, 1) := by decide +kernel
theorem zd_Mo_confirm_0 : decode zc_Mo_confirm 0 = .ok (.iconst 0, 1) := by decide +kernel
theorem zd_Mo_confirm_1 : decode zc_Mo_confirm 1 = .ok (.istore 5, 2) := by decide +kernel
theorem zd_Mo_confirm_3 : decode zc_Mo_confirm 3 = .ok (.iload_n 3, 1) := by decide +kernel
theorem zd_Mo_confirm_4 : decode zc_Mo_confirm 4 = .ok (.istore 6, 2) := by decide +kernel
theorem zd_Mo_confirm_6 : decode zc_Mo_confirm 6 = .ok (.iload 6, 2) := by decide +kernel
theorem zd_Mo_confirm_8 : decode zc_Mo_confirm 8 = .ok (.iload 4, 2) := by decide +kernel
theorem zd_Mo_confirm_10 : decode zc_Mo_confirm 10 = .ok (.if_icmp .gt 56, 3) := by decide +kernel
theorem zd_Mo_confirm_13 : decode zc_Mo_confirm 13 = .ok (.aload_n 0, 1) := by decide +kernel
theorem zd_Mo_confirm_14 : decode zc_Mo_confirm 14 = .ok (.iload_n 1, 1) := by decide +kernel
theorem zd_Mo_confirm_15 : decode zc_Mo_confirm 15 = .ok (.iload_n 2, 1) := by decide +kernel
theorem zd_Mo_confirm_16 : decode zc_Mo_confirm 16 = .ok (.iconst 2, 1) := by decide +kernel
theorem zd_Mo_confirm_17 : decode zc_Mo_confirm 17 = .ok (.iload 6, 2) := by decide +kernel
theorem zd_Mo_confirm_19 : decode zc_Mo_confirm 19 = .ok (.invokevirtual 125, 3) := by decide +kernel
theorem zd_Mo_confirm_22 : decode zc_Mo_confirm 22 = .ok (.ifCond .ne 38, 3) := by decide +kernel
theorem zd_Mo_confirm_25 : decode zc_Mo_confirm 25 = .ok (.aload_n 0, 1) := by decide +kernel
theorem zd_Mo_confirm_26 : decode zc_Mo_confirm 26 = .ok (.iload_n 1, 1) := by decide +kernel
theorem zd_Mo_confirm_27 : decode zc_Mo_confirm 27 = .ok (.iload_n 2, 1) := by decide +kernel
theorem zd_Mo_confirm_28 : decode zc_Mo_confirm 28 = .ok (.iload 6, 2) := by decide +kernel
theorem zd_Mo_confirm_30 : decode zc_Mo_confirm 30 = .ok (.invokevirtual 158, 3) := by decide +kernel
theorem zd_Mo_confirm_33 : decode zc_Mo_confirm 33 = .ok (.ifCond .eq 27, 3) := by decide +kernel
theorem zd_Mo_confirm_36 : decode zc_Mo_confirm 36 = .ok (.aload_n 0, 1) := by decide +kernel
theorem zd_Mo_confirm_37 : decode zc_Mo_confirm 37 = .ok (.iload_n 1, 1) := by decide +kernel
theorem zd_Mo_confirm_38 : decode zc_Mo_confirm 38 = .ok (.iload_n 2, 1) := by decide +kernel
theorem zd_Mo_confirm_39 : decode zc_Mo_confirm 39 = .ok (.iconst 2, 1) := by decide +kernel
theorem zd_Mo_confirm_40 : decode zc_Mo_confirm 40 = .ok (.iload 6, 2) := by decide +kernel
theorem zd_Mo_confirm_42 : decode zc_Mo_confirm 42 = .ok (.invokevirtual 152, 3) := by decide +kernel
theorem zd_Mo_confirm_45 : decode zc_Mo_confirm 45 = .ok (.ifCond .ne 8, 3) := by decide +kernel
theorem zd_Mo_confirm_48 : decode zc_Mo_confirm 48 = .ok (.iload 5, 2) := by decide +kernel
theorem zd_Mo_confirm_50 : decode zc_Mo_confirm 50 = .ok (.ifCond .eq 7, 3) := by decide +kernel
theorem zd_Mo_confirm_53 : decode zc_Mo_confirm 53 = .ok (.iconst 1, 1) := by decide +kernel
theorem zd_Mo_confirm_54 : decode zc_Mo_confirm 54 = .ok (.goto 4, 3) := by decide +kernel
theorem zd_Mo_confirm_57 : decode zc_Mo_confirm 57 = .ok (.iconst 0, 1) := by decide +kernel
theorem zd_Mo_confirm_58 : decode zc_Mo_confirm 58 = .ok (.istore 5, 2) := by decide +kernel
theorem zd_Mo_confirm_60 : decode zc_Mo_confirm 60 = .ok (.iinc 6 1, 3) := by decide +kernel
theorem zd_Mo_confirm_63 : decode zc_Mo_confirm 63 = .ok (.goto (-57), 3) := by decide +kernel
theorem zd_Mo_confirm_66 : decode zc_Mo_confirm 66 = .ok (.iload 5, 2) := by decide +kernel
theorem zd_Mo_confirm_68 : decode zc_Mo_confirm 68 = .ok (.ireturn, 1) := by decide +kernel
theorem zd_Mo_ruleD_0 : decode zc_Mo_ruleD 0 = .ok (.aload_n 0, 1) := by decide +kernel
theorem zd_Mo_ruleD_1 : decode zc_Mo_ruleD 1 = .ok (.getfield 35, 3) := by decide +kernel
theorem zd_Mo_ruleD_4 : decode zc_Mo_ruleD 4 = .ok (.iload_n 1, 1) := by decide +kernel
theorem zd_Mo_ruleD_5 : decode zc_Mo_ruleD 5 = .ok (.iaload, 1) := by decide +kernel
theorem zd_Mo_ruleD_6 : decode zc_Mo_ruleD 6 = .ok (.ifCond .ne 11, 3) := by decide +kernel
theorem zd_Mo_ruleD_9 : decode zc_Mo_ruleD 9 = .ok (.aload_n 0, 1) := by decide +kernel
theorem zd_Mo_ruleD_10 : decode zc_Mo_ruleD 10 = .ok (.iload_n 1, 1) := by decide +kernel
theorem zd_Mo_ruleD_11 : decode zc_Mo_ruleD 11 = .ok (.invokevirtual 146, 3) := by decide +kernel
theorem zd_Mo_ruleD_14 : decode zc_Mo_ruleD 14 = .ok (.ifCond .ne 5, 3) := by decide +kernel
theorem zd_Mo_ruleD_17 : decode zc_Mo_ruleD 17 = .ok (.iconst 0, 1) := by decide +kernel
theorem zd_Mo_ruleD_18 : decode zc_Mo_ruleD 18 = .ok (.ireturn, 1) := by decide +kernel
theorem zd_Mo_ruleD_19 : decode zc_Mo_ruleD 19 = .ok (.aload_n 0, 1) := by decide +kernel
theorem zd_Mo_ruleD_20 : decode zc_Mo_ruleD 20 = .ok (.getfield 35, 3) := by decide +kernel
theorem zd_Mo_ruleD_23 : decode zc_Mo_ruleD 23 = .ok (.iload_n 1, 1) := by decide +kernel
theorem zd_Mo_ruleD_24 : decode zc_Mo_ruleD 24 = .ok (.iconst 1, 1) := by decide +kernel
theorem zd_Mo_ruleD_25 : decode zc_Mo_ruleD 25 = .ok (.iastore, 1) := by decide +kernel
theorem zd_Mo_ruleD_26 : decode zc_Mo_ruleD 26 = .ok (.aload_n 0, 1) := by decide +kernel
theorem zd_Mo_ruleD_27 : decode zc_Mo_ruleD 27 = .ok (.iload_n 1, 1) := by decide +kernel
theorem zd_Mo_ruleD_28 : decode zc_Mo_ruleD 28 = .ok (.invokevirtual 161, 3) := by decide +kernel
theorem zd_Mo_ruleD_31 : decode zc_Mo_ruleD 31 = .ok (.pop, 1) := by decide +kernel
theorem zd_Mo_ruleD_32 : decode zc_Mo_ruleD 32 = .ok (.iconst 1, 1) := by decide +kernel
theorem zd_Mo_ruleD_33 : decode zc_Mo_ruleD 33 = .ok (.ireturn, 1) := by decide +kernel
theorem zd_Mo_ruleG_0 : decode zc_Mo_ruleG 0 = .ok (.iconst 0, 1) := by decide +kernel
theorem zd_Mo_ruleG_1 : decode zc_Mo_ruleG 1 = .ok (.istore_n 2, 1) := by decide +kernel
theorem zd_Mo_ruleG_2 : decode zc_Mo_ruleG 2 = .ok (.iconst 0, 1) := by decide +kernel
theorem zd_Mo_ruleG_3 : decode zc_Mo_ruleG 3 = .ok (.istore_n 3, 1) := by decide +kernel
theorem zd_Mo_ruleG_4 : decode zc_Mo_ruleG 4 = .ok (.iload_n 3, 1) := by decide +kernel
theorem zd_Mo_ruleG_5 : decode zc_Mo_ruleG 5 = .ok (.bipush 28, 2) := by decide +kernel
theorem zd_Mo_ruleG_7 : decode zc_Mo_ruleG 7 = .ok (.if_icmp .ge 77, 3) := by decide +kernel
theorem zd_Mo_ruleG_10 : decode zc_Mo_ruleG 10 = .ok (.aload_n 0, 1) := by decide +kernel
theorem zd_Mo_ruleG_11 : decode zc_Mo_ruleG 11 = .ok (.iload_n 1, 1) := by decide +kernel
theorem zd_Mo_ruleG_12 : decode zc_Mo_ruleG 12 = .ok (.iconst 1, 1) := by decide +kernel
theorem zd_Mo_ruleG_13 : decode zc_Mo_ruleG 13 = .ok (.iconst 0, 1) := by decide +kernel
theorem zd_Mo_ruleG_14 : decode zc_Mo_ruleG 14 = .ok (.iload_n 3, 1) := by decide +kernel
theorem zd_Mo_ruleG_15 : decode zc_Mo_ruleG 15 = .ok (.iconst 1, 1) := by decide +kernel
theorem zd_Mo_ruleG_16 : decode zc_Mo_ruleG 16 = .ok (.invokevirtual 135, 3) := by decide +kernel
theorem zd_Mo_ruleG_19 : decode zc_Mo_ruleG 19 = .ok (.ifCond .ne 19, 3) := by decide +kernel
theorem zd_Mo_ruleG_22 : decode zc_Mo_ruleG 22 = .ok (.aload_n 0, 1) := by decide +kernel
theorem zd_Mo_ruleG_23 : decode zc_Mo_ruleG 23 = .ok (.iload_n 1, 1) := by decide +kernel
theorem zd_Mo_ruleG_24 : decode zc_Mo_ruleG 24 = .ok (.iconst 1, 1) := by decide +kernel
theorem zd_Mo_ruleG_25 : decode zc_Mo_ruleG 25 = .ok (.iconst 1, 1) := by decide +kernel
theorem zd_Mo_ruleG_26 : decode zc_Mo_ruleG 26 = .ok (.iload_n 3, 1) := by decide +kernel
theorem zd_Mo_ruleG_27 : decode zc_Mo_ruleG 27 = .ok (.iconst 1, 1) := by decide +kernel
theorem zd_Mo_ruleG_28 : decode zc_Mo_ruleG 28 = .ok (.invokevirtual 135, 3) := by decide +kernel
theorem zd_Mo_ruleG_31 : decode zc_Mo_ruleG 31 = .ok (.ifCond .ne 7, 3) := by decide +kernel
theorem zd_Mo_ruleG_34 : decode zc_Mo_ruleG 34 = .ok (.iconst 1, 1) := by decide +kernel
theorem zd_Mo_ruleG_35 : decode zc_Mo_ruleG 35 = .ok (.goto 4, 3) := by decide +kernel
theorem zd_Mo_ruleG_38 : decode zc_Mo_ruleG 38 = .ok (.iconst 0, 1) := by decide +kernel
theorem zd_Mo_ruleG_39 : decode zc_Mo_ruleG 39 = .ok (.istore 4, 2) := by decide +kernel
theorem zd_Mo_ruleG_41 : decode zc_Mo_ruleG 41 = .ok (.iload 4, 2) := by decide +kernel
theorem zd_Mo_ruleG_43 : decode zc_Mo_ruleG 43 = .ok (.ifCond .eq 35, 3) := by decide +kernel
theorem zd_Mo_ruleG_46 : decode zc_Mo_ruleG 46 = .ok (.aload_n 0, 1) := by decide +kernel
theorem zd_Mo_ruleG_47 : decode zc_Mo_ruleG 47 = .ok (.iload_n 1, 1) := by decide +kernel
theorem zd_Mo_ruleG_48 : decode zc_Mo_ruleG 48 = .ok (.iconst 1, 1) := by decide +kernel
theorem zd_Mo_ruleG_49 : decode zc_Mo_ruleG 49 = .ok (.iconst 2, 1) := by decide +kernel
theorem zd_Mo_ruleG_50 : decode zc_Mo_ruleG 50 = .ok (.iload_n 3, 1) := by decide +kernel
theorem zd_Mo_ruleG_51 : decode zc_Mo_ruleG 51 = .ok (.invokevirtual 125, 3) := by decide +kernel
theorem zd_Mo_ruleG_54 : decode zc_Mo_ruleG 54 = .ok (.ifCond .eq 24, 3) := by decide +kernel
theorem zd_Mo_ruleG_57 : decode zc_Mo_ruleG 57 = .ok (.aload_n 0, 1) := by decide +kernel
theorem zd_Mo_ruleG_58 : decode zc_Mo_ruleG 58 = .ok (.iload_n 1, 1) := by decide +kernel
theorem zd_Mo_ruleG_59 : decode zc_Mo_ruleG 59 = .ok (.iconst 2, 1) := by decide +kernel
theorem zd_Mo_ruleG_60 : decode zc_Mo_ruleG 60 = .ok (.iconst 0, 1) := by decide +kernel
theorem zd_Mo_ruleG_61 : decode zc_Mo_ruleG 61 = .ok (.iload_n 3, 1) := by decide +kernel
theorem zd_Mo_ruleG_62 : decode zc_Mo_ruleG 62 = .ok (.invokevirtual 152, 3) := by decide +kernel
theorem zd_Mo_ruleG_65 : decode zc_Mo_ruleG 65 = .ok (.ifCond .ne 7, 3) := by decide +kernel
theorem zd_Mo_ruleG_68 : decode zc_Mo_ruleG 68 = .ok (.iload_n 2, 1) := by decide +kernel
theorem zd_Mo_ruleG_69 : decode zc_Mo_ruleG 69 = .ok (.ifCond .eq 7, 3) := by decide +kernel
theorem zd_Mo_ruleG_72 : decode zc_Mo_ruleG 72 = .ok (.iconst 1, 1) := by decide +kernel
theorem zd_Mo_ruleG_73 : decode zc_Mo_ruleG 73 = .ok (.goto 4, 3) := by decide +kernel
theorem zd_Mo_ruleG_76 : decode zc_Mo_ruleG 76 = .ok (.iconst 0, 1) := by decide +kernel
theorem zd_Mo_ruleG_77 : decode zc_Mo_ruleG 77 = .ok (.istore_n 2, 1) := by decide +kernel
theorem zd_Mo_ruleG_78 : decode zc_Mo_ruleG 78 = .ok (.iinc 3 1, 3) := by decide +kernel
theorem zd_Mo_ruleG_81 : decode zc_Mo_ruleG 81 = .ok (.goto (-77), 3) := by decide +kernel
theorem zd_Mo_ruleG_84 : decode zc_Mo_ruleG 84 = .ok (.iload_n 2, 1) := by decide +kernel
theorem zd_Mo_ruleG_85 : decode zc_Mo_ruleG 85 = .ok (.ireturn, 1) := by decide +kernel
theorem zd_Mo_best_0 : decode zc_Mo_best 0 = .ok (.iconst (-1), 1) := by decide +kernel
theorem zd_Mo_best_1 : decode zc_Mo_best 1 = .ok (.istore 4, 2) := by decide +kernel
theorem zd_Mo_best_3 : decode zc_Mo_best 3 = .ok (.bipush 9, 2) := by decide +kernel
theorem zd_Mo_best_5 : decode zc_Mo_best 5 = .ok (.iload_n 1, 1) := by decide +kernel
theorem zd_Mo_best_6 : decode zc_Mo_best 6 = .ok (.imul, 1) := by decide +kernel
theorem zd_Mo_best_7 : decode zc_Mo_best 7 = .ok (.istore 5, 2) := by decide +kernel
theorem zd_Mo_best_9 : decode zc_Mo_best 9 = .ok (.iload 5, 2) := by decide +kernel
theorem zd_Mo_best_11 : decode zc_Mo_best 11 = .ok (.bipush 9, 2) := by decide +kernel
theorem zd_Mo_best_13 : decode zc_Mo_best 13 = .ok (.iload_n 1, 1) := by decide +kernel
theorem zd_Mo_best_14 : decode zc_Mo_best 14 = .ok (.imul, 1) := by decide +kernel
theorem zd_Mo_best_15 : decode zc_Mo_best 15 = .ok (.aload_n 0, 1) := by decide +kernel
theorem zd_Mo_best_16 : decode zc_Mo_best 16 = .ok (.getfield 83, 3) := by decide +kernel
theorem zd_Mo_best_19 : decode zc_Mo_best 19 = .ok (.iload_n 1, 1) := by decide +kernel
theorem zd_Mo_best_20 : decode zc_Mo_best 20 = .ok (.iaload, 1) := by decide +kernel
theorem zd_Mo_best_21 : decode zc_Mo_best 21 = .ok (.iadd, 1) := by decide +kernel
theorem zd_Mo_best_22 : decode zc_Mo_best 22 = .ok (.if_icmp .ge 128, 3) := by decide +kernel
theorem zd_Mo_best_25 : decode zc_Mo_best 25 = .ok (.aload_n 0, 1) := by decide +kernel
theorem zd_Mo_best_26 : decode zc_Mo_best 26 = .ok (.getfield 89, 3) := by decide +kernel
theorem zd_Mo_best_29 : decode zc_Mo_best 29 = .ok (.iload 5, 2) := by decide +kernel
theorem zd_Mo_best_31 : decode zc_Mo_best 31 = .ok (.iaload, 1) := by decide +kernel
theorem zd_Mo_best_32 : decode zc_Mo_best 32 = .ok (.iload_n 2, 1) := by decide +kernel
theorem zd_Mo_best_33 : decode zc_Mo_best 33 = .ok (.if_icmp .eq 36, 3) := by decide +kernel
theorem zd_Mo_best_36 : decode zc_Mo_best 36 = .ok (.iload_n 2, 1) := by decide +kernel
theorem zd_Mo_best_37 : decode zc_Mo_best 37 = .ok (.ifCond .ne 17, 3) := by decide +kernel
theorem zd_Mo_best_40 : decode zc_Mo_best 40 = .ok (.aload_n 0, 1) := by decide +kernel
theorem zd_Mo_best_41 : decode zc_Mo_best 41 = .ok (.getfield 92, 3) := by decide +kernel
theorem zd_Mo_best_44 : decode zc_Mo_best 44 = .ok (.iload 5, 2) := by decide +kernel
theorem zd_Mo_best_46 : decode zc_Mo_best 46 = .ok (.iaload, 1) := by decide +kernel
theorem zd_Mo_best_47 : decode zc_Mo_best 47 = .ok (.iload_n 3, 1) := by decide +kernel
theorem zd_Mo_best_48 : decode zc_Mo_best 48 = .ok (.if_icmp .gt 21, 3) := by decide +kernel
theorem zd_Mo_best_51 : decode zc_Mo_best 51 = .ok (.goto 14, 3) := by decide +kernel
theorem zd_Mo_best_54 : decode zc_Mo_best 54 = .ok (.aload_n 0, 1) := by decide +kernel
theorem zd_Mo_best_55 : decode zc_Mo_best 55 = .ok (.getfield 92, 3) := by decide +kernel
theorem zd_Mo_best_58 : decode zc_Mo_best 58 = .ok (.iload 5, 2) := by decide +kernel
theorem zd_Mo_best_60 : decode zc_Mo_best 60 = .ok (.iaload, 1) := by decide +kernel
theorem zd_Mo_best_61 : decode zc_Mo_best 61 = .ok (.iload_n 3, 1) := by decide +kernel
theorem zd_Mo_best_62 : decode zc_Mo_best 62 = .ok (.if_icmp .lt 7, 3) := by decide +kernel
theorem zd_Mo_best_65 : decode zc_Mo_best 65 = .ok (.iconst 1, 1) := by decide +kernel
theorem zd_Mo_best_66 : decode zc_Mo_best 66 = .ok (.goto 4, 3) := by decide +kernel
theorem zd_Mo_best_69 : decode zc_Mo_best 69 = .ok (.iconst 0, 1) := by decide +kernel
theorem zd_Mo_best_70 : decode zc_Mo_best 70 = .ok (.istore 6, 2) := by decide +kernel
theorem zd_Mo_best_72 : decode zc_Mo_best 72 = .ok (.iload 4, 2) := by decide +kernel
theorem zd_Mo_best_74 : decode zc_Mo_best 74 = .ok (.ifCond .lt 44, 3) := by decide +kernel
theorem zd_Mo_best_77 : decode zc_Mo_best 77 = .ok (.iload_n 2, 1) := by decide +kernel
theorem zd_Mo_best_78 : decode zc_Mo_best 78 = .ok (.ifCond .ne 23, 3) := by decide +kernel
theorem zd_Mo_best_81 : decode zc_Mo_best 81 = .ok (.aload_n 0, 1) := by decide +kernel
theorem zd_Mo_best_82 : decode zc_Mo_best 82 = .ok (.getfield 92, 3) := by decide +kernel
theorem zd_Mo_best_85 : decode zc_Mo_best 85 = .ok (.iload 5, 2) := by decide +kernel
theorem zd_Mo_best_87 : decode zc_Mo_best 87 = .ok (.iaload, 1) := by decide +kernel
theorem zd_Mo_best_88 : decode zc_Mo_best 88 = .ok (.aload_n 0, 1) := by decide +kernel
theorem zd_Mo_best_89 : decode zc_Mo_best 89 = .ok (.getfield 92, 3) := by decide +kernel
theorem zd_Mo_best_92 : decode zc_Mo_best 92 = .ok (.iload 4, 2) := by decide +kernel
theorem zd_Mo_best_94 : decode zc_Mo_best 94 = .ok (.iaload, 1) := by decide +kernel
theorem zd_Mo_best_95 : decode zc_Mo_best 95 = .ok (.if_icmp .ge 27, 3) := by decide +kernel
theorem zd_Mo_best_98 : decode zc_Mo_best 98 = .ok (.goto 20, 3) := by decide +kernel
theorem zd_Mo_best_101 : decode zc_Mo_best 101 = .ok (.aload_n 0, 1) := by decide +kernel
theorem zd_Mo_best_102 : decode zc_Mo_best 102 = .ok (.getfield 92, 3) := by decide +kernel
theorem zd_Mo_best_105 : decode zc_Mo_best 105 = .ok (.iload 5, 2) := by decide +kernel
theorem zd_Mo_best_107 : decode zc_Mo_best 107 = .ok (.iaload, 1) := by decide +kernel
theorem zd_Mo_best_108 : decode zc_Mo_best 108 = .ok (.aload_n 0, 1) := by decide +kernel
theorem zd_Mo_best_109 : decode zc_Mo_best 109 = .ok (.getfield 92, 3) := by decide +kernel
theorem zd_Mo_best_112 : decode zc_Mo_best 112 = .ok (.iload 4, 2) := by decide +kernel
theorem zd_Mo_best_114 : decode zc_Mo_best 114 = .ok (.iaload, 1) := by decide +kernel
theorem zd_Mo_best_115 : decode zc_Mo_best 115 = .ok (.if_icmp .le 7, 3) := by decide +kernel
theorem zd_Mo_best_118 : decode zc_Mo_best 118 = .ok (.iconst 1, 1) := by decide +kernel
theorem zd_Mo_best_119 : decode zc_Mo_best 119 = .ok (.goto 4, 3) := by decide +kernel
theorem zd_Mo_best_122 : decode zc_Mo_best 122 = .ok (.iconst 0, 1) := by decide +kernel
theorem zd_Mo_best_123 : decode zc_Mo_best 123 = .ok (.istore 7, 2) := by decide +kernel
theorem zd_Mo_best_125 : decode zc_Mo_best 125 = .ok (.iload 6, 2) := by decide +kernel
theorem zd_Mo_best_127 : decode zc_Mo_best 127 = .ok (.ifCond .eq 13, 3) := by decide +kernel
theorem zd_Mo_best_130 : decode zc_Mo_best 130 = .ok (.iload 7, 2) := by decide +kernel
theorem zd_Mo_best_132 : decode zc_Mo_best 132 = .ok (.ifCond .eq 8, 3) := by decide +kernel
theorem zd_Mo_best_135 : decode zc_Mo_best 135 = .ok (.iload 5, 2) := by decide +kernel
theorem zd_Mo_best_137 : decode zc_Mo_best 137 = .ok (.goto 5, 3) := by decide +kernel
theorem zd_Mo_best_140 : decode zc_Mo_best 140 = .ok (.iload 4, 2) := by decide +kernel
theorem zd_Mo_best_142 : decode zc_Mo_best 142 = .ok (.istore 4, 2) := by decide +kernel
theorem zd_Mo_best_144 : decode zc_Mo_best 144 = .ok (.iinc 5 1, 3) := by decide +kernel
theorem zd_Mo_best_147 : decode zc_Mo_best 147 = .ok (.goto (-138), 3) := by decide +kernel
theorem zd_Mo_best_150 : decode zc_Mo_best 150 = .ok (.iload 4, 2) := by decide +kernel
theorem zd_Mo_best_152 : decode zc_Mo_best 152 = .ok (.ireturn, 1) := by decide +kernel
theorem zd_Mo_cross_0 : decode zc_Mo_cross 0 = .ok (.aload_n 0, 1) := by decide +kernel
theorem zd_Mo_cross_1 : decode zc_Mo_cross 1 = .ok (.getfield 89, 3) := by decide +kernel
theorem zd_Mo_cross_4 : decode zc_Mo_cross 4 = .ok (.iload_n 3, 1) := by decide +kernel
theorem zd_Mo_cross_5 : decode zc_Mo_cross 5 = .ok (.iaload, 1) := by decide +kernel
theorem zd_Mo_cross_6 : decode zc_Mo_cross 6 = .ok (.ifCond .ne 12, 3) := by decide +kernel
theorem zd_Mo_cross_9 : decode zc_Mo_cross 9 = .ok (.aload_n 0, 1) := by decide +kernel
theorem zd_Mo_cross_10 : decode zc_Mo_cross 10 = .ok (.getfield 86, 3) := by decide +kernel
theorem zd_Mo_cross_13 : decode zc_Mo_cross 13 = .ok (.iload_n 3, 1) := by decide +kernel
theorem zd_Mo_cross_14 : decode zc_Mo_cross 14 = .ok (.iaload, 1) := by decide +kernel
theorem zd_Mo_cross_15 : decode zc_Mo_cross 15 = .ok (.goto 9, 3) := by decide +kernel
theorem zd_Mo_cross_18 : decode zc_Mo_cross 18 = .ok (.aload_n 0, 1) := by decide +kernel
theorem zd_Mo_cross_19 : decode zc_Mo_cross 19 = .ok (.getfield 68, 3) := by decide +kernel
theorem zd_Mo_cross_22 : decode zc_Mo_cross 22 = .ok (.iload_n 2, 1) := by decide +kernel
theorem zd_Mo_cross_23 : decode zc_Mo_cross 23 = .ok (.iaload, 1) := by decide +kernel
theorem zd_Mo_cross_24 : decode zc_Mo_cross 24 = .ok (.istore 5, 2) := by decide +kernel
theorem zd_Mo_cross_26 : decode zc_Mo_cross 26 = .ok (.aload_n 0, 1) := by decide +kernel
theorem zd_Mo_cross_27 : decode zc_Mo_cross 27 = .ok (.getfield 89, 3) := by decide +kernel
theorem zd_Mo_cross_30 : decode zc_Mo_cross 30 = .ok (.iload_n 3, 1) := by decide +kernel
theorem zd_Mo_cross_31 : decode zc_Mo_cross 31 = .ok (.iaload, 1) := by decide +kernel
theorem zd_Mo_cross_32 : decode zc_Mo_cross 32 = .ok (.ifCond .ne 12, 3) := by decide +kernel
theorem zd_Mo_cross_35 : decode zc_Mo_cross 35 = .ok (.aload_n 0, 1) := by decide +kernel
theorem zd_Mo_cross_36 : decode zc_Mo_cross 36 = .ok (.getfield 68, 3) := by decide +kernel
theorem zd_Mo_cross_39 : decode zc_Mo_cross 39 = .ok (.iload_n 2, 1) := by decide +kernel
theorem zd_Mo_cross_40 : decode zc_Mo_cross 40 = .ok (.iaload, 1) := by decide +kernel
theorem zd_Mo_cross_41 : decode zc_Mo_cross 41 = .ok (.goto 9, 3) := by decide +kernel
theorem zd_Mo_cross_44 : decode zc_Mo_cross 44 = .ok (.aload_n 0, 1) := by decide +kernel
theorem zd_Mo_cross_45 : decode zc_Mo_cross 45 = .ok (.getfield 86, 3) := by decide +kernel
theorem zd_Mo_cross_48 : decode zc_Mo_cross 48 = .ok (.iload_n 3, 1) := by decide +kernel
theorem zd_Mo_cross_49 : decode zc_Mo_cross 49 = .ok (.iaload, 1) := by decide +kernel
theorem zd_Mo_cross_50 : decode zc_Mo_cross 50 = .ok (.istore 6, 2) := by decide +kernel
theorem zd_Mo_cross_52 : decode zc_Mo_cross 52 = .ok (.bipush 8, 2) := by decide +kernel
theorem zd_Mo_cross_54 : decode zc_Mo_cross 54 = .ok (.iload_n 1, 1) := by decide +kernel
theorem zd_Mo_cross_55 : decode zc_Mo_cross 55 = .ok (.imul, 1) := by decide +kernel
theorem zd_Mo_cross_56 : decode zc_Mo_cross 56 = .ok (.iconst 2, 1) := by decide +kernel
theorem zd_Mo_cross_57 : decode zc_Mo_cross 57 = .ok (.iload 5, 2) := by decide +kernel
theorem zd_Mo_cross_59 : decode zc_Mo_cross 59 = .ok (.imul, 1) := by decide +kernel
theorem zd_Mo_cross_60 : decode zc_Mo_cross 60 = .ok (.iadd, 1) := by decide +kernel
theorem zd_Mo_cross_61 : decode zc_Mo_cross 61 = .ok (.istore 7, 2) := by decide +kernel
theorem zd_Mo_cross_63 : decode zc_Mo_cross 63 = .ok (.bipush 8, 2) := by decide +kernel
theorem zd_Mo_cross_65 : decode zc_Mo_cross 65 = .ok (.iload_n 1, 1) := by decide +kernel
theorem zd_Mo_cross_66 : decode zc_Mo_cross 66 = .ok (.imul, 1) := by decide +kernel
theorem zd_Mo_cross_67 : decode zc_Mo_cross 67 = .ok (.iconst 2, 1) := by decide +kernel
theorem zd_Mo_cross_68 : decode zc_Mo_cross 68 = .ok (.iload 6, 2) := by decide +kernel
theorem zd_Mo_cross_70 : decode zc_Mo_cross 70 = .ok (.imul, 1) := by decide +kernel
theorem zd_Mo_cross_71 : decode zc_Mo_cross 71 = .ok (.iadd, 1) := by decide +kernel
theorem zd_Mo_cross_72 : decode zc_Mo_cross 72 = .ok (.iconst 1, 1) := by decide +kernel
theorem zd_Mo_cross_73 : decode zc_Mo_cross 73 = .ok (.iadd, 1) := by decide +kernel
theorem zd_Mo_cross_74 : decode zc_Mo_cross 74 = .ok (.istore 8, 2) := by decide +kernel
theorem zd_Mo_cross_76 : decode zc_Mo_cross 76 = .ok (.iload 4, 2) := by decide +kernel
theorem zd_Mo_cross_78 : decode zc_Mo_cross 78 = .ok (.aload_n 0, 1) := by decide +kernel
theorem zd_Mo_cross_79 : decode zc_Mo_cross 79 = .ok (.getfield 95, 3) := by decide +kernel
theorem zd_Mo_cross_82 : decode zc_Mo_cross 82 = .ok (.iload_n 3, 1) := by decide +kernel
theorem zd_Mo_cross_83 : decode zc_Mo_cross 83 = .ok (.iaload, 1) := by decide +kernel
theorem zd_Mo_cross_84 : decode zc_Mo_cross 84 = .ok (.if_icmp .ge 8, 3) := by decide +kernel
theorem zd_Mo_cross_87 : decode zc_Mo_cross 87 = .ok (.iload 4, 2) := by decide +kernel
theorem zd_Mo_cross_89 : decode zc_Mo_cross 89 = .ok (.goto 9, 3) := by decide +kernel
theorem zd_Mo_cross_92 : decode zc_Mo_cross 92 = .ok (.aload_n 0, 1) := by decide +kernel
theorem zd_Mo_cross_93 : decode zc_Mo_cross 93 = .ok (.getfield 95, 3) := by decide +kernel
theorem zd_Mo_cross_96 : decode zc_Mo_cross 96 = .ok (.iload_n 3, 1) := by decide +kernel
theorem zd_Mo_cross_97 : decode zc_Mo_cross 97 = .ok (.iaload, 1) := by decide +kernel
theorem zd_Mo_cross_98 : decode zc_Mo_cross 98 = .ok (.istore 9, 2) := by decide +kernel
theorem zd_Mo_cross_100 : decode zc_Mo_cross 100 = .ok (.aload_n 0, 1) := by decide +kernel
theorem zd_Mo_cross_101 : decode zc_Mo_cross 101 = .ok (.getfield 80, 3) := by decide +kernel
theorem zd_Mo_cross_104 : decode zc_Mo_cross 104 = .ok (.iload 8, 2) := by decide +kernel
theorem zd_Mo_cross_106 : decode zc_Mo_cross 106 = .ok (.iaload, 1) := by decide +kernel
theorem zd_Mo_cross_107 : decode zc_Mo_cross 107 = .ok (.iload 9, 2) := by decide +kernel
theorem zd_Mo_cross_109 : decode zc_Mo_cross 109 = .ok (.if_icmp .ge 13, 3) := by decide +kernel
theorem zd_Mo_cross_112 : decode zc_Mo_cross 112 = .ok (.aload_n 0, 1) := by decide +kernel
theorem zd_Mo_cross_113 : decode zc_Mo_cross 113 = .ok (.getfield 80, 3) := by decide +kernel
theorem zd_Mo_cross_116 : decode zc_Mo_cross 116 = .ok (.iload 8, 2) := by decide +kernel
theorem zd_Mo_cross_118 : decode zc_Mo_cross 118 = .ok (.iaload, 1) := by decide +kernel
theorem zd_Mo_cross_119 : decode zc_Mo_cross 119 = .ok (.goto 5, 3) := by decide +kernel
theorem zd_Mo_cross_122 : decode zc_Mo_cross 122 = .ok (.iload 9, 2) := by decide +kernel
theorem zd_Mo_cross_124 : decode zc_Mo_cross 124 = .ok (.istore 9, 2) := by decide +kernel
theorem zd_Mo_cross_126 : decode zc_Mo_cross 126 = .ok (.aload_n 0, 1) := by decide +kernel
theorem zd_Mo_cross_127 : decode zc_Mo_cross 127 = .ok (.getfield 80, 3) := by decide +kernel
theorem zd_Mo_cross_130 : decode zc_Mo_cross 130 = .ok (.iload 7, 2) := by decide +kernel
theorem zd_Mo_cross_132 : decode zc_Mo_cross 132 = .ok (.iaload, 1) := by decide +kernel
theorem zd_Mo_cross_133 : decode zc_Mo_cross 133 = .ok (.aload_n 0, 1) := by decide +kernel
theorem zd_Mo_cross_134 : decode zc_Mo_cross 134 = .ok (.getfield 92, 3) := by decide +kernel
theorem zd_Mo_cross_137 : decode zc_Mo_cross 137 = .ok (.iload_n 3, 1) := by decide +kernel
theorem zd_Mo_cross_138 : decode zc_Mo_cross 138 = .ok (.iaload, 1) := by decide +kernel
theorem zd_Mo_cross_139 : decode zc_Mo_cross 139 = .ok (.idiv, 1) := by decide +kernel
theorem zd_Mo_cross_140 : decode zc_Mo_cross 140 = .ok (.iload 9, 2) := by decide +kernel
theorem zd_Mo_cross_142 : decode zc_Mo_cross 142 = .ok (.if_icmp .ge 20, 3) := by decide +kernel
theorem zd_Mo_cross_145 : decode zc_Mo_cross 145 = .ok (.aload_n 0, 1) := by decide +kernel
theorem zd_Mo_cross_146 : decode zc_Mo_cross 146 = .ok (.getfield 80, 3) := by decide +kernel
theorem zd_Mo_cross_149 : decode zc_Mo_cross 149 = .ok (.iload 7, 2) := by decide +kernel
theorem zd_Mo_cross_151 : decode zc_Mo_cross 151 = .ok (.iaload, 1) := by decide +kernel
theorem zd_Mo_cross_152 : decode zc_Mo_cross 152 = .ok (.aload_n 0, 1) := by decide +kernel
theorem zd_Mo_cross_153 : decode zc_Mo_cross 153 = .ok (.getfield 92, 3) := by decide +kernel
theorem zd_Mo_cross_156 : decode zc_Mo_cross 156 = .ok (.iload_n 3, 1) := by decide +kernel
theorem zd_Mo_cross_157 : decode zc_Mo_cross 157 = .ok (.iaload, 1) := by decide +kernel
theorem zd_Mo_cross_158 : decode zc_Mo_cross 158 = .ok (.idiv, 1) := by decide +kernel
theorem zd_Mo_cross_159 : decode zc_Mo_cross 159 = .ok (.goto 5, 3) := by decide +kernel
theorem zd_Mo_cross_162 : decode zc_Mo_cross 162 = .ok (.iload 9, 2) := by decide +kernel
theorem zd_Mo_cross_164 : decode zc_Mo_cross 164 = .ok (.istore 9, 2) := by decide +kernel
theorem zd_Mo_cross_166 : decode zc_Mo_cross 166 = .ok (.aload_n 0, 1) := by decide +kernel
theorem zd_Mo_cross_167 : decode zc_Mo_cross 167 = .ok (.getfield 80, 3) := by decide +kernel
theorem zd_Mo_cross_170 : decode zc_Mo_cross 170 = .ok (.iload 7, 2) := by decide +kernel
theorem zd_Mo_cross_172 : decode zc_Mo_cross 172 = .ok (.dup2, 1) := by decide +kernel
theorem zd_Mo_cross_173 : decode zc_Mo_cross 173 = .ok (.iaload, 1) := by decide +kernel
theorem zd_Mo_cross_174 : decode zc_Mo_cross 174 = .ok (.iload 9, 2) := by decide +kernel
theorem zd_Mo_cross_176 : decode zc_Mo_cross 176 = .ok (.aload_n 0, 1) := by decide +kernel
theorem zd_Mo_cross_177 : decode zc_Mo_cross 177 = .ok (.getfield 92, 3) := by decide +kernel
theorem zd_Mo_cross_180 : decode zc_Mo_cross 180 = .ok (.iload_n 3, 1) := by decide +kernel
theorem zd_Mo_cross_181 : decode zc_Mo_cross 181 = .ok (.iaload, 1) := by decide +kernel
theorem zd_Mo_cross_182 : decode zc_Mo_cross 182 = .ok (.imul, 1) := by decide +kernel
theorem zd_Mo_cross_183 : decode zc_Mo_cross 183 = .ok (.isub, 1) := by decide +kernel
theorem zd_Mo_cross_184 : decode zc_Mo_cross 184 = .ok (.iastore, 1) := by decide +kernel
theorem zd_Mo_cross_185 : decode zc_Mo_cross 185 = .ok (.aload_n 0, 1) := by decide +kernel
theorem zd_Mo_cross_186 : decode zc_Mo_cross 186 = .ok (.getfield 80, 3) := by decide +kernel
theorem zd_Mo_cross_189 : decode zc_Mo_cross 189 = .ok (.iload 7, 2) := by decide +kernel
theorem zd_Mo_cross_191 : decode zc_Mo_cross 191 = .ok (.iconst 1, 1) := by decide +kernel
theorem zd_Mo_cross_192 : decode zc_Mo_cross 192 = .ok (.iadd, 1) := by decide +kernel
theorem zd_Mo_cross_193 : decode zc_Mo_cross 193 = .ok (.dup2, 1) := by decide +kernel
theorem zd_Mo_cross_194 : decode zc_Mo_cross 194 = .ok (.iaload, 1) := by decide +kernel
theorem zd_Mo_cross_195 : decode zc_Mo_cross 195 = .ok (.iload 9, 2) := by decide +kernel
theorem zd_Mo_cross_197 : decode zc_Mo_cross 197 = .ok (.iadd, 1) := by decide +kernel
theorem zd_Mo_cross_198 : decode zc_Mo_cross 198 = .ok (.iastore, 1) := by decide +kernel
theorem zd_Mo_cross_199 : decode zc_Mo_cross 199 = .ok (.aload_n 0, 1) := by decide +kernel
theorem zd_Mo_cross_200 : decode zc_Mo_cross 200 = .ok (.getfield 80, 3) := by decide +kernel
theorem zd_Mo_cross_203 : decode zc_Mo_cross 203 = .ok (.iload 8, 2) := by decide +kernel
theorem zd_Mo_cross_205 : decode zc_Mo_cross 205 = .ok (.dup2, 1) := by decide +kernel
theorem zd_Mo_cross_206 : decode zc_Mo_cross 206 = .ok (.iaload, 1) := by decide +kernel
theorem zd_Mo_cross_207 : decode zc_Mo_cross 207 = .ok (.iload 9, 2) := by decide +kernel
theorem zd_Mo_cross_209 : decode zc_Mo_cross 209 = .ok (.isub, 1) := by decide +kernel
theorem zd_Mo_cross_210 : decode zc_Mo_cross 210 = .ok (.iastore, 1) := by decide +kernel
theorem zd_Mo_cross_211 : decode zc_Mo_cross 211 = .ok (.aload_n 0, 1) := by decide +kernel
theorem zd_Mo_cross_212 : decode zc_Mo_cross 212 = .ok (.getfield 80, 3) := by decide +kernel
theorem zd_Mo_cross_215 : decode zc_Mo_cross 215 = .ok (.iload 8, 2) := by decide +kernel
theorem zd_Mo_cross_217 : decode zc_Mo_cross 217 = .ok (.iconst 1, 1) := by decide +kernel
theorem zd_Mo_cross_218 : decode zc_Mo_cross 218 = .ok (.isub, 1) := by decide +kernel
theorem zd_Mo_cross_219 : decode zc_Mo_cross 219 = .ok (.dup2, 1) := by decide +kernel
theorem zd_Mo_cross_220 : decode zc_Mo_cross 220 = .ok (.iaload, 1) := by decide +kernel
theorem zd_Mo_cross_221 : decode zc_Mo_cross 221 = .ok (.iload 9, 2) := by decide +kernel
theorem zd_Mo_cross_223 : decode zc_Mo_cross 223 = .ok (.aload_n 0, 1) := by decide +kernel
theorem zd_Mo_cross_224 : decode zc_Mo_cross 224 = .ok (.getfield 92, 3) := by decide +kernel
theorem zd_Mo_cross_227 : decode zc_Mo_cross 227 = .ok (.iload_n 3, 1) := by decide +kernel
theorem zd_Mo_cross_228 : decode zc_Mo_cross 228 = .ok (.iaload, 1) := by decide +kernel
theorem zd_Mo_cross_229 : decode zc_Mo_cross 229 = .ok (.imul, 1) := by decide +kernel
theorem zd_Mo_cross_230 : decode zc_Mo_cross 230 = .ok (.iadd, 1) := by decide +kernel
theorem zd_Mo_cross_231 : decode zc_Mo_cross 231 = .ok (.iastore, 1) := by decide +kernel
theorem zd_Mo_cross_232 : decode zc_Mo_cross 232 = .ok (.aload_n 0, 1) := by decide +kernel
theorem zd_Mo_cross_233 : decode zc_Mo_cross 233 = .ok (.getfield 95, 3) := by decide +kernel
theorem zd_Mo_cross_236 : decode zc_Mo_cross 236 = .ok (.iload_n 3, 1) := by decide +kernel
theorem zd_Mo_cross_237 : decode zc_Mo_cross 237 = .ok (.dup2, 1) := by decide +kernel
theorem zd_Mo_cross_238 : decode zc_Mo_cross 238 = .ok (.iaload, 1) := by decide +kernel
theorem zd_Mo_cross_239 : decode zc_Mo_cross 239 = .ok (.iload 9, 2) := by decide +kernel
theorem zd_Mo_cross_241 : decode zc_Mo_cross 241 = .ok (.isub, 1) := by decide +kernel
theorem zd_Mo_cross_242 : decode zc_Mo_cross 242 = .ok (.iastore, 1) := by decide +kernel
theorem zd_Mo_cross_243 : decode zc_Mo_cross 243 = .ok (.iload 9, 2) := by decide +kernel
theorem zd_Mo_cross_245 : decode zc_Mo_cross 245 = .ok (.ireturn, 1) := by decide +kernel
theorem zd_Mo_remove_0 : decode zc_Mo_remove 0 = .ok (.aload_n 0, 1) := by decide +kernel
theorem zd_Mo_remove_1 : decode zc_Mo_remove 1 = .ok (.getfield 83, 3) := by decide +kernel
theorem zd_Mo_remove_4 : decode zc_Mo_remove 4 = .ok (.iload_n 1, 1) := by decide +kernel
theorem zd_Mo_remove_5 : decode zc_Mo_remove 5 = .ok (.dup2, 1) := by decide +kernel
theorem zd_Mo_remove_6 : decode zc_Mo_remove 6 = .ok (.iaload, 1) := by decide +kernel
theorem zd_Mo_remove_7 : decode zc_Mo_remove 7 = .ok (.iconst 1, 1) := by decide +kernel
theorem zd_Mo_remove_8 : decode zc_Mo_remove 8 = .ok (.isub, 1) := by decide +kernel
theorem zd_Mo_remove_9 : decode zc_Mo_remove 9 = .ok (.iastore, 1) := by decide +kernel
theorem zd_Mo_remove_10 : decode zc_Mo_remove 10 = .ok (.iload_n 2, 1) := by decide +kernel
theorem zd_Mo_remove_11 : decode zc_Mo_remove 11 = .ok (.istore_n 3, 1) := by decide +kernel
theorem zd_Mo_remove_12 : decode zc_Mo_remove 12 = .ok (.iload_n 3, 1) := by decide +kernel
theorem zd_Mo_remove_13 : decode zc_Mo_remove 13 = .ok (.bipush 9, 2) := by decide +kernel
theorem zd_Mo_remove_15 : decode zc_Mo_remove 15 = .ok (.iload_n 1, 1) := by decide +kernel
theorem zd_Mo_remove_16 : decode zc_Mo_remove 16 = .ok (.imul, 1) := by decide +kernel
theorem zd_Mo_remove_17 : decode zc_Mo_remove 17 = .ok (.aload_n 0, 1) := by decide +kernel
theorem zd_Mo_remove_18 : decode zc_Mo_remove 18 = .ok (.getfield 83, 3) := by decide +kernel
theorem zd_Mo_remove_21 : decode zc_Mo_remove 21 = .ok (.iload_n 1, 1) := by decide +kernel
theorem zd_Mo_remove_22 : decode zc_Mo_remove 22 = .ok (.iaload, 1) := by decide +kernel
theorem zd_Mo_remove_23 : decode zc_Mo_remove 23 = .ok (.iadd, 1) := by decide +kernel
theorem zd_Mo_remove_24 : decode zc_Mo_remove 24 = .ok (.if_icmp .ge 65, 3) := by decide +kernel
theorem zd_Mo_remove_27 : decode zc_Mo_remove 27 = .ok (.aload_n 0, 1) := by decide +kernel
theorem zd_Mo_remove_28 : decode zc_Mo_remove 28 = .ok (.getfield 86, 3) := by decide +kernel
theorem zd_Mo_remove_31 : decode zc_Mo_remove 31 = .ok (.iload_n 3, 1) := by decide +kernel
theorem zd_Mo_remove_32 : decode zc_Mo_remove 32 = .ok (.aload_n 0, 1) := by decide +kernel
theorem zd_Mo_remove_33 : decode zc_Mo_remove 33 = .ok (.getfield 86, 3) := by decide +kernel
theorem zd_Mo_remove_36 : decode zc_Mo_remove 36 = .ok (.iload_n 3, 1) := by decide +kernel
theorem zd_Mo_remove_37 : decode zc_Mo_remove 37 = .ok (.iconst 1, 1) := by decide +kernel
theorem zd_Mo_remove_38 : decode zc_Mo_remove 38 = .ok (.iadd, 1) := by decide +kernel
theorem zd_Mo_remove_39 : decode zc_Mo_remove 39 = .ok (.iaload, 1) := by decide +kernel
theorem zd_Mo_remove_40 : decode zc_Mo_remove 40 = .ok (.iastore, 1) := by decide +kernel
theorem zd_Mo_remove_41 : decode zc_Mo_remove 41 = .ok (.aload_n 0, 1) := by decide +kernel
theorem zd_Mo_remove_42 : decode zc_Mo_remove 42 = .ok (.getfield 89, 3) := by decide +kernel
theorem zd_Mo_remove_45 : decode zc_Mo_remove 45 = .ok (.iload_n 3, 1) := by decide +kernel
theorem zd_Mo_remove_46 : decode zc_Mo_remove 46 = .ok (.aload_n 0, 1) := by decide +kernel
theorem zd_Mo_remove_47 : decode zc_Mo_remove 47 = .ok (.getfield 89, 3) := by decide +kernel
theorem zd_Mo_remove_50 : decode zc_Mo_remove 50 = .ok (.iload_n 3, 1) := by decide +kernel
theorem zd_Mo_remove_51 : decode zc_Mo_remove 51 = .ok (.iconst 1, 1) := by decide +kernel
theorem zd_Mo_remove_52 : decode zc_Mo_remove 52 = .ok (.iadd, 1) := by decide +kernel
theorem zd_Mo_remove_53 : decode zc_Mo_remove 53 = .ok (.iaload, 1) := by decide +kernel
theorem zd_Mo_remove_54 : decode zc_Mo_remove 54 = .ok (.iastore, 1) := by decide +kernel
theorem zd_Mo_remove_55 : decode zc_Mo_remove 55 = .ok (.aload_n 0, 1) := by decide +kernel
theorem zd_Mo_remove_56 : decode zc_Mo_remove 56 = .ok (.getfield 92, 3) := by decide +kernel
theorem zd_Mo_remove_59 : decode zc_Mo_remove 59 = .ok (.iload_n 3, 1) := by decide +kernel
theorem zd_Mo_remove_60 : decode zc_Mo_remove 60 = .ok (.aload_n 0, 1) := by decide +kernel
theorem zd_Mo_remove_61 : decode zc_Mo_remove 61 = .ok (.getfield 92, 3) := by decide +kernel
theorem zd_Mo_remove_64 : decode zc_Mo_remove 64 = .ok (.iload_n 3, 1) := by decide +kernel
theorem zd_Mo_remove_65 : decode zc_Mo_remove 65 = .ok (.iconst 1, 1) := by decide +kernel
theorem zd_Mo_remove_66 : decode zc_Mo_remove 66 = .ok (.iadd, 1) := by decide +kernel
theorem zd_Mo_remove_67 : decode zc_Mo_remove 67 = .ok (.iaload, 1) := by decide +kernel
theorem zd_Mo_remove_68 : decode zc_Mo_remove 68 = .ok (.iastore, 1) := by decide +kernel
theorem zd_Mo_remove_69 : decode zc_Mo_remove 69 = .ok (.aload_n 0, 1) := by decide +kernel
theorem zd_Mo_remove_70 : decode zc_Mo_remove 70 = .ok (.getfield 95, 3) := by decide +kernel
theorem zd_Mo_remove_73 : decode zc_Mo_remove 73 = .ok (.iload_n 3, 1) := by decide +kernel
theorem zd_Mo_remove_74 : decode zc_Mo_remove 74 = .ok (.aload_n 0, 1) := by decide +kernel
theorem zd_Mo_remove_75 : decode zc_Mo_remove 75 = .ok (.getfield 95, 3) := by decide +kernel
theorem zd_Mo_remove_78 : decode zc_Mo_remove 78 = .ok (.iload_n 3, 1) := by decide +kernel
theorem zd_Mo_remove_79 : decode zc_Mo_remove 79 = .ok (.iconst 1, 1) := by decide +kernel
theorem zd_Mo_remove_80 : decode zc_Mo_remove 80 = .ok (.iadd, 1) := by decide +kernel
theorem zd_Mo_remove_81 : decode zc_Mo_remove 81 = .ok (.iaload, 1) := by decide +kernel
theorem zd_Mo_remove_82 : decode zc_Mo_remove 82 = .ok (.iastore, 1) := by decide +kernel
theorem zd_Mo_remove_83 : decode zc_Mo_remove 83 = .ok (.iinc 3 1, 3) := by decide +kernel
theorem zd_Mo_remove_86 : decode zc_Mo_remove 86 = .ok (.goto (-74), 3) := by decide +kernel
theorem zd_Mo_remove_89 : decode zc_Mo_remove 89 = .ok (.return_, 1) := by decide +kernel
theorem zd_Mo_trade_0 : decode zc_Mo_trade 0 = .ok (.aload_n 0, 1) := by decide +kernel
theorem zd_Mo_trade_1 : decode zc_Mo_trade 1 = .ok (.getfield 77, 3) := by decide +kernel
theorem zd_Mo_trade_4 : decode zc_Mo_trade 4 = .ok (.iload_n 2, 1) := by decide +kernel
theorem zd_Mo_trade_5 : decode zc_Mo_trade 5 = .ok (.iaload, 1) := by decide +kernel
theorem zd_Mo_trade_6 : decode zc_Mo_trade 6 = .ok (.istore_n 3, 1) := by decide +kernel
theorem zd_Mo_trade_7 : decode zc_Mo_trade 7 = .ok (.iconst 1, 1) := by decide +kernel
theorem zd_Mo_trade_8 : decode zc_Mo_trade 8 = .ok (.istore 4, 2) := by decide +kernel
theorem zd_Mo_trade_10 : decode zc_Mo_trade 10 = .ok (.iconst 0, 1) := by decide +kernel
theorem zd_Mo_trade_11 : decode zc_Mo_trade 11 = .ok (.istore 5, 2) := by decide +kernel
theorem zd_Mo_trade_13 : decode zc_Mo_trade 13 = .ok (.iload 5, 2) := by decide +kernel
theorem zd_Mo_trade_15 : decode zc_Mo_trade 15 = .ok (.sipush 1100, 3) := by decide +kernel
theorem zd_Mo_trade_18 : decode zc_Mo_trade 18 = .ok (.if_icmp .ge 187, 3) := by decide +kernel
theorem zd_Mo_trade_21 : decode zc_Mo_trade 21 = .ok (.iload 4, 2) := by decide +kernel
theorem zd_Mo_trade_23 : decode zc_Mo_trade 23 = .ok (.ifCond .eq 182, 3) := by decide +kernel
theorem zd_Mo_trade_26 : decode zc_Mo_trade 26 = .ok (.aload_n 0, 1) := by decide +kernel
theorem zd_Mo_trade_27 : decode zc_Mo_trade 27 = .ok (.iload_n 1, 1) := by decide +kernel
theorem zd_Mo_trade_28 : decode zc_Mo_trade 28 = .ok (.aload_n 0, 1) := by decide +kernel
theorem zd_Mo_trade_29 : decode zc_Mo_trade 29 = .ok (.getfield 71, 3) := by decide +kernel
theorem zd_Mo_trade_32 : decode zc_Mo_trade 32 = .ok (.iload_n 2, 1) := by decide +kernel
theorem zd_Mo_trade_33 : decode zc_Mo_trade 33 = .ok (.iaload, 1) := by decide +kernel
theorem zd_Mo_trade_34 : decode zc_Mo_trade 34 = .ok (.aload_n 0, 1) := by decide +kernel
theorem zd_Mo_trade_35 : decode zc_Mo_trade 35 = .ok (.getfield 74, 3) := by decide +kernel
theorem zd_Mo_trade_38 : decode zc_Mo_trade 38 = .ok (.iload_n 2, 1) := by decide +kernel
theorem zd_Mo_trade_39 : decode zc_Mo_trade 39 = .ok (.iaload, 1) := by decide +kernel
theorem zd_Mo_trade_40 : decode zc_Mo_trade 40 = .ok (.invokevirtual 211, 3) := by decide +kernel
theorem zd_Mo_trade_43 : decode zc_Mo_trade 43 = .ok (.istore 6, 2) := by decide +kernel
theorem zd_Mo_trade_45 : decode zc_Mo_trade 45 = .ok (.iload_n 3, 1) := by decide +kernel
theorem zd_Mo_trade_46 : decode zc_Mo_trade 46 = .ok (.ifCond .eq 8, 3) := by decide +kernel
theorem zd_Mo_trade_49 : decode zc_Mo_trade 49 = .ok (.iload 6, 2) := by decide +kernel
theorem zd_Mo_trade_51 : decode zc_Mo_trade 51 = .ok (.ifCond .ge 9, 3) := by decide +kernel
theorem zd_Mo_trade_54 : decode zc_Mo_trade 54 = .ok (.iconst 0, 1) := by decide +kernel
theorem zd_Mo_trade_55 : decode zc_Mo_trade 55 = .ok (.istore 4, 2) := by decide +kernel
theorem zd_Mo_trade_57 : decode zc_Mo_trade 57 = .ok (.goto 142, 3) := by decide +kernel
theorem zd_Mo_trade_60 : decode zc_Mo_trade 60 = .ok (.aload_n 0, 1) := by decide +kernel
theorem zd_Mo_trade_61 : decode zc_Mo_trade 61 = .ok (.iload_n 1, 1) := by decide +kernel
theorem zd_Mo_trade_62 : decode zc_Mo_trade 62 = .ok (.iload_n 2, 1) := by decide +kernel
theorem zd_Mo_trade_63 : decode zc_Mo_trade 63 = .ok (.iload 6, 2) := by decide +kernel
theorem zd_Mo_trade_65 : decode zc_Mo_trade 65 = .ok (.iload_n 3, 1) := by decide +kernel
theorem zd_Mo_trade_66 : decode zc_Mo_trade 66 = .ok (.invokevirtual 214, 3) := by decide +kernel
theorem zd_Mo_trade_69 : decode zc_Mo_trade 69 = .ok (.istore 7, 2) := by decide +kernel
theorem zd_Mo_trade_71 : decode zc_Mo_trade 71 = .ok (.iload_n 3, 1) := by decide +kernel
theorem zd_Mo_trade_72 : decode zc_Mo_trade 72 = .ok (.iload 7, 2) := by decide +kernel
theorem zd_Mo_trade_74 : decode zc_Mo_trade 74 = .ok (.isub, 1) := by decide +kernel
theorem zd_Mo_trade_75 : decode zc_Mo_trade 75 = .ok (.istore_n 3, 1) := by decide +kernel
theorem zd_Mo_trade_76 : decode zc_Mo_trade 76 = .ok (.aload_n 0, 1) := by decide +kernel
theorem zd_Mo_trade_77 : decode zc_Mo_trade 77 = .ok (.getfield 89, 3) := by decide +kernel
theorem zd_Mo_trade_80 : decode zc_Mo_trade 80 = .ok (.iload 6, 2) := by decide +kernel
theorem zd_Mo_trade_82 : decode zc_Mo_trade 82 = .ok (.iaload, 1) := by decide +kernel
theorem zd_Mo_trade_83 : decode zc_Mo_trade 83 = .ok (.iconst 1, 1) := by decide +kernel
theorem zd_Mo_trade_84 : decode zc_Mo_trade 84 = .ok (.if_icmp .ne 35, 3) := by decide +kernel
theorem zd_Mo_trade_87 : decode zc_Mo_trade 87 = .ok (.aload_n 0, 1) := by decide +kernel
theorem zd_Mo_trade_88 : decode zc_Mo_trade 88 = .ok (.getfield 80, 3) := by decide +kernel
theorem zd_Mo_trade_91 : decode zc_Mo_trade 91 = .ok (.bipush 8, 2) := by decide +kernel
theorem zd_Mo_trade_93 : decode zc_Mo_trade 93 = .ok (.iload_n 1, 1) := by decide +kernel
theorem zd_Mo_trade_94 : decode zc_Mo_trade 94 = .ok (.imul, 1) := by decide +kernel
theorem zd_Mo_trade_95 : decode zc_Mo_trade 95 = .ok (.iconst 2, 1) := by decide +kernel
theorem zd_Mo_trade_96 : decode zc_Mo_trade 96 = .ok (.aload_n 0, 1) := by decide +kernel
theorem zd_Mo_trade_97 : decode zc_Mo_trade 97 = .ok (.getfield 86, 3) := by decide +kernel
theorem zd_Mo_trade_100 : decode zc_Mo_trade 100 = .ok (.iload 6, 2) := by decide +kernel
theorem zd_Mo_trade_102 : decode zc_Mo_trade 102 = .ok (.iaload, 1) := by decide +kernel
theorem zd_Mo_trade_103 : decode zc_Mo_trade 103 = .ok (.imul, 1) := by decide +kernel
theorem zd_Mo_trade_104 : decode zc_Mo_trade 104 = .ok (.iadd, 1) := by decide +kernel
theorem zd_Mo_trade_105 : decode zc_Mo_trade 105 = .ok (.iconst 1, 1) := by decide +kernel
theorem zd_Mo_trade_106 : decode zc_Mo_trade 106 = .ok (.iadd, 1) := by decide +kernel
theorem zd_Mo_trade_107 : decode zc_Mo_trade 107 = .ok (.iaload, 1) := by decide +kernel
theorem zd_Mo_trade_108 : decode zc_Mo_trade 108 = .ok (.ifCond .ne 7, 3) := by decide +kernel
theorem zd_Mo_trade_111 : decode zc_Mo_trade 111 = .ok (.iconst 1, 1) := by decide +kernel
theorem zd_Mo_trade_112 : decode zc_Mo_trade 112 = .ok (.goto 41, 3) := by decide +kernel
theorem zd_Mo_trade_115 : decode zc_Mo_trade 115 = .ok (.iconst 0, 1) := by decide +kernel
theorem zd_Mo_trade_116 : decode zc_Mo_trade 116 = .ok (.goto 37, 3) := by decide +kernel
theorem zd_Mo_trade_119 : decode zc_Mo_trade 119 = .ok (.aload_n 0, 1) := by decide +kernel
theorem zd_Mo_trade_120 : decode zc_Mo_trade 120 = .ok (.getfield 80, 3) := by decide +kernel
theorem zd_Mo_trade_123 : decode zc_Mo_trade 123 = .ok (.bipush 8, 2) := by decide +kernel
theorem zd_Mo_trade_125 : decode zc_Mo_trade 125 = .ok (.iload_n 1, 1) := by decide +kernel
theorem zd_Mo_trade_126 : decode zc_Mo_trade 126 = .ok (.imul, 1) := by decide +kernel
theorem zd_Mo_trade_127 : decode zc_Mo_trade 127 = .ok (.iconst 2, 1) := by decide +kernel
theorem zd_Mo_trade_128 : decode zc_Mo_trade 128 = .ok (.aload_n 0, 1) := by decide +kernel
theorem zd_Mo_trade_129 : decode zc_Mo_trade 129 = .ok (.getfield 86, 3) := by decide +kernel
theorem zd_Mo_trade_132 : decode zc_Mo_trade 132 = .ok (.iload 6, 2) := by decide +kernel
theorem zd_Mo_trade_134 : decode zc_Mo_trade 134 = .ok (.iaload, 1) := by decide +kernel
theorem zd_Mo_trade_135 : decode zc_Mo_trade 135 = .ok (.imul, 1) := by decide +kernel
theorem zd_Mo_trade_136 : decode zc_Mo_trade 136 = .ok (.iadd, 1) := by decide +kernel
theorem zd_Mo_trade_137 : decode zc_Mo_trade 137 = .ok (.iaload, 1) := by decide +kernel
theorem zd_Mo_trade_138 : decode zc_Mo_trade 138 = .ok (.aload_n 0, 1) := by decide +kernel
theorem zd_Mo_trade_139 : decode zc_Mo_trade 139 = .ok (.getfield 92, 3) := by decide +kernel
theorem zd_Mo_trade_142 : decode zc_Mo_trade 142 = .ok (.iload 6, 2) := by decide +kernel
theorem zd_Mo_trade_144 : decode zc_Mo_trade 144 = .ok (.iaload, 1) := by decide +kernel
theorem zd_Mo_trade_145 : decode zc_Mo_trade 145 = .ok (.if_icmp .ge 7, 3) := by decide +kernel
theorem zd_Mo_trade_148 : decode zc_Mo_trade 148 = .ok (.iconst 1, 1) := by decide +kernel
theorem zd_Mo_trade_149 : decode zc_Mo_trade 149 = .ok (.goto 4, 3) := by decide +kernel
theorem zd_Mo_trade_152 : decode zc_Mo_trade 152 = .ok (.iconst 0, 1) := by decide +kernel
theorem zd_Mo_trade_153 : decode zc_Mo_trade 153 = .ok (.istore 8, 2) := by decide +kernel
theorem zd_Mo_trade_155 : decode zc_Mo_trade 155 = .ok (.iload 7, 2) := by decide +kernel
theorem zd_Mo_trade_157 : decode zc_Mo_trade 157 = .ok (.ifCond .gt 8, 3) := by decide +kernel
theorem zd_Mo_trade_160 : decode zc_Mo_trade 160 = .ok (.iload 8, 2) := by decide +kernel
theorem zd_Mo_trade_162 : decode zc_Mo_trade 162 = .ok (.ifCond .eq 7, 3) := by decide +kernel
theorem zd_Mo_trade_165 : decode zc_Mo_trade 165 = .ok (.iconst 1, 1) := by decide +kernel
theorem zd_Mo_trade_166 : decode zc_Mo_trade 166 = .ok (.goto 4, 3) := by decide +kernel
theorem zd_Mo_trade_169 : decode zc_Mo_trade 169 = .ok (.iconst 0, 1) := by decide +kernel
theorem zd_Mo_trade_170 : decode zc_Mo_trade 170 = .ok (.istore 4, 2) := by decide +kernel
theorem zd_Mo_trade_172 : decode zc_Mo_trade 172 = .ok (.aload_n 0, 1) := by decide +kernel
theorem zd_Mo_trade_173 : decode zc_Mo_trade 173 = .ok (.getfield 95, 3) := by decide +kernel
theorem zd_Mo_trade_176 : decode zc_Mo_trade 176 = .ok (.iload 6, 2) := by decide +kernel
theorem zd_Mo_trade_178 : decode zc_Mo_trade 178 = .ok (.iaload, 1) := by decide +kernel
theorem zd_Mo_trade_179 : decode zc_Mo_trade 179 = .ok (.ifCond .eq 13, 3) := by decide +kernel
theorem zd_Mo_trade_182 : decode zc_Mo_trade 182 = .ok (.iload 7, 2) := by decide +kernel
theorem zd_Mo_trade_184 : decode zc_Mo_trade 184 = .ok (.ifCond .ne 15, 3) := by decide +kernel
theorem zd_Mo_trade_187 : decode zc_Mo_trade 187 = .ok (.iload 8, 2) := by decide +kernel
theorem zd_Mo_trade_189 : decode zc_Mo_trade 189 = .ok (.ifCond .eq 10, 3) := by decide +kernel
theorem zd_Mo_trade_192 : decode zc_Mo_trade 192 = .ok (.aload_n 0, 1) := by decide +kernel
theorem zd_Mo_trade_193 : decode zc_Mo_trade 193 = .ok (.iload_n 1, 1) := by decide +kernel
theorem zd_Mo_trade_194 : decode zc_Mo_trade 194 = .ok (.iload 6, 2) := by decide +kernel
theorem zd_Mo_trade_196 : decode zc_Mo_trade 196 = .ok (.invokevirtual 218, 3) := by decide +kernel
theorem zd_Mo_trade_199 : decode zc_Mo_trade 199 = .ok (.iinc 5 1, 3) := by decide +kernel
theorem zd_Mo_trade_202 : decode zc_Mo_trade 202 = .ok (.goto (-189), 3) := by decide +kernel
theorem zd_Mo_trade_205 : decode zc_Mo_trade 205 = .ok (.iload_n 3, 1) := by decide +kernel
theorem zd_Mo_trade_206 : decode zc_Mo_trade 206 = .ok (.ifCond .le 84, 3) := by decide +kernel
theorem zd_Mo_trade_209 : decode zc_Mo_trade 209 = .ok (.aload_n 0, 1) := by decide +kernel
theorem zd_Mo_trade_210 : decode zc_Mo_trade 210 = .ok (.getfield 83, 3) := by decide +kernel
theorem zd_Mo_trade_213 : decode zc_Mo_trade 213 = .ok (.iload_n 1, 1) := by decide +kernel
theorem zd_Mo_trade_214 : decode zc_Mo_trade 214 = .ok (.iaload, 1) := by decide +kernel
theorem zd_Mo_trade_215 : decode zc_Mo_trade 215 = .ok (.bipush 8, 2) := by decide +kernel
theorem zd_Mo_trade_217 : decode zc_Mo_trade 217 = .ok (.if_icmp .ge 73, 3) := by decide +kernel
theorem zd_Mo_trade_220 : decode zc_Mo_trade 220 = .ok (.bipush 9, 2) := by decide +kernel
theorem zd_Mo_trade_222 : decode zc_Mo_trade 222 = .ok (.iload_n 1, 1) := by decide +kernel
theorem zd_Mo_trade_223 : decode zc_Mo_trade 223 = .ok (.imul, 1) := by decide +kernel
theorem zd_Mo_trade_224 : decode zc_Mo_trade 224 = .ok (.aload_n 0, 1) := by decide +kernel
theorem zd_Mo_trade_225 : decode zc_Mo_trade 225 = .ok (.getfield 83, 3) := by decide +kernel
theorem zd_Mo_trade_228 : decode zc_Mo_trade 228 = .ok (.iload_n 1, 1) := by decide +kernel
theorem zd_Mo_trade_229 : decode zc_Mo_trade 229 = .ok (.iaload, 1) := by decide +kernel
theorem zd_Mo_trade_230 : decode zc_Mo_trade 230 = .ok (.iadd, 1) := by decide +kernel
theorem zd_Mo_trade_231 : decode zc_Mo_trade 231 = .ok (.istore 5, 2) := by decide +kernel
theorem zd_Mo_trade_233 : decode zc_Mo_trade 233 = .ok (.aload_n 0, 1) := by decide +kernel
theorem zd_Mo_trade_234 : decode zc_Mo_trade 234 = .ok (.getfield 86, 3) := by decide +kernel
theorem zd_Mo_trade_237 : decode zc_Mo_trade 237 = .ok (.iload 5, 2) := by decide +kernel
theorem zd_Mo_trade_239 : decode zc_Mo_trade 239 = .ok (.aload_n 0, 1) := by decide +kernel
theorem zd_Mo_trade_240 : decode zc_Mo_trade 240 = .ok (.getfield 68, 3) := by decide +kernel
theorem zd_Mo_trade_243 : decode zc_Mo_trade 243 = .ok (.iload_n 2, 1) := by decide +kernel
theorem zd_Mo_trade_244 : decode zc_Mo_trade 244 = .ok (.iaload, 1) := by decide +kernel
theorem zd_Mo_trade_245 : decode zc_Mo_trade 245 = .ok (.iastore, 1) := by decide +kernel
theorem zd_Mo_trade_246 : decode zc_Mo_trade 246 = .ok (.aload_n 0, 1) := by decide +kernel
theorem zd_Mo_trade_247 : decode zc_Mo_trade 247 = .ok (.getfield 89, 3) := by decide +kernel
theorem zd_Mo_trade_250 : decode zc_Mo_trade 250 = .ok (.iload 5, 2) := by decide +kernel
theorem zd_Mo_trade_252 : decode zc_Mo_trade 252 = .ok (.aload_n 0, 1) := by decide +kernel
theorem zd_Mo_trade_253 : decode zc_Mo_trade 253 = .ok (.getfield 71, 3) := by decide +kernel
theorem zd_Mo_trade_256 : decode zc_Mo_trade 256 = .ok (.iload_n 2, 1) := by decide +kernel
theorem zd_Mo_trade_257 : decode zc_Mo_trade 257 = .ok (.iaload, 1) := by decide +kernel
theorem zd_Mo_trade_258 : decode zc_Mo_trade 258 = .ok (.iastore, 1) := by decide +kernel
theorem zd_Mo_trade_259 : decode zc_Mo_trade 259 = .ok (.aload_n 0, 1) := by decide +kernel
theorem zd_Mo_trade_260 : decode zc_Mo_trade 260 = .ok (.getfield 92, 3) := by decide +kernel
theorem zd_Mo_trade_263 : decode zc_Mo_trade 263 = .ok (.iload 5, 2) := by decide +kernel
theorem zd_Mo_trade_265 : decode zc_Mo_trade 265 = .ok (.aload_n 0, 1) := by decide +kernel
theorem zd_Mo_trade_266 : decode zc_Mo_trade 266 = .ok (.getfield 74, 3) := by decide +kernel
theorem zd_Mo_trade_269 : decode zc_Mo_trade 269 = .ok (.iload_n 2, 1) := by decide +kernel
theorem zd_Mo_trade_270 : decode zc_Mo_trade 270 = .ok (.iaload, 1) := by decide +kernel
theorem zd_Mo_trade_271 : decode zc_Mo_trade 271 = .ok (.iastore, 1) := by decide +kernel
theorem zd_Mo_trade_272 : decode zc_Mo_trade 272 = .ok (.aload_n 0, 1) := by decide +kernel
theorem zd_Mo_trade_273 : decode zc_Mo_trade 273 = .ok (.getfield 95, 3) := by decide +kernel
theorem zd_Mo_trade_276 : decode zc_Mo_trade 276 = .ok (.iload 5, 2) := by decide +kernel
theorem zd_Mo_trade_278 : decode zc_Mo_trade 278 = .ok (.iload_n 3, 1) := by decide +kernel
theorem zd_Mo_trade_279 : decode zc_Mo_trade 279 = .ok (.iastore, 1) := by decide +kernel
theorem zd_Mo_trade_280 : decode zc_Mo_trade 280 = .ok (.aload_n 0, 1) := by decide +kernel
theorem zd_Mo_trade_281 : decode zc_Mo_trade 281 = .ok (.getfield 83, 3) := by decide +kernel
theorem zd_Mo_trade_284 : decode zc_Mo_trade 284 = .ok (.iload_n 1, 1) := by decide +kernel
theorem zd_Mo_trade_285 : decode zc_Mo_trade 285 = .ok (.dup2, 1) := by decide +kernel
theorem zd_Mo_trade_286 : decode zc_Mo_trade 286 = .ok (.iaload, 1) := by decide +kernel
theorem zd_Mo_trade_287 : decode zc_Mo_trade 287 = .ok (.iconst 1, 1) := by decide +kernel
theorem zd_Mo_trade_288 : decode zc_Mo_trade 288 = .ok (.iadd, 1) := by decide +kernel
theorem zd_Mo_trade_289 : decode zc_Mo_trade 289 = .ok (.iastore, 1) := by decide +kernel
theorem zd_Mo_trade_290 : decode zc_Mo_trade 290 = .ok (.return_, 1) := by decide +kernel
theorem zd_Mo_carry_0 : decode zc_Mo_carry 0 = .ok (.bipush 8, 2) := by decide +kernel
theorem zd_Mo_carry_2 : decode zc_Mo_carry 2 = .ok (.iload_n 1, 1) := by decide +kernel
theorem zd_Mo_carry_3 : decode zc_Mo_carry 3 = .ok (.imul, 1) := by decide +kernel
theorem zd_Mo_carry_4 : decode zc_Mo_carry 4 = .ok (.iconst 2, 1) := by decide +kernel
theorem zd_Mo_carry_5 : decode zc_Mo_carry 5 = .ok (.aload_n 0, 1) := by decide +kernel
theorem zd_Mo_carry_6 : decode zc_Mo_carry 6 = .ok (.getfield 68, 3) := by decide +kernel
theorem zd_Mo_carry_9 : decode zc_Mo_carry 9 = .ok (.iload_n 2, 1) := by decide +kernel
theorem zd_Mo_carry_10 : decode zc_Mo_carry 10 = .ok (.iaload, 1) := by decide +kernel
theorem zd_Mo_carry_11 : decode zc_Mo_carry 11 = .ok (.imul, 1) := by decide +kernel
theorem zd_Mo_carry_12 : decode zc_Mo_carry 12 = .ok (.iadd, 1) := by decide +kernel
theorem zd_Mo_carry_13 : decode zc_Mo_carry 13 = .ok (.istore_n 3, 1) := by decide +kernel
theorem zd_Mo_carry_14 : decode zc_Mo_carry 14 = .ok (.aload_n 0, 1) := by decide +kernel
theorem zd_Mo_carry_15 : decode zc_Mo_carry 15 = .ok (.getfield 80, 3) := by decide +kernel
theorem zd_Mo_carry_18 : decode zc_Mo_carry 18 = .ok (.iload_n 3, 1) := by decide +kernel
theorem zd_Mo_carry_19 : decode zc_Mo_carry 19 = .ok (.iaload, 1) := by decide +kernel
theorem zd_Mo_carry_20 : decode zc_Mo_carry 20 = .ok (.ifCond .ne 4, 3) := by decide +kernel
theorem zd_Mo_carry_23 : decode zc_Mo_carry 23 = .ok (.return_, 1) := by decide +kernel
theorem zd_Mo_carry_24 : decode zc_Mo_carry 24 = .ok (.aload_n 0, 1) := by decide +kernel
theorem zd_Mo_carry_25 : decode zc_Mo_carry 25 = .ok (.getfield 80, 3) := by decide +kernel
theorem zd_Mo_carry_28 : decode zc_Mo_carry 28 = .ok (.iload_n 3, 1) := by decide +kernel
theorem zd_Mo_carry_29 : decode zc_Mo_carry 29 = .ok (.dup2, 1) := by decide +kernel
theorem zd_Mo_carry_30 : decode zc_Mo_carry 30 = .ok (.iaload, 1) := by decide +kernel
theorem zd_Mo_carry_31 : decode zc_Mo_carry 31 = .ok (.iconst 1, 1) := by decide +kernel
theorem zd_Mo_carry_32 : decode zc_Mo_carry 32 = .ok (.isub, 1) := by decide +kernel
theorem zd_Mo_carry_33 : decode zc_Mo_carry 33 = .ok (.iastore, 1) := by decide +kernel
theorem zd_Mo_carry_34 : decode zc_Mo_carry 34 = .ok (.aload_n 0, 1) := by decide +kernel
theorem zd_Mo_carry_35 : decode zc_Mo_carry 35 = .ok (.getfield 65, 3) := by decide +kernel
theorem zd_Mo_carry_38 : decode zc_Mo_carry 38 = .ok (.iload_n 2, 1) := by decide +kernel
theorem zd_Mo_carry_39 : decode zc_Mo_carry 39 = .ok (.iaload, 1) := by decide +kernel
theorem zd_Mo_carry_40 : decode zc_Mo_carry 40 = .ok (.iconst 1, 1) := by decide +kernel
theorem zd_Mo_carry_41 : decode zc_Mo_carry 41 = .ok (.if_icmp .ne 10, 3) := by decide +kernel
theorem zd_Mo_carry_44 : decode zc_Mo_carry 44 = .ok (.aload_n 0, 1) := by decide +kernel
theorem zd_Mo_carry_45 : decode zc_Mo_carry 45 = .ok (.iload_n 1, 1) := by decide +kernel
theorem zd_Mo_carry_46 : decode zc_Mo_carry 46 = .ok (.iload_n 2, 1) := by decide +kernel
theorem zd_Mo_carry_47 : decode zc_Mo_carry 47 = .ok (.invokevirtual 208, 3) := by decide +kernel
theorem zd_Mo_carry_50 : decode zc_Mo_carry 50 = .ok (.return_, 1) := by decide +kernel
theorem zd_Mo_carry_51 : decode zc_Mo_carry 51 = .ok (.aload_n 0, 1) := by decide +kernel
theorem zd_Mo_carry_52 : decode zc_Mo_carry 52 = .ok (.getfield 71, 3) := by decide +kernel
theorem zd_Mo_carry_55 : decode zc_Mo_carry 55 = .ok (.iload_n 2, 1) := by decide +kernel
theorem zd_Mo_carry_56 : decode zc_Mo_carry 56 = .ok (.iaload, 1) := by decide +kernel
theorem zd_Mo_carry_57 : decode zc_Mo_carry 57 = .ok (.istore 4, 2) := by decide +kernel
theorem zd_Mo_carry_59 : decode zc_Mo_carry 59 = .ok (.aload_n 0, 1) := by decide +kernel
theorem zd_Mo_carry_60 : decode zc_Mo_carry 60 = .ok (.getfield 80, 3) := by decide +kernel
theorem zd_Mo_carry_63 : decode zc_Mo_carry 63 = .ok (.iload_n 3, 1) := by decide +kernel
theorem zd_Mo_carry_64 : decode zc_Mo_carry 64 = .ok (.iload 4, 2) := by decide +kernel
theorem zd_Mo_carry_66 : decode zc_Mo_carry 66 = .ok (.iadd, 1) := by decide +kernel
theorem zd_Mo_carry_67 : decode zc_Mo_carry 67 = .ok (.iaload, 1) := by decide +kernel
theorem zd_Mo_carry_68 : decode zc_Mo_carry 68 = .ok (.aload_n 0, 1) := by decide +kernel
theorem zd_Mo_carry_69 : decode zc_Mo_carry 69 = .ok (.getfield 77, 3) := by decide +kernel
theorem zd_Mo_carry_72 : decode zc_Mo_carry 72 = .ok (.iload_n 2, 1) := by decide +kernel
theorem zd_Mo_carry_73 : decode zc_Mo_carry 73 = .ok (.iaload, 1) := by decide +kernel
theorem zd_Mo_carry_74 : decode zc_Mo_carry 74 = .ok (.if_icmp .ge 4, 3) := by decide +kernel
theorem zd_Mo_carry_77 : decode zc_Mo_carry 77 = .ok (.return_, 1) := by decide +kernel
theorem zd_Mo_carry_78 : decode zc_Mo_carry 78 = .ok (.aload_n 0, 1) := by decide +kernel
theorem zd_Mo_carry_79 : decode zc_Mo_carry 79 = .ok (.getfield 80, 3) := by decide +kernel
theorem zd_Mo_carry_82 : decode zc_Mo_carry 82 = .ok (.iload_n 3, 1) := by decide +kernel
theorem zd_Mo_carry_83 : decode zc_Mo_carry 83 = .ok (.iload 4, 2) := by decide +kernel
theorem zd_Mo_carry_85 : decode zc_Mo_carry 85 = .ok (.iadd, 1) := by decide +kernel
theorem zd_Mo_carry_86 : decode zc_Mo_carry 86 = .ok (.dup2, 1) := by decide +kernel
theorem zd_Mo_carry_87 : decode zc_Mo_carry 87 = .ok (.iaload, 1) := by decide +kernel
theorem zd_Mo_carry_88 : decode zc_Mo_carry 88 = .ok (.aload_n 0, 1) := by decide +kernel
theorem zd_Mo_carry_89 : decode zc_Mo_carry 89 = .ok (.getfield 77, 3) := by decide +kernel
theorem zd_Mo_carry_92 : decode zc_Mo_carry 92 = .ok (.iload_n 2, 1) := by decide +kernel
theorem zd_Mo_carry_93 : decode zc_Mo_carry 93 = .ok (.iaload, 1) := by decide +kernel
theorem zd_Mo_carry_94 : decode zc_Mo_carry 94 = .ok (.isub, 1) := by decide +kernel
theorem zd_Mo_carry_95 : decode zc_Mo_carry 95 = .ok (.iastore, 1) := by decide +kernel
theorem zd_Mo_carry_96 : decode zc_Mo_carry 96 = .ok (.aload_n 0, 1) := by decide +kernel
theorem zd_Mo_carry_97 : decode zc_Mo_carry 97 = .ok (.getfield 80, 3) := by decide +kernel
theorem zd_Mo_carry_100 : decode zc_Mo_carry 100 = .ok (.bipush 8, 2) := by decide +kernel
theorem zd_Mo_carry_102 : decode zc_Mo_carry 102 = .ok (.iload_n 1, 1) := by decide +kernel
theorem zd_Mo_carry_103 : decode zc_Mo_carry 103 = .ok (.imul, 1) := by decide +kernel
theorem zd_Mo_carry_104 : decode zc_Mo_carry 104 = .ok (.iconst 2, 1) := by decide +kernel
theorem zd_Mo_carry_105 : decode zc_Mo_carry 105 = .ok (.aload_n 0, 1) := by decide +kernel
theorem zd_Mo_carry_106 : decode zc_Mo_carry 106 = .ok (.getfield 74, 3) := by decide +kernel
theorem zd_Mo_carry_109 : decode zc_Mo_carry 109 = .ok (.iload_n 2, 1) := by decide +kernel
theorem zd_Mo_carry_110 : decode zc_Mo_carry 110 = .ok (.iaload, 1) := by decide +kernel
theorem zd_Mo_carry_111 : decode zc_Mo_carry 111 = .ok (.imul, 1) := by decide +kernel
theorem zd_Mo_carry_112 : decode zc_Mo_carry 112 = .ok (.iadd, 1) := by decide +kernel
theorem zd_Mo_carry_113 : decode zc_Mo_carry 113 = .ok (.iload 4, 2) := by decide +kernel
theorem zd_Mo_carry_115 : decode zc_Mo_carry 115 = .ok (.iadd, 1) := by decide +kernel
theorem zd_Mo_carry_116 : decode zc_Mo_carry 116 = .ok (.dup2, 1) := by decide +kernel
theorem zd_Mo_carry_117 : decode zc_Mo_carry 117 = .ok (.iaload, 1) := by decide +kernel
theorem zd_Mo_carry_118 : decode zc_Mo_carry 118 = .ok (.aload_n 0, 1) := by decide +kernel
theorem zd_Mo_carry_119 : decode zc_Mo_carry 119 = .ok (.getfield 77, 3) := by decide +kernel
theorem zd_Mo_carry_122 : decode zc_Mo_carry 122 = .ok (.iload_n 2, 1) := by decide +kernel
theorem zd_Mo_carry_123 : decode zc_Mo_carry 123 = .ok (.iaload, 1) := by decide +kernel
theorem zd_Mo_carry_124 : decode zc_Mo_carry 124 = .ok (.iadd, 1) := by decide +kernel
theorem zd_Mo_carry_125 : decode zc_Mo_carry 125 = .ok (.iastore, 1) := by decide +kernel
theorem zd_Mo_carry_126 : decode zc_Mo_carry 126 = .ok (.return_, 1) := by decide +kernel
theorem zd_Mo_externalize_0 : decode zc_Mo_externalize 0 = .ok (.aload_n 0, 1) := by decide +kernel
theorem zd_Mo_externalize_1 : decode zc_Mo_externalize 1 = .ok (.getfield 26, 3) := by decide +kernel
theorem zd_Mo_externalize_4 : decode zc_Mo_externalize 4 = .ok (.iload_n 1, 1) := by decide +kernel
theorem zd_Mo_externalize_5 : decode zc_Mo_externalize 5 = .ok (.iaload, 1) := by decide +kernel
theorem zd_Mo_externalize_6 : decode zc_Mo_externalize 6 = .ok (.istore_n 3, 1) := by decide +kernel
theorem zd_Mo_externalize_7 : decode zc_Mo_externalize 7 = .ok (.aload_n 0, 1) := by decide +kernel
theorem zd_Mo_externalize_8 : decode zc_Mo_externalize 8 = .ok (.getfield 47, 3) := by decide +kernel
theorem zd_Mo_externalize_11 : decode zc_Mo_externalize 11 = .ok (.iconst 3, 1) := by decide +kernel
theorem zd_Mo_externalize_12 : decode zc_Mo_externalize 12 = .ok (.iload_n 1, 1) := by decide +kernel
theorem zd_Mo_externalize_13 : decode zc_Mo_externalize 13 = .ok (.imul, 1) := by decide +kernel
theorem zd_Mo_externalize_14 : decode zc_Mo_externalize 14 = .ok (.iload_n 3, 1) := by decide +kernel
theorem zd_Mo_externalize_15 : decode zc_Mo_externalize 15 = .ok (.iadd, 1) := by decide +kernel
theorem zd_Mo_externalize_16 : decode zc_Mo_externalize 16 = .ok (.iload_n 2, 1) := by decide +kernel
theorem zd_Mo_externalize_17 : decode zc_Mo_externalize 17 = .ok (.iastore, 1) := by decide +kernel
theorem zd_Mo_externalize_18 : decode zc_Mo_externalize 18 = .ok (.iconst 0, 1) := by decide +kernel
theorem zd_Mo_externalize_19 : decode zc_Mo_externalize 19 = .ok (.istore 4, 2) := by decide +kernel
theorem zd_Mo_externalize_21 : decode zc_Mo_externalize 21 = .ok (.iload 4, 2) := by decide +kernel
theorem zd_Mo_externalize_23 : decode zc_Mo_externalize 23 = .ok (.iconst 3, 1) := by decide +kernel
theorem zd_Mo_externalize_24 : decode zc_Mo_externalize 24 = .ok (.if_icmp .ge 44, 3) := by decide +kernel
theorem zd_Mo_externalize_27 : decode zc_Mo_externalize 27 = .ok (.iload_n 2, 1) := by decide +kernel
theorem zd_Mo_externalize_28 : decode zc_Mo_externalize 28 = .ok (.iload 4, 2) := by decide +kernel
theorem zd_Mo_externalize_30 : decode zc_Mo_externalize 30 = .ok (.ishr, 1) := by decide +kernel
theorem zd_Mo_externalize_31 : decode zc_Mo_externalize 31 = .ok (.iconst 1, 1) := by decide +kernel
theorem zd_Mo_externalize_32 : decode zc_Mo_externalize 32 = .ok (.iand, 1) := by decide +kernel
theorem zd_Mo_externalize_33 : decode zc_Mo_externalize 33 = .ok (.iconst 1, 1) := by decide +kernel
theorem zd_Mo_externalize_34 : decode zc_Mo_externalize 34 = .ok (.if_icmp .ne 28, 3) := by decide +kernel
theorem zd_Mo_externalize_37 : decode zc_Mo_externalize 37 = .ok (.aload_n 0, 1) := by decide +kernel
theorem zd_Mo_externalize_38 : decode zc_Mo_externalize 38 = .ok (.getfield 62, 3) := by decide +kernel
theorem zd_Mo_externalize_41 : decode zc_Mo_externalize 41 = .ok (.iconst 3, 1) := by decide +kernel
theorem zd_Mo_externalize_42 : decode zc_Mo_externalize 42 = .ok (.iload_n 3, 1) := by decide +kernel
theorem zd_Mo_externalize_43 : decode zc_Mo_externalize 43 = .ok (.imul, 1) := by decide +kernel
theorem zd_Mo_externalize_44 : decode zc_Mo_externalize 44 = .ok (.iload 4, 2) := by decide +kernel
theorem zd_Mo_externalize_46 : decode zc_Mo_externalize 46 = .ok (.iadd, 1) := by decide +kernel
theorem zd_Mo_externalize_47 : decode zc_Mo_externalize 47 = .ok (.baload, 1) := by decide +kernel
theorem zd_Mo_externalize_48 : decode zc_Mo_externalize 48 = .ok (.ifCond .eq 14, 3) := by decide +kernel
theorem zd_Mo_externalize_51 : decode zc_Mo_externalize 51 = .ok (.aload_n 0, 1) := by decide +kernel
theorem zd_Mo_externalize_52 : decode zc_Mo_externalize 52 = .ok (.iload_n 1, 1) := by decide +kernel
theorem zd_Mo_externalize_53 : decode zc_Mo_externalize 53 = .ok (.iconst 3, 1) := by decide +kernel
theorem zd_Mo_externalize_54 : decode zc_Mo_externalize 54 = .ok (.iload_n 3, 1) := by decide +kernel
theorem zd_Mo_externalize_55 : decode zc_Mo_externalize 55 = .ok (.imul, 1) := by decide +kernel
theorem zd_Mo_externalize_56 : decode zc_Mo_externalize 56 = .ok (.iload 4, 2) := by decide +kernel
theorem zd_Mo_externalize_58 : decode zc_Mo_externalize 58 = .ok (.iadd, 1) := by decide +kernel
theorem zd_Mo_externalize_59 : decode zc_Mo_externalize 59 = .ok (.invokevirtual 187, 3) := by decide +kernel
theorem zd_Mo_externalize_62 : decode zc_Mo_externalize 62 = .ok (.iinc 4 1, 3) := by decide +kernel
theorem zd_Mo_externalize_65 : decode zc_Mo_externalize 65 = .ok (.goto (-44), 3) := by decide +kernel
theorem zd_Mo_externalize_68 : decode zc_Mo_externalize 68 = .ok (.aload_n 0, 1) := by decide +kernel
theorem zd_Mo_externalize_69 : decode zc_Mo_externalize 69 = .ok (.getfield 50, 3) := by decide +kernel
theorem zd_Mo_externalize_72 : decode zc_Mo_externalize 72 = .ok (.iload_n 1, 1) := by decide +kernel
theorem zd_Mo_externalize_73 : decode zc_Mo_externalize 73 = .ok (.bipush 31, 2) := by decide +kernel
theorem zd_Mo_externalize_75 : decode zc_Mo_externalize 75 = .ok (.bipush 31, 2) := by decide +kernel
theorem zd_Mo_externalize_77 : decode zc_Mo_externalize 77 = .ok (.aload_n 0, 1) := by decide +kernel
theorem zd_Mo_externalize_78 : decode zc_Mo_externalize 78 = .ok (.getfield 50, 3) := by decide +kernel
theorem zd_Mo_externalize_81 : decode zc_Mo_externalize 81 = .ok (.iload_n 1, 1) := by decide +kernel
theorem zd_Mo_externalize_82 : decode zc_Mo_externalize 82 = .ok (.iaload, 1) := by decide +kernel
theorem zd_Mo_externalize_83 : decode zc_Mo_externalize 83 = .ok (.imul, 1) := by decide +kernel
theorem zd_Mo_externalize_84 : decode zc_Mo_externalize 84 = .ok (.iload_n 3, 1) := by decide +kernel
theorem zd_Mo_externalize_85 : decode zc_Mo_externalize 85 = .ok (.iadd, 1) := by decide +kernel
theorem zd_Mo_externalize_86 : decode zc_Mo_externalize 86 = .ok (.imul, 1) := by decide +kernel
theorem zd_Mo_externalize_87 : decode zc_Mo_externalize 87 = .ok (.iload_n 2, 1) := by decide +kernel
theorem zd_Mo_externalize_88 : decode zc_Mo_externalize 88 = .ok (.iadd, 1) := by decide +kernel
theorem zd_Mo_externalize_89 : decode zc_Mo_externalize 89 = .ok (.iastore, 1) := by decide +kernel
theorem zd_Mo_externalize_90 : decode zc_Mo_externalize 90 = .ok (.aload_n 0, 1) := by decide +kernel
theorem zd_Mo_externalize_91 : decode zc_Mo_externalize 91 = .ok (.getfield 26, 3) := by decide +kernel
theorem zd_Mo_externalize_94 : decode zc_Mo_externalize 94 = .ok (.iload_n 1, 1) := by decide +kernel
theorem zd_Mo_externalize_95 : decode zc_Mo_externalize 95 = .ok (.dup2, 1) := by decide +kernel
theorem zd_Mo_externalize_96 : decode zc_Mo_externalize 96 = .ok (.iaload, 1) := by decide +kernel
theorem zd_Mo_externalize_97 : decode zc_Mo_externalize 97 = .ok (.iconst 1, 1) := by decide +kernel
theorem zd_Mo_externalize_98 : decode zc_Mo_externalize 98 = .ok (.iadd, 1) := by decide +kernel
theorem zd_Mo_externalize_99 : decode zc_Mo_externalize 99 = .ok (.iastore, 1) := by decide +kernel
theorem zd_Mo_externalize_100 : decode zc_Mo_externalize 100 = .ok (.aload_n 0, 1) := by decide +kernel
theorem zd_Mo_externalize_101 : decode zc_Mo_externalize 101 = .ok (.getfield 29, 3) := by decide +kernel
theorem zd_Mo_externalize_104 : decode zc_Mo_externalize 104 = .ok (.iload_n 1, 1) := by decide +kernel
theorem zd_Mo_externalize_105 : decode zc_Mo_externalize 105 = .ok (.iconst 0, 1) := by decide +kernel
theorem zd_Mo_externalize_106 : decode zc_Mo_externalize 106 = .ok (.iastore, 1) := by decide +kernel
theorem zd_Mo_externalize_107 : decode zc_Mo_externalize 107 = .ok (.aload_n 0, 1) := by decide +kernel
theorem zd_Mo_externalize_108 : decode zc_Mo_externalize 108 = .ok (.getfield 32, 3) := by decide +kernel
theorem zd_Mo_externalize_111 : decode zc_Mo_externalize 111 = .ok (.iload_n 1, 1) := by decide +kernel
theorem zd_Mo_externalize_112 : decode zc_Mo_externalize 112 = .ok (.iconst 0, 1) := by decide +kernel
theorem zd_Mo_externalize_113 : decode zc_Mo_externalize 113 = .ok (.iastore, 1) := by decide +kernel
theorem zd_Mo_externalize_114 : decode zc_Mo_externalize 114 = .ok (.aload_n 0, 1) := by decide +kernel
theorem zd_Mo_externalize_115 : decode zc_Mo_externalize 115 = .ok (.getfield 35, 3) := by decide +kernel
theorem zd_Mo_externalize_118 : decode zc_Mo_externalize 118 = .ok (.iload_n 1, 1) := by decide +kernel
theorem zd_Mo_externalize_119 : decode zc_Mo_externalize 119 = .ok (.iconst 0, 1) := by decide +kernel
theorem zd_Mo_externalize_120 : decode zc_Mo_externalize 120 = .ok (.iastore, 1) := by decide +kernel
theorem zd_Mo_externalize_121 : decode zc_Mo_externalize 121 = .ok (.aload_n 0, 1) := by decide +kernel
theorem zd_Mo_externalize_122 : decode zc_Mo_externalize 122 = .ok (.getfield 38, 3) := by decide +kernel
theorem zd_Mo_externalize_125 : decode zc_Mo_externalize 125 = .ok (.iload_n 1, 1) := by decide +kernel
theorem zd_Mo_externalize_126 : decode zc_Mo_externalize 126 = .ok (.iconst 0, 1) := by decide +kernel
theorem zd_Mo_externalize_127 : decode zc_Mo_externalize 127 = .ok (.iastore, 1) := by decide +kernel
theorem zd_Mo_externalize_128 : decode zc_Mo_externalize 128 = .ok (.bipush 30, 2) := by decide +kernel
theorem zd_Mo_externalize_130 : decode zc_Mo_externalize 130 = .ok (.iload_n 1, 1) := by decide +kernel
theorem zd_Mo_externalize_131 : decode zc_Mo_externalize 131 = .ok (.imul, 1) := by decide +kernel
theorem zd_Mo_externalize_132 : decode zc_Mo_externalize 132 = .ok (.istore 4, 2) := by decide +kernel
theorem zd_Mo_externalize_134 : decode zc_Mo_externalize 134 = .ok (.iload 4, 2) := by decide +kernel
theorem zd_Mo_externalize_136 : decode zc_Mo_externalize 136 = .ok (.bipush 30, 2) := by decide +kernel
theorem zd_Mo_externalize_138 : decode zc_Mo_externalize 138 = .ok (.iload_n 1, 1) := by decide +kernel
theorem zd_Mo_externalize_139 : decode zc_Mo_externalize 139 = .ok (.imul, 1) := by decide +kernel
theorem zd_Mo_externalize_140 : decode zc_Mo_externalize 140 = .ok (.bipush 30, 2) := by decide +kernel
theorem zd_Mo_externalize_142 : decode zc_Mo_externalize 142 = .ok (.iadd, 1) := by decide +kernel
theorem zd_Mo_externalize_143 : decode zc_Mo_externalize 143 = .ok (.if_icmp .ge 17, 3) := by decide +kernel
theorem zd_Mo_externalize_146 : decode zc_Mo_externalize 146 = .ok (.aload_n 0, 1) := by decide +kernel
theorem zd_Mo_externalize_147 : decode zc_Mo_externalize 147 = .ok (.getfield 44, 3) := by decide +kernel
theorem zd_Mo_externalize_150 : decode zc_Mo_externalize 150 = .ok (.iload 4, 2) := by decide +kernel
theorem zd_Mo_externalize_152 : decode zc_Mo_externalize 152 = .ok (.iconst 0, 1) := by decide +kernel
theorem zd_Mo_externalize_153 : decode zc_Mo_externalize 153 = .ok (.iastore, 1) := by decide +kernel
theorem zd_Mo_externalize_154 : decode zc_Mo_externalize 154 = .ok (.iinc 4 1, 3) := by decide +kernel
theorem zd_Mo_externalize_157 : decode zc_Mo_externalize 157 = .ok (.goto (-23), 3) := by decide +kernel
theorem zd_Mo_externalize_160 : decode zc_Mo_externalize 160 = .ok (.return_, 1) := by decide +kernel
theorem zd_Mo_ruleH_0 : decode zc_Mo_ruleH 0 = .ok (.iconst 0, 1) := by decide +kernel
theorem zd_Mo_ruleH_1 : decode zc_Mo_ruleH 1 = .ok (.istore_n 2, 1) := by decide +kernel
theorem zd_Mo_ruleH_2 : decode zc_Mo_ruleH 2 = .ok (.iconst 0, 1) := by decide +kernel
theorem zd_Mo_ruleH_3 : decode zc_Mo_ruleH 3 = .ok (.istore_n 3, 1) := by decide +kernel
theorem zd_Mo_ruleH_4 : decode zc_Mo_ruleH 4 = .ok (.iload_n 3, 1) := by decide +kernel
theorem zd_Mo_ruleH_5 : decode zc_Mo_ruleH 5 = .ok (.bipush 28, 2) := by decide +kernel
theorem zd_Mo_ruleH_7 : decode zc_Mo_ruleH 7 = .ok (.if_icmp .ge 60, 3) := by decide +kernel
theorem zd_Mo_ruleH_10 : decode zc_Mo_ruleH 10 = .ok (.aload_n 0, 1) := by decide +kernel
theorem zd_Mo_ruleH_11 : decode zc_Mo_ruleH 11 = .ok (.iload_n 1, 1) := by decide +kernel
theorem zd_Mo_ruleH_12 : decode zc_Mo_ruleH 12 = .ok (.iconst 2, 1) := by decide +kernel
theorem zd_Mo_ruleH_13 : decode zc_Mo_ruleH 13 = .ok (.iload_n 3, 1) := by decide +kernel
theorem zd_Mo_ruleH_14 : decode zc_Mo_ruleH 14 = .ok (.iload_n 3, 1) := by decide +kernel
theorem zd_Mo_ruleH_15 : decode zc_Mo_ruleH 15 = .ok (.invokevirtual 165, 3) := by decide +kernel
theorem zd_Mo_ruleH_18 : decode zc_Mo_ruleH 18 = .ok (.istore 4, 2) := by decide +kernel
theorem zd_Mo_ruleH_20 : decode zc_Mo_ruleH 20 = .ok (.iload 4, 2) := by decide +kernel
theorem zd_Mo_ruleH_22 : decode zc_Mo_ruleH 22 = .ok (.ifCond .eq 7, 3) := by decide +kernel
theorem zd_Mo_ruleH_25 : decode zc_Mo_ruleH 25 = .ok (.iconst 1, 1) := by decide +kernel
theorem zd_Mo_ruleH_26 : decode zc_Mo_ruleH 26 = .ok (.goto 4, 3) := by decide +kernel
theorem zd_Mo_ruleH_29 : decode zc_Mo_ruleH 29 = .ok (.iload_n 2, 1) := by decide +kernel
theorem zd_Mo_ruleH_30 : decode zc_Mo_ruleH 30 = .ok (.istore_n 2, 1) := by decide +kernel
theorem zd_Mo_ruleH_31 : decode zc_Mo_ruleH 31 = .ok (.aload_n 0, 1) := by decide +kernel
theorem zd_Mo_ruleH_32 : decode zc_Mo_ruleH 32 = .ok (.iload_n 1, 1) := by decide +kernel
theorem zd_Mo_ruleH_33 : decode zc_Mo_ruleH 33 = .ok (.iconst 2, 1) := by decide +kernel
theorem zd_Mo_ruleH_34 : decode zc_Mo_ruleH 34 = .ok (.iload_n 3, 1) := by decide +kernel
theorem zd_Mo_ruleH_35 : decode zc_Mo_ruleH 35 = .ok (.invokevirtual 158, 3) := by decide +kernel
theorem zd_Mo_ruleH_38 : decode zc_Mo_ruleH 38 = .ok (.ifCond .eq 23, 3) := by decide +kernel
theorem zd_Mo_ruleH_41 : decode zc_Mo_ruleH 41 = .ok (.aload_n 0, 1) := by decide +kernel
theorem zd_Mo_ruleH_42 : decode zc_Mo_ruleH 42 = .ok (.iload_n 1, 1) := by decide +kernel
theorem zd_Mo_ruleH_43 : decode zc_Mo_ruleH 43 = .ok (.iconst 2, 1) := by decide +kernel
theorem zd_Mo_ruleH_44 : decode zc_Mo_ruleH 44 = .ok (.iconst 2, 1) := by decide +kernel
theorem zd_Mo_ruleH_45 : decode zc_Mo_ruleH 45 = .ok (.iload_n 3, 1) := by decide +kernel
theorem zd_Mo_ruleH_46 : decode zc_Mo_ruleH 46 = .ok (.invokevirtual 152, 3) := by decide +kernel
theorem zd_Mo_ruleH_49 : decode zc_Mo_ruleH 49 = .ok (.pop, 1) := by decide +kernel
theorem zd_Mo_ruleH_50 : decode zc_Mo_ruleH 50 = .ok (.aload_n 0, 1) := by decide +kernel
theorem zd_Mo_ruleH_51 : decode zc_Mo_ruleH 51 = .ok (.iload_n 1, 1) := by decide +kernel
theorem zd_Mo_ruleH_52 : decode zc_Mo_ruleH 52 = .ok (.iload_n 3, 1) := by decide +kernel
theorem zd_Mo_ruleH_53 : decode zc_Mo_ruleH 53 = .ok (.invokestatic 129, 3) := by decide +kernel
theorem zd_Mo_ruleH_56 : decode zc_Mo_ruleH 56 = .ok (.invokevirtual 168, 3) := by decide +kernel
theorem zd_Mo_ruleH_59 : decode zc_Mo_ruleH 59 = .ok (.iconst 2, 1) := by decide +kernel
theorem zd_Mo_ruleH_60 : decode zc_Mo_ruleH 60 = .ok (.ireturn, 1) := by decide +kernel
theorem zd_Mo_ruleH_61 : decode zc_Mo_ruleH 61 = .ok (.iinc 3 1, 3) := by decide +kernel
theorem zd_Mo_ruleH_64 : decode zc_Mo_ruleH 64 = .ok (.goto (-60), 3) := by decide +kernel
theorem zd_Mo_ruleH_67 : decode zc_Mo_ruleH 67 = .ok (.iload_n 2, 1) := by decide +kernel
theorem zd_Mo_ruleH_68 : decode zc_Mo_ruleH 68 = .ok (.ireturn, 1) := by decide +kernel
theorem zd_Mo_stir_0 : decode zc_Mo_stir 0 = .ok (.aload_n 0, 1) := by decide +kernel
theorem zd_Mo_stir_1 : decode zc_Mo_stir 1 = .ok (.getfield 26, 3) := by decide +kernel
theorem zd_Mo_stir_4 : decode zc_Mo_stir 4 = .ok (.iload_n 1, 1) := by decide +kernel
theorem zd_Mo_stir_5 : decode zc_Mo_stir 5 = .ok (.iaload, 1) := by decide +kernel
theorem zd_Mo_stir_6 : decode zc_Mo_stir 6 = .ok (.iconst 3, 1) := by decide +kernel
theorem zd_Mo_stir_7 : decode zc_Mo_stir 7 = .ok (.if_icmp .ge 7, 3) := by decide +kernel
theorem zd_Mo_stir_10 : decode zc_Mo_stir 10 = .ok (.iconst 1, 1) := by decide +kernel
theorem zd_Mo_stir_11 : decode zc_Mo_stir 11 = .ok (.goto 4, 3) := by decide +kernel
theorem zd_Mo_stir_14 : decode zc_Mo_stir 14 = .ok (.iconst 0, 1) := by decide +kernel
theorem zd_Mo_stir_15 : decode zc_Mo_stir 15 = .ok (.istore_n 2, 1) := by decide +kernel
theorem zd_Mo_stir_16 : decode zc_Mo_stir 16 = .ok (.iconst 0, 1) := by decide +kernel
theorem zd_Mo_stir_17 : decode zc_Mo_stir 17 = .ok (.istore_n 3, 1) := by decide +kernel
theorem zd_Mo_stir_18 : decode zc_Mo_stir 18 = .ok (.iload_n 3, 1) := by decide +kernel
theorem zd_Mo_stir_19 : decode zc_Mo_stir 19 = .ok (.sipush 1000, 3) := by decide +kernel
theorem zd_Mo_stir_22 : decode zc_Mo_stir 22 = .ok (.if_icmp .ge 172, 3) := by decide +kernel
theorem zd_Mo_stir_25 : decode zc_Mo_stir 25 = .ok (.iload_n 2, 1) := by decide +kernel
theorem zd_Mo_stir_26 : decode zc_Mo_stir 26 = .ok (.ifCond .eq 168, 3) := by decide +kernel
theorem zd_Mo_stir_29 : decode zc_Mo_stir 29 = .ok (.aload_n 0, 1) := by decide +kernel
theorem zd_Mo_stir_30 : decode zc_Mo_stir 30 = .ok (.iload_n 1, 1) := by decide +kernel
theorem zd_Mo_stir_31 : decode zc_Mo_stir 31 = .ok (.invokevirtual 172, 3) := by decide +kernel
theorem zd_Mo_stir_34 : decode zc_Mo_stir 34 = .ok (.istore_n 2, 1) := by decide +kernel
theorem zd_Mo_stir_35 : decode zc_Mo_stir 35 = .ok (.aload_n 0, 1) := by decide +kernel
theorem zd_Mo_stir_36 : decode zc_Mo_stir 36 = .ok (.iload_n 1, 1) := by decide +kernel
theorem zd_Mo_stir_37 : decode zc_Mo_stir 37 = .ok (.iconst 0, 1) := by decide +kernel
theorem zd_Mo_stir_38 : decode zc_Mo_stir 38 = .ok (.iconst 1, 1) := by decide +kernel
theorem zd_Mo_stir_39 : decode zc_Mo_stir 39 = .ok (.bipush 7, 2) := by decide +kernel
theorem zd_Mo_stir_41 : decode zc_Mo_stir 41 = .ok (.invokevirtual 165, 3) := by decide +kernel
theorem zd_Mo_stir_44 : decode zc_Mo_stir 44 = .ok (.ifCond .ne 7, 3) := by decide +kernel
theorem zd_Mo_stir_47 : decode zc_Mo_stir 47 = .ok (.iload_n 2, 1) := by decide +kernel
theorem zd_Mo_stir_48 : decode zc_Mo_stir 48 = .ok (.ifCond .eq 7, 3) := by decide +kernel
theorem zd_Mo_stir_51 : decode zc_Mo_stir 51 = .ok (.iconst 1, 1) := by decide +kernel
theorem zd_Mo_stir_52 : decode zc_Mo_stir 52 = .ok (.goto 4, 3) := by decide +kernel
theorem zd_Mo_stir_55 : decode zc_Mo_stir 55 = .ok (.iconst 0, 1) := by decide +kernel
theorem zd_Mo_stir_56 : decode zc_Mo_stir 56 = .ok (.istore_n 2, 1) := by decide +kernel
theorem zd_Mo_stir_57 : decode zc_Mo_stir 57 = .ok (.aload_n 0, 1) := by decide +kernel
theorem zd_Mo_stir_58 : decode zc_Mo_stir 58 = .ok (.iload_n 1, 1) := by decide +kernel
theorem zd_Mo_stir_59 : decode zc_Mo_stir 59 = .ok (.iconst 0, 1) := by decide +kernel
theorem zd_Mo_stir_60 : decode zc_Mo_stir 60 = .ok (.iconst 1, 1) := by decide +kernel
theorem zd_Mo_stir_61 : decode zc_Mo_stir 61 = .ok (.bipush 7, 2) := by decide +kernel
theorem zd_Mo_stir_63 : decode zc_Mo_stir 63 = .ok (.invokevirtual 175, 3) := by decide +kernel
theorem zd_Mo_stir_66 : decode zc_Mo_stir 66 = .ok (.ifCond .ne 7, 3) := by decide +kernel
theorem zd_Mo_stir_69 : decode zc_Mo_stir 69 = .ok (.iload_n 2, 1) := by decide +kernel
theorem zd_Mo_stir_70 : decode zc_Mo_stir 70 = .ok (.ifCond .eq 7, 3) := by decide +kernel
theorem zd_Mo_stir_73 : decode zc_Mo_stir 73 = .ok (.iconst 1, 1) := by decide +kernel
theorem zd_Mo_stir_74 : decode zc_Mo_stir 74 = .ok (.goto 4, 3) := by decide +kernel
theorem zd_Mo_stir_77 : decode zc_Mo_stir 77 = .ok (.iconst 0, 1) := by decide +kernel
theorem zd_Mo_stir_78 : decode zc_Mo_stir 78 = .ok (.istore_n 2, 1) := by decide +kernel
theorem zd_Mo_stir_79 : decode zc_Mo_stir 79 = .ok (.aload_n 0, 1) := by decide +kernel
theorem zd_Mo_stir_80 : decode zc_Mo_stir 80 = .ok (.iload_n 1, 1) := by decide +kernel
theorem zd_Mo_stir_81 : decode zc_Mo_stir 81 = .ok (.invokevirtual 178, 3) := by decide +kernel
theorem zd_Mo_stir_84 : decode zc_Mo_stir 84 = .ok (.ifCond .ne 7, 3) := by decide +kernel
theorem zd_Mo_stir_87 : decode zc_Mo_stir 87 = .ok (.iload_n 2, 1) := by decide +kernel
theorem zd_Mo_stir_88 : decode zc_Mo_stir 88 = .ok (.ifCond .eq 7, 3) := by decide +kernel
theorem zd_Mo_stir_91 : decode zc_Mo_stir 91 = .ok (.iconst 1, 1) := by decide +kernel
theorem zd_Mo_stir_92 : decode zc_Mo_stir 92 = .ok (.goto 4, 3) := by decide +kernel
theorem zd_Mo_stir_95 : decode zc_Mo_stir 95 = .ok (.iconst 0, 1) := by decide +kernel
theorem zd_Mo_stir_96 : decode zc_Mo_stir 96 = .ok (.istore_n 2, 1) := by decide +kernel
theorem zd_Mo_stir_97 : decode zc_Mo_stir 97 = .ok (.aload_n 0, 1) := by decide +kernel
theorem zd_Mo_stir_98 : decode zc_Mo_stir 98 = .ok (.iload_n 1, 1) := by decide +kernel
theorem zd_Mo_stir_99 : decode zc_Mo_stir 99 = .ok (.iconst 1, 1) := by decide +kernel
theorem zd_Mo_stir_100 : decode zc_Mo_stir 100 = .ok (.iconst 0, 1) := by decide +kernel
theorem zd_Mo_stir_101 : decode zc_Mo_stir 101 = .ok (.bipush 27, 2) := by decide +kernel
theorem zd_Mo_stir_103 : decode zc_Mo_stir 103 = .ok (.invokevirtual 165, 3) := by decide +kernel
theorem zd_Mo_stir_106 : decode zc_Mo_stir 106 = .ok (.ifCond .ne 7, 3) := by decide +kernel
theorem zd_Mo_stir_109 : decode zc_Mo_stir 109 = .ok (.iload_n 2, 1) := by decide +kernel
theorem zd_Mo_stir_110 : decode zc_Mo_stir 110 = .ok (.ifCond .eq 7, 3) := by decide +kernel
theorem zd_Mo_stir_113 : decode zc_Mo_stir 113 = .ok (.iconst 1, 1) := by decide +kernel
theorem zd_Mo_stir_114 : decode zc_Mo_stir 114 = .ok (.goto 4, 3) := by decide +kernel
theorem zd_Mo_stir_117 : decode zc_Mo_stir 117 = .ok (.iconst 0, 1) := by decide +kernel
theorem zd_Mo_stir_118 : decode zc_Mo_stir 118 = .ok (.istore_n 2, 1) := by decide +kernel
theorem zd_Mo_stir_119 : decode zc_Mo_stir 119 = .ok (.aload_n 0, 1) := by decide +kernel
theorem zd_Mo_stir_120 : decode zc_Mo_stir 120 = .ok (.iload_n 1, 1) := by decide +kernel
theorem zd_Mo_stir_121 : decode zc_Mo_stir 121 = .ok (.iconst 1, 1) := by decide +kernel
theorem zd_Mo_stir_122 : decode zc_Mo_stir 122 = .ok (.iconst 0, 1) := by decide +kernel
theorem zd_Mo_stir_123 : decode zc_Mo_stir 123 = .ok (.bipush 27, 2) := by decide +kernel
theorem zd_Mo_stir_125 : decode zc_Mo_stir 125 = .ok (.invokevirtual 175, 3) := by decide +kernel
theorem zd_Mo_stir_128 : decode zc_Mo_stir 128 = .ok (.ifCond .ne 7, 3) := by decide +kernel
theorem zd_Mo_stir_131 : decode zc_Mo_stir 131 = .ok (.iload_n 2, 1) := by decide +kernel
theorem zd_Mo_stir_132 : decode zc_Mo_stir 132 = .ok (.ifCond .eq 7, 3) := by decide +kernel
theorem zd_Mo_stir_135 : decode zc_Mo_stir 135 = .ok (.iconst 1, 1) := by decide +kernel
theorem zd_Mo_stir_136 : decode zc_Mo_stir 136 = .ok (.goto 4, 3) := by decide +kernel
theorem zd_Mo_stir_139 : decode zc_Mo_stir 139 = .ok (.iconst 0, 1) := by decide +kernel
theorem zd_Mo_stir_140 : decode zc_Mo_stir 140 = .ok (.istore_n 2, 1) := by decide +kernel
theorem zd_Mo_stir_141 : decode zc_Mo_stir 141 = .ok (.aload_n 0, 1) := by decide +kernel
theorem zd_Mo_stir_142 : decode zc_Mo_stir 142 = .ok (.iload_n 1, 1) := by decide +kernel
theorem zd_Mo_stir_143 : decode zc_Mo_stir 143 = .ok (.invokevirtual 181, 3) := by decide +kernel
theorem zd_Mo_stir_146 : decode zc_Mo_stir 146 = .ok (.ifCond .ne 7, 3) := by decide +kernel
theorem zd_Mo_stir_149 : decode zc_Mo_stir 149 = .ok (.iload_n 2, 1) := by decide +kernel
theorem zd_Mo_stir_150 : decode zc_Mo_stir 150 = .ok (.ifCond .eq 7, 3) := by decide +kernel
theorem zd_Mo_stir_153 : decode zc_Mo_stir 153 = .ok (.iconst 1, 1) := by decide +kernel
theorem zd_Mo_stir_154 : decode zc_Mo_stir 154 = .ok (.goto 4, 3) := by decide +kernel
theorem zd_Mo_stir_157 : decode zc_Mo_stir 157 = .ok (.iconst 0, 1) := by decide +kernel
theorem zd_Mo_stir_158 : decode zc_Mo_stir 158 = .ok (.istore_n 2, 1) := by decide +kernel
theorem zd_Mo_stir_159 : decode zc_Mo_stir 159 = .ok (.aload_n 0, 1) := by decide +kernel
theorem zd_Mo_stir_160 : decode zc_Mo_stir 160 = .ok (.iload_n 1, 1) := by decide +kernel
theorem zd_Mo_stir_161 : decode zc_Mo_stir 161 = .ok (.invokevirtual 184, 3) := by decide +kernel
theorem zd_Mo_stir_164 : decode zc_Mo_stir 164 = .ok (.istore 4, 2) := by decide +kernel

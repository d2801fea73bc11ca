theorem zd_Trust_init_0 : decode zc_Trust_init 0 = .ok (.aload_n 0, 1) := by decide +kernel
theorem zd_Trust_init_1 : decode zc_Trust_init 1 = .ok (.invokespecial 3, 3) := by decide +kernel
theorem zd_Trust_init_4 : decode zc_Trust_init 4 = .ok (.aload_n 0, 1) := by decide +kernel
theorem zd_Trust_init_5 : decode zc_Trust_init 5 = .ok (.iconst 4, 1) := by decide +kernel
theorem zd_Trust_init_6 : decode zc_Trust_init 6 = .ok (.putfield 9, 3) := by decide +kernel
theorem zd_Trust_init_9 : decode zc_Trust_init 9 = .ok (.aload_n 0, 1) := by decide +kernel
theorem zd_Trust_init_10 : decode zc_Trust_init 10 = .ok (.bipush 31, 2) := by decide +kernel
theorem zd_Trust_init_12 : decode zc_Trust_init 12 = .ok (.putfield 15, 3) := by decide +kernel
theorem zd_Trust_init_15 : decode zc_Trust_init 15 = .ok (.return_, 1) := by decide +kernel
theorem zd_Quorums_init_0 : decode zc_Quorums_init 0 = .ok (.aload_n 0, 1) := by decide +kernel
theorem zd_Quorums_init_1 : decode zc_Quorums_init 1 = .ok (.invokespecial 3, 3) := by decide +kernel
theorem zd_Quorums_init_4 : decode zc_Quorums_init 4 = .ok (.aload_n 0, 1) := by decide +kernel
theorem zd_Quorums_init_5 : decode zc_Quorums_init 5 = .ok (.iconst 5, 1) := by decide +kernel
theorem zd_Quorums_init_6 : decode zc_Quorums_init 6 = .ok (.anewarray 9, 3) := by decide +kernel
theorem zd_Quorums_init_9 : decode zc_Quorums_init 9 = .ok (.putfield 11, 3) := by decide +kernel
theorem zd_Quorums_init_12 : decode zc_Quorums_init 12 = .ok (.iconst 0, 1) := by decide +kernel
theorem zd_Quorums_init_13 : decode zc_Quorums_init 13 = .ok (.istore_n 1, 1) := by decide +kernel
theorem zd_Quorums_init_14 : decode zc_Quorums_init 14 = .ok (.iload_n 1, 1) := by decide +kernel
theorem zd_Quorums_init_15 : decode zc_Quorums_init 15 = .ok (.iconst 5, 1) := by decide +kernel
theorem zd_Quorums_init_16 : decode zc_Quorums_init 16 = .ok (.if_icmp .ge 22, 3) := by decide +kernel
theorem zd_Quorums_init_19 : decode zc_Quorums_init 19 = .ok (.aload_n 0, 1) := by decide +kernel
theorem zd_Quorums_init_20 : decode zc_Quorums_init 20 = .ok (.getfield 11, 3) := by decide +kernel
theorem zd_Quorums_init_23 : decode zc_Quorums_init 23 = .ok (.iload_n 1, 1) := by decide +kernel
theorem zd_Quorums_init_24 : decode zc_Quorums_init 24 = .ok (.new 9, 3) := by decide +kernel
theorem zd_Quorums_init_27 : decode zc_Quorums_init 27 = .ok (.dup, 1) := by decide +kernel
theorem zd_Quorums_init_28 : decode zc_Quorums_init 28 = .ok (.invokespecial 17, 3) := by decide +kernel
theorem zd_Quorums_init_31 : decode zc_Quorums_init 31 = .ok (.aastore, 1) := by decide +kernel
theorem zd_Quorums_init_32 : decode zc_Quorums_init 32 = .ok (.iinc 1 1, 3) := by decide +kernel
theorem zd_Quorums_init_35 : decode zc_Quorums_init 35 = .ok (.goto (-21), 3) := by decide +kernel
theorem zd_Quorums_init_38 : decode zc_Quorums_init 38 = .ok (.return_, 1) := by decide +kernel
theorem zd_Statements_init_0 : decode zc_Statements_init 0 = .ok (.aload_n 0, 1) := by decide +kernel
theorem zd_Statements_init_1 : decode zc_Statements_init 1 = .ok (.invokespecial 3, 3) := by decide +kernel
theorem zd_Statements_init_4 : decode zc_Statements_init 4 = .ok (.aload_n 0, 1) := by decide +kernel
theorem zd_Statements_init_5 : decode zc_Statements_init 5 = .ok (.iload_n 1, 1) := by decide +kernel
theorem zd_Statements_init_6 : decode zc_Statements_init 6 = .ok (.putfield 9, 3) := by decide +kernel
theorem zd_Statements_init_9 : decode zc_Statements_init 9 = .ok (.aload_n 0, 1) := by decide +kernel
theorem zd_Statements_init_10 : decode zc_Statements_init 10 = .ok (.aload_n 2, 1) := by decide +kernel
theorem zd_Statements_init_11 : decode zc_Statements_init 11 = .ok (.putfield 15, 3) := by decide +kernel
theorem zd_Statements_init_14 : decode zc_Statements_init 14 = .ok (.aload_n 0, 1) := by decide +kernel
theorem zd_Statements_init_15 : decode zc_Statements_init 15 = .ok (.iconst 5, 1) := by decide +kernel
theorem zd_Statements_init_16 : decode zc_Statements_init 16 = .ok (.newarray .int, 2) := by decide +kernel
theorem zd_Statements_init_18 : decode zc_Statements_init 18 = .ok (.putfield 19, 3) := by decide +kernel
theorem zd_Statements_init_21 : decode zc_Statements_init 21 = .ok (.aload_n 0, 1) := by decide +kernel
theorem zd_Statements_init_22 : decode zc_Statements_init 22 = .ok (.iconst 5, 1) := by decide +kernel
theorem zd_Statements_init_23 : decode zc_Statements_init 23 = .ok (.newarray .int, 2) := by decide +kernel
theorem zd_Statements_init_25 : decode zc_Statements_init 25 = .ok (.putfield 23, 3) := by decide +kernel
theorem zd_Statements_init_28 : decode zc_Statements_init 28 = .ok (.return_, 1) := by decide +kernel
theorem zd_Agreement_init_0 : decode zc_Agreement_init 0 = .ok (.aload_n 0, 1) := by decide +kernel
theorem zd_Agreement_init_1 : decode zc_Agreement_init 1 = .ok (.invokespecial 3, 3) := by decide +kernel
theorem zd_Agreement_init_4 : decode zc_Agreement_init 4 = .ok (.aload_n 0, 1) := by decide +kernel
theorem zd_Agreement_init_5 : decode zc_Agreement_init 5 = .ok (.iload_n 1, 1) := by decide +kernel
theorem zd_Agreement_init_6 : decode zc_Agreement_init 6 = .ok (.putfield 9, 3) := by decide +kernel
theorem zd_Agreement_init_9 : decode zc_Agreement_init 9 = .ok (.aload_n 0, 1) := by decide +kernel
theorem zd_Agreement_init_10 : decode zc_Agreement_init 10 = .ok (.iload_n 2, 1) := by decide +kernel
theorem zd_Agreement_init_11 : decode zc_Agreement_init 11 = .ok (.putfield 15, 3) := by decide +kernel
theorem zd_Agreement_init_14 : decode zc_Agreement_init 14 = .ok (.aload_n 0, 1) := by decide +kernel
theorem zd_Agreement_init_15 : decode zc_Agreement_init 15 = .ok (.aload_n 3, 1) := by decide +kernel
theorem zd_Agreement_init_16 : decode zc_Agreement_init 16 = .ok (.getfield 18, 3) := by decide +kernel
theorem zd_Agreement_init_19 : decode zc_Agreement_init 19 = .ok (.iload_n 1, 1) := by decide +kernel
theorem zd_Agreement_init_20 : decode zc_Agreement_init 20 = .ok (.aaload, 1) := by decide +kernel
theorem zd_Agreement_init_21 : decode zc_Agreement_init 21 = .ok (.putfield 24, 3) := by decide +kernel
theorem zd_Agreement_init_24 : decode zc_Agreement_init 24 = .ok (.aload_n 0, 1) := by decide +kernel
theorem zd_Agreement_init_25 : decode zc_Agreement_init 25 = .ok (.new 28, 3) := by decide +kernel
theorem zd_Agreement_init_28 : decode zc_Agreement_init 28 = .ok (.dup, 1) := by decide +kernel
theorem zd_Agreement_init_29 : decode zc_Agreement_init 29 = .ok (.iload_n 1, 1) := by decide +kernel
theorem zd_Agreement_init_30 : decode zc_Agreement_init 30 = .ok (.aload_n 3, 1) := by decide +kernel
theorem zd_Agreement_init_31 : decode zc_Agreement_init 31 = .ok (.invokespecial 30, 3) := by decide +kernel
theorem zd_Agreement_init_34 : decode zc_Agreement_init 34 = .ok (.putfield 33, 3) := by decide +kernel
theorem zd_Agreement_init_37 : decode zc_Agreement_init 37 = .ok (.aload_n 0, 1) := by decide +kernel
theorem zd_Agreement_init_38 : decode zc_Agreement_init 38 = .ok (.new 28, 3) := by decide +kernel
theorem zd_Agreement_init_41 : decode zc_Agreement_init 41 = .ok (.dup, 1) := by decide +kernel
theorem zd_Agreement_init_42 : decode zc_Agreement_init 42 = .ok (.iload_n 1, 1) := by decide +kernel
theorem zd_Agreement_init_43 : decode zc_Agreement_init 43 = .ok (.aload_n 3, 1) := by decide +kernel
theorem zd_Agreement_init_44 : decode zc_Agreement_init 44 = .ok (.invokespecial 30, 3) := by decide +kernel
theorem zd_Agreement_init_47 : decode zc_Agreement_init 47 = .ok (.putfield 37, 3) := by decide +kernel
theorem zd_Agreement_init_50 : decode zc_Agreement_init 50 = .ok (.aload_n 0, 1) := by decide +kernel
theorem zd_Agreement_init_51 : decode zc_Agreement_init 51 = .ok (.new 28, 3) := by decide +kernel
theorem zd_Agreement_init_54 : decode zc_Agreement_init 54 = .ok (.dup, 1) := by decide +kernel
theorem zd_Agreement_init_55 : decode zc_Agreement_init 55 = .ok (.iload_n 1, 1) := by decide +kernel
theorem zd_Agreement_init_56 : decode zc_Agreement_init 56 = .ok (.aload_n 3, 1) := by decide +kernel
theorem zd_Agreement_init_57 : decode zc_Agreement_init 57 = .ok (.invokespecial 30, 3) := by decide +kernel
theorem zd_Agreement_init_60 : decode zc_Agreement_init 60 = .ok (.putfield 40, 3) := by decide +kernel
theorem zd_Agreement_init_63 : decode zc_Agreement_init 63 = .ok (.return_, 1) := by decide +kernel
theorem zd_Ledger_init_0 : decode zc_Ledger_init 0 = .ok (.aload_n 0, 1) := by decide +kernel
theorem zd_Ledger_init_1 : decode zc_Ledger_init 1 = .ok (.invokespecial 3, 3) := by decide +kernel
theorem zd_Ledger_init_4 : decode zc_Ledger_init 4 = .ok (.aload_n 0, 1) := by decide +kernel
theorem zd_Ledger_init_5 : decode zc_Ledger_init 5 = .ok (.iconst 4, 1) := by decide +kernel
theorem zd_Ledger_init_6 : decode zc_Ledger_init 6 = .ok (.newarray .int, 2) := by decide +kernel
theorem zd_Ledger_init_8 : decode zc_Ledger_init 8 = .ok (.putfield 9, 3) := by decide +kernel
theorem zd_Ledger_init_11 : decode zc_Ledger_init 11 = .ok (.aload_n 0, 1) := by decide +kernel
theorem zd_Ledger_init_12 : decode zc_Ledger_init 12 = .ok (.iconst 4, 1) := by decide +kernel
theorem zd_Ledger_init_13 : decode zc_Ledger_init 13 = .ok (.newarray .int, 2) := by decide +kernel
theorem zd_Ledger_init_15 : decode zc_Ledger_init 15 = .ok (.putfield 15, 3) := by decide +kernel
theorem zd_Ledger_init_18 : decode zc_Ledger_init 18 = .ok (.iconst 0, 1) := by decide +kernel
theorem zd_Ledger_init_19 : decode zc_Ledger_init 19 = .ok (.istore_n 1, 1) := by decide +kernel
theorem zd_Ledger_init_20 : decode zc_Ledger_init 20 = .ok (.iload_n 1, 1) := by decide +kernel
theorem zd_Ledger_init_21 : decode zc_Ledger_init 21 = .ok (.iconst 4, 1) := by decide +kernel
theorem zd_Ledger_init_22 : decode zc_Ledger_init 22 = .ok (.if_icmp .ge 25, 3) := by decide +kernel
theorem zd_Ledger_init_25 : decode zc_Ledger_init 25 = .ok (.aload_n 0, 1) := by decide +kernel
theorem zd_Ledger_init_26 : decode zc_Ledger_init 26 = .ok (.getfield 9, 3) := by decide +kernel
theorem zd_Ledger_init_29 : decode zc_Ledger_init 29 = .ok (.iload_n 1, 1) := by decide +kernel
theorem zd_Ledger_init_30 : decode zc_Ledger_init 30 = .ok (.bipush 100, 2) := by decide +kernel
theorem zd_Ledger_init_32 : decode zc_Ledger_init 32 = .ok (.iastore, 1) := by decide +kernel
theorem zd_Ledger_init_33 : decode zc_Ledger_init 33 = .ok (.aload_n 0, 1) := by decide +kernel
theorem zd_Ledger_init_34 : decode zc_Ledger_init 34 = .ok (.getfield 15, 3) := by decide +kernel
theorem zd_Ledger_init_37 : decode zc_Ledger_init 37 = .ok (.iload_n 1, 1) := by decide +kernel
theorem zd_Ledger_init_38 : decode zc_Ledger_init 38 = .ok (.bipush 20, 2) := by decide +kernel
theorem zd_Ledger_init_40 : decode zc_Ledger_init 40 = .ok (.iastore, 1) := by decide +kernel
theorem zd_Ledger_init_41 : decode zc_Ledger_init 41 = .ok (.iinc 1 1, 3) := by decide +kernel
theorem zd_Ledger_init_44 : decode zc_Ledger_init 44 = .ok (.goto (-24), 3) := by decide +kernel
theorem zd_Ledger_init_47 : decode zc_Ledger_init 47 = .ok (.aload_n 0, 1) := by decide +kernel
theorem zd_Ledger_init_48 : decode zc_Ledger_init 48 = .ok (.bipush 8, 2) := by decide +kernel
theorem zd_Ledger_init_50 : decode zc_Ledger_init 50 = .ok (.anewarray 18, 3) := by decide +kernel
theorem zd_Ledger_init_53 : decode zc_Ledger_init 53 = .ok (.putfield 20, 3) := by decide +kernel
theorem zd_Ledger_init_56 : decode zc_Ledger_init 56 = .ok (.return_, 1) := by decide +kernel
theorem zd_Node_init_0 : decode zc_Node_init 0 = .ok (.aload_n 0, 1) := by decide +kernel
theorem zd_Node_init_1 : decode zc_Node_init 1 = .ok (.invokespecial 3, 3) := by decide +kernel
theorem zd_Node_init_4 : decode zc_Node_init 4 = .ok (.aload_n 0, 1) := by decide +kernel
theorem zd_Node_init_5 : decode zc_Node_init 5 = .ok (.iconst 3, 1) := by decide +kernel
theorem zd_Node_init_6 : decode zc_Node_init 6 = .ok (.anewarray 9, 3) := by decide +kernel
theorem zd_Node_init_9 : decode zc_Node_init 9 = .ok (.putfield 11, 3) := by decide +kernel
theorem zd_Node_init_12 : decode zc_Node_init 12 = .ok (.iconst 0, 1) := by decide +kernel
theorem zd_Node_init_13 : decode zc_Node_init 13 = .ok (.istore_n 3, 1) := by decide +kernel
theorem zd_Node_init_14 : decode zc_Node_init 14 = .ok (.iload_n 3, 1) := by decide +kernel
theorem zd_Node_init_15 : decode zc_Node_init 15 = .ok (.iconst 3, 1) := by decide +kernel
theorem zd_Node_init_16 : decode zc_Node_init 16 = .ok (.if_icmp .ge 25, 3) := by decide +kernel
theorem zd_Node_init_19 : decode zc_Node_init 19 = .ok (.aload_n 0, 1) := by decide +kernel
theorem zd_Node_init_20 : decode zc_Node_init 20 = .ok (.getfield 11, 3) := by decide +kernel
theorem zd_Node_init_23 : decode zc_Node_init 23 = .ok (.iload_n 3, 1) := by decide +kernel
theorem zd_Node_init_24 : decode zc_Node_init 24 = .ok (.new 9, 3) := by decide +kernel
theorem zd_Node_init_27 : decode zc_Node_init 27 = .ok (.dup, 1) := by decide +kernel
theorem zd_Node_init_28 : decode zc_Node_init 28 = .ok (.iload_n 1, 1) := by decide +kernel
theorem zd_Node_init_29 : decode zc_Node_init 29 = .ok (.iload_n 3, 1) := by decide +kernel
theorem zd_Node_init_30 : decode zc_Node_init 30 = .ok (.aload_n 2, 1) := by decide +kernel
theorem zd_Node_init_31 : decode zc_Node_init 31 = .ok (.invokespecial 17, 3) := by decide +kernel
theorem zd_Node_init_34 : decode zc_Node_init 34 = .ok (.aastore, 1) := by decide +kernel
theorem zd_Node_init_35 : decode zc_Node_init 35 = .ok (.iinc 3 1, 3) := by decide +kernel
theorem zd_Node_init_38 : decode zc_Node_init 38 = .ok (.goto (-24), 3) := by decide +kernel
theorem zd_Node_init_41 : decode zc_Node_init 41 = .ok (.aload_n 0, 1) := by decide +kernel
theorem zd_Node_init_42 : decode zc_Node_init 42 = .ok (.new 20, 3) := by decide +kernel
theorem zd_Node_init_45 : decode zc_Node_init 45 = .ok (.dup, 1) := by decide +kernel
theorem zd_Node_init_46 : decode zc_Node_init 46 = .ok (.invokespecial 22, 3) := by decide +kernel
theorem zd_Node_init_49 : decode zc_Node_init 49 = .ok (.putfield 23, 3) := by decide +kernel
theorem zd_Node_init_52 : decode zc_Node_init 52 = .ok (.return_, 1) := by decide +kernel
theorem zd_TL_init_0 : decode zc_TL_init 0 = .ok (.aload_n 0, 1) := by decide +kernel
theorem zd_TL_init_1 : decode zc_TL_init 1 = .ok (.invokespecial 3, 3) := by decide +kernel
theorem zd_TL_init_4 : decode zc_TL_init 4 = .ok (.aload_n 0, 1) := by decide +kernel
theorem zd_TL_init_5 : decode zc_TL_init 5 = .ok (.iload_n 1, 1) := by decide +kernel
theorem zd_TL_init_6 : decode zc_TL_init 6 = .ok (.bipush 31, 2) := by decide +kernel
theorem zd_TL_init_8 : decode zc_TL_init 8 = .ok (.iand, 1) := by decide +kernel
theorem zd_TL_init_9 : decode zc_TL_init 9 = .ok (.putfield 9, 3) := by decide +kernel
theorem zd_TL_init_12 : decode zc_TL_init 12 = .ok (.new 13, 3) := by decide +kernel
theorem zd_TL_init_15 : decode zc_TL_init 15 = .ok (.dup, 1) := by decide +kernel
theorem zd_TL_init_16 : decode zc_TL_init 16 = .ok (.invokespecial 15, 3) := by decide +kernel
theorem zd_TL_init_19 : decode zc_TL_init 19 = .ok (.astore_n 2, 1) := by decide +kernel
theorem zd_TL_init_20 : decode zc_TL_init 20 = .ok (.aload_n 0, 1) := by decide +kernel
theorem zd_TL_init_21 : decode zc_TL_init 21 = .ok (.aload_n 2, 1) := by decide +kernel
theorem zd_TL_init_22 : decode zc_TL_init 22 = .ok (.putfield 16, 3) := by decide +kernel
theorem zd_TL_init_25 : decode zc_TL_init 25 = .ok (.aload_n 0, 1) := by decide +kernel
theorem zd_TL_init_26 : decode zc_TL_init 26 = .ok (.iconst 5, 1) := by decide +kernel
theorem zd_TL_init_27 : decode zc_TL_init 27 = .ok (.anewarray 20, 3) := by decide +kernel
theorem zd_TL_init_30 : decode zc_TL_init 30 = .ok (.putfield 22, 3) := by decide +kernel
theorem zd_TL_init_33 : decode zc_TL_init 33 = .ok (.iconst 0, 1) := by decide +kernel
theorem zd_TL_init_34 : decode zc_TL_init 34 = .ok (.istore_n 3, 1) := by decide +kernel
theorem zd_TL_init_35 : decode zc_TL_init 35 = .ok (.iload_n 3, 1) := by decide +kernel
theorem zd_TL_init_36 : decode zc_TL_init 36 = .ok (.iconst 5, 1) := by decide +kernel
theorem zd_TL_init_37 : decode zc_TL_init 37 = .ok (.if_icmp .ge 24, 3) := by decide +kernel
theorem zd_TL_init_40 : decode zc_TL_init 40 = .ok (.aload_n 0, 1) := by decide +kernel
theorem zd_TL_init_41 : decode zc_TL_init 41 = .ok (.getfield 22, 3) := by decide +kernel
theorem zd_TL_init_44 : decode zc_TL_init 44 = .ok (.iload_n 3, 1) := by decide +kernel
theorem zd_TL_init_45 : decode zc_TL_init 45 = .ok (.new 20, 3) := by decide +kernel
theorem zd_TL_init_48 : decode zc_TL_init 48 = .ok (.dup, 1) := by decide +kernel
theorem zd_TL_init_49 : decode zc_TL_init 49 = .ok (.iload_n 3, 1) := by decide +kernel
theorem zd_TL_init_50 : decode zc_TL_init 50 = .ok (.aload_n 2, 1) := by decide +kernel
theorem zd_TL_init_51 : decode zc_TL_init 51 = .ok (.invokespecial 26, 3) := by decide +kernel
theorem zd_TL_init_54 : decode zc_TL_init 54 = .ok (.aastore, 1) := by decide +kernel
theorem zd_TL_init_55 : decode zc_TL_init 55 = .ok (.iinc 3 1, 3) := by decide +kernel
theorem zd_TL_init_58 : decode zc_TL_init 58 = .ok (.goto (-23), 3) := by decide +kernel
theorem zd_TL_init_61 : decode zc_TL_init 61 = .ok (.aload_n 0, 1) := by decide +kernel
theorem zd_TL_init_62 : decode zc_TL_init 62 = .ok (.bipush 9, 2) := by decide +kernel
theorem zd_TL_init_64 : decode zc_TL_init 64 = .ok (.anewarray 29, 3) := by decide +kernel
theorem zd_TL_init_67 : decode zc_TL_init 67 = .ok (.putfield 31, 3) := by decide +kernel
theorem zd_TL_init_70 : decode zc_TL_init 70 = .ok (.aload_n 0, 1) := by decide +kernel
theorem zd_TL_init_71 : decode zc_TL_init 71 = .ok (.bipush 120, 2) := by decide +kernel
theorem zd_TL_init_73 : decode zc_TL_init 73 = .ok (.anewarray 35, 3) := by decide +kernel
theorem zd_TL_init_76 : decode zc_TL_init 76 = .ok (.putfield 37, 3) := by decide +kernel
theorem zd_TL_init_79 : decode zc_TL_init 79 = .ok (.return_, 1) := by decide +kernel
theorem zd_TL_isWithin_0 : decode zc_TL_isWithin 0 = .ok (.iload_n 0, 1) := by decide +kernel
theorem zd_TL_isWithin_1 : decode zc_TL_isWithin 1 = .ok (.iload_n 1, 1) := by decide +kernel
theorem zd_TL_isWithin_2 : decode zc_TL_isWithin 2 = .ok (.if_icmp .lt 12, 3) := by decide +kernel
theorem zd_TL_isWithin_5 : decode zc_TL_isWithin 5 = .ok (.iload_n 0, 1) := by decide +kernel
theorem zd_TL_isWithin_6 : decode zc_TL_isWithin 6 = .ok (.iload_n 2, 1) := by decide +kernel
theorem zd_TL_isWithin_7 : decode zc_TL_isWithin 7 = .ok (.if_icmp .gt 7, 3) := by decide +kernel
theorem zd_TL_isWithin_10 : decode zc_TL_isWithin 10 = .ok (.iconst 1, 1) := by decide +kernel
theorem zd_TL_isWithin_11 : decode zc_TL_isWithin 11 = .ok (.goto 4, 3) := by decide +kernel
theorem zd_TL_isWithin_14 : decode zc_TL_isWithin 14 = .ok (.iconst 0, 1) := by decide +kernel
theorem zd_TL_isWithin_15 : decode zc_TL_isWithin 15 = .ok (.ireturn, 1) := by decide +kernel
theorem zd_Trust_become_0 : decode zc_Trust_become 0 = .ok (.aload_n 0, 1) := by decide +kernel
theorem zd_Trust_become_1 : decode zc_Trust_become 1 = .ok (.iload_n 1, 1) := by decide +kernel
theorem zd_Trust_become_2 : decode zc_Trust_become 2 = .ok (.putfield 9, 3) := by decide +kernel
theorem zd_Trust_become_5 : decode zc_Trust_become 5 = .ok (.aload_n 0, 1) := by decide +kernel
theorem zd_Trust_become_6 : decode zc_Trust_become 6 = .ok (.iload_n 2, 1) := by decide +kernel
theorem zd_Trust_become_7 : decode zc_Trust_become 7 = .ok (.putfield 15, 3) := by decide +kernel
theorem zd_Trust_become_10 : decode zc_Trust_become 10 = .ok (.aload_n 0, 1) := by decide +kernel
theorem zd_Trust_become_11 : decode zc_Trust_become 11 = .ok (.iload_n 3, 1) := by decide +kernel
theorem zd_Trust_become_12 : decode zc_Trust_become 12 = .ok (.putfield 18, 3) := by decide +kernel
theorem zd_Trust_become_15 : decode zc_Trust_become 15 = .ok (.aload_n 0, 1) := by decide +kernel
theorem zd_Trust_become_16 : decode zc_Trust_become 16 = .ok (.iload_n 3, 1) := by decide +kernel
theorem zd_Trust_become_17 : decode zc_Trust_become 17 = .ok (.ifCond .le 8, 3) := by decide +kernel
theorem zd_Trust_become_20 : decode zc_Trust_become 20 = .ok (.iload 4, 2) := by decide +kernel
theorem zd_Trust_become_22 : decode zc_Trust_become 22 = .ok (.goto 4, 3) := by decide +kernel
theorem zd_Trust_become_25 : decode zc_Trust_become 25 = .ok (.iconst 0, 1) := by decide +kernel
theorem zd_Trust_become_26 : decode zc_Trust_become 26 = .ok (.putfield 21, 3) := by decide +kernel
theorem zd_Trust_become_29 : decode zc_Trust_become 29 = .ok (.return_, 1) := by decide +kernel
theorem zd_TL_trust_0 : decode zc_TL_trust 0 = .ok (.iload_n 1, 1) := by decide +kernel
theorem zd_TL_trust_1 : decode zc_TL_trust 1 = .ok (.iconst 0, 1) := by decide +kernel
theorem zd_TL_trust_2 : decode zc_TL_trust 2 = .ok (.iconst 4, 1) := by decide +kernel
theorem zd_TL_trust_3 : decode zc_TL_trust 3 = .ok (.invokestatic 41, 3) := by decide +kernel
theorem zd_TL_trust_6 : decode zc_TL_trust 6 = .ok (.ifCond .eq 48, 3) := by decide +kernel
theorem zd_TL_trust_9 : decode zc_TL_trust 9 = .ok (.iload_n 2, 1) := by decide +kernel
theorem zd_TL_trust_10 : decode zc_TL_trust 10 = .ok (.iconst 1, 1) := by decide +kernel
theorem zd_TL_trust_11 : decode zc_TL_trust 11 = .ok (.bipush 6, 2) := by decide +kernel
theorem zd_TL_trust_13 : decode zc_TL_trust 13 = .ok (.invokestatic 41, 3) := by decide +kernel
theorem zd_TL_trust_16 : decode zc_TL_trust 16 = .ok (.ifCond .eq 38, 3) := by decide +kernel
theorem zd_TL_trust_19 : decode zc_TL_trust 19 = .ok (.iload_n 3, 1) := by decide +kernel
theorem zd_TL_trust_20 : decode zc_TL_trust 20 = .ok (.iconst 0, 1) := by decide +kernel
theorem zd_TL_trust_21 : decode zc_TL_trust 21 = .ok (.bipush 31, 2) := by decide +kernel
theorem zd_TL_trust_23 : decode zc_TL_trust 23 = .ok (.invokestatic 41, 3) := by decide +kernel
theorem zd_TL_trust_26 : decode zc_TL_trust 26 = .ok (.ifCond .eq 28, 3) := by decide +kernel
theorem zd_TL_trust_29 : decode zc_TL_trust 29 = .ok (.iload 4, 2) := by decide +kernel
theorem zd_TL_trust_31 : decode zc_TL_trust 31 = .ok (.iconst 0, 1) := by decide +kernel
theorem zd_TL_trust_32 : decode zc_TL_trust 32 = .ok (.iconst 5, 1) := by decide +kernel
theorem zd_TL_trust_33 : decode zc_TL_trust 33 = .ok (.invokestatic 41, 3) := by decide +kernel
theorem zd_TL_trust_36 : decode zc_TL_trust 36 = .ok (.ifCond .eq 18, 3) := by decide +kernel
theorem zd_TL_trust_39 : decode zc_TL_trust 39 = .ok (.iload 5, 2) := by decide +kernel
theorem zd_TL_trust_41 : decode zc_TL_trust 41 = .ok (.iconst 0, 1) := by decide +kernel
theorem zd_TL_trust_42 : decode zc_TL_trust 42 = .ok (.bipush 31, 2) := by decide +kernel
theorem zd_TL_trust_44 : decode zc_TL_trust 44 = .ok (.invokestatic 41, 3) := by decide +kernel
theorem zd_TL_trust_47 : decode zc_TL_trust 47 = .ok (.ifCond .eq 7, 3) := by decide +kernel
theorem zd_TL_trust_50 : decode zc_TL_trust 50 = .ok (.iconst 1, 1) := by decide +kernel
theorem zd_TL_trust_51 : decode zc_TL_trust 51 = .ok (.goto 4, 3) := by decide +kernel
theorem zd_TL_trust_54 : decode zc_TL_trust 54 = .ok (.iconst 0, 1) := by decide +kernel
theorem zd_TL_trust_55 : decode zc_TL_trust 55 = .ok (.istore 6, 2) := by decide +kernel
theorem zd_TL_trust_57 : decode zc_TL_trust 57 = .ok (.iload 6, 2) := by decide +kernel
theorem zd_TL_trust_59 : decode zc_TL_trust 59 = .ok (.ifCond .eq 10, 3) := by decide +kernel
theorem zd_TL_trust_62 : decode zc_TL_trust 62 = .ok (.aload_n 0, 1) := by decide +kernel
theorem zd_TL_trust_63 : decode zc_TL_trust 63 = .ok (.getfield 45, 3) := by decide +kernel
theorem zd_TL_trust_66 : decode zc_TL_trust 66 = .ok (.ifCond .eq 5, 3) := by decide +kernel
theorem zd_TL_trust_69 : decode zc_TL_trust 69 = .ok (.iconst 0, 1) := by decide +kernel
theorem zd_TL_trust_70 : decode zc_TL_trust 70 = .ok (.ireturn, 1) := by decide +kernel
theorem zd_TL_trust_71 : decode zc_TL_trust 71 = .ok (.aload_n 0, 1) := by decide +kernel
theorem zd_TL_trust_72 : decode zc_TL_trust 72 = .ok (.getfield 16, 3) := by decide +kernel
theorem zd_TL_trust_75 : decode zc_TL_trust 75 = .ok (.getfield 49, 3) := by decide +kernel
theorem zd_TL_trust_78 : decode zc_TL_trust 78 = .ok (.iload_n 1, 1) := by decide +kernel
theorem zd_TL_trust_79 : decode zc_TL_trust 79 = .ok (.aaload, 1) := by decide +kernel
theorem zd_TL_trust_80 : decode zc_TL_trust 80 = .ok (.iload_n 2, 1) := by decide +kernel
theorem zd_TL_trust_81 : decode zc_TL_trust 81 = .ok (.iload_n 3, 1) := by decide +kernel
theorem zd_TL_trust_82 : decode zc_TL_trust 82 = .ok (.iload 4, 2) := by decide +kernel
theorem zd_TL_trust_84 : decode zc_TL_trust 84 = .ok (.iload 5, 2) := by decide +kernel
theorem zd_TL_trust_86 : decode zc_TL_trust 86 = .ok (.invokevirtual 53, 3) := by decide +kernel
theorem zd_TL_trust_89 : decode zc_TL_trust 89 = .ok (.iconst 1, 1) := by decide +kernel
theorem zd_TL_trust_90 : decode zc_TL_trust 90 = .ok (.ireturn, 1) := by decide +kernel
theorem zd_TL_isSlot_0 : decode zc_TL_isSlot 0 = .ok (.iload_n 0, 1) := by decide +kernel
theorem zd_TL_isSlot_1 : decode zc_TL_isSlot 1 = .ok (.iconst 0, 1) := by decide +kernel
theorem zd_TL_isSlot_2 : decode zc_TL_isSlot 2 = .ok (.iconst 2, 1) := by decide +kernel
theorem zd_TL_isSlot_3 : decode zc_TL_isSlot 3 = .ok (.invokestatic 41, 3) := by decide +kernel
theorem zd_TL_isSlot_6 : decode zc_TL_isSlot 6 = .ok (.ireturn, 1) := by decide +kernel
theorem zd_TL_isAccount_0 : decode zc_TL_isAccount 0 = .ok (.iload_n 0, 1) := by decide +kernel
theorem zd_TL_isAccount_1 : decode zc_TL_isAccount 1 = .ok (.iconst 0, 1) := by decide +kernel
theorem zd_TL_isAccount_2 : decode zc_TL_isAccount 2 = .ok (.iconst 3, 1) := by decide +kernel
theorem zd_TL_isAccount_3 : decode zc_TL_isAccount 3 = .ok (.invokestatic 41, 3) := by decide +kernel
theorem zd_TL_isAccount_6 : decode zc_TL_isAccount 6 = .ok (.ireturn, 1) := by decide +kernel
theorem zd_TL_isLeft_0 : decode zc_TL_isLeft 0 = .ok (.iconst 0, 1) := by decide +kernel
theorem zd_TL_isLeft_1 : decode zc_TL_isLeft 1 = .ok (.istore_n 2, 1) := by decide +kernel
theorem zd_TL_isLeft_2 : decode zc_TL_isLeft 2 = .ok (.iload_n 2, 1) := by decide +kernel
theorem zd_TL_isLeft_3 : decode zc_TL_isLeft 3 = .ok (.iconst 5, 1) := by decide +kernel
theorem zd_TL_isLeft_4 : decode zc_TL_isLeft 4 = .ok (.if_icmp .ge 24, 3) := by decide +kernel
theorem zd_TL_isLeft_7 : decode zc_TL_isLeft 7 = .ok (.aload_n 0, 1) := by decide +kernel
theorem zd_TL_isLeft_8 : decode zc_TL_isLeft 8 = .ok (.getfield 22, 3) := by decide +kernel
theorem zd_TL_isLeft_11 : decode zc_TL_isLeft 11 = .ok (.iload_n 2, 1) := by decide +kernel
theorem zd_TL_isLeft_12 : decode zc_TL_isLeft 12 = .ok (.aaload, 1) := by decide +kernel
theorem zd_TL_isLeft_13 : decode zc_TL_isLeft 13 = .ok (.getfield 79, 3) := by decide +kernel
theorem zd_TL_isLeft_16 : decode zc_TL_isLeft 16 = .ok (.iload_n 1, 1) := by decide +kernel
theorem zd_TL_isLeft_17 : decode zc_TL_isLeft 17 = .ok (.if_icmp .le 5, 3) := by decide +kernel
theorem zd_TL_isLeft_20 : decode zc_TL_isLeft 20 = .ok (.iconst 1, 1) := by decide +kernel
theorem zd_TL_isLeft_21 : decode zc_TL_isLeft 21 = .ok (.ireturn, 1) := by decide +kernel
theorem zd_TL_isLeft_22 : decode zc_TL_isLeft 22 = .ok (.iinc 2 1, 3) := by decide +kernel
theorem zd_TL_isLeft_25 : decode zc_TL_isLeft 25 = .ok (.goto (-23), 3) := by decide +kernel
theorem zd_TL_isLeft_28 : decode zc_TL_isLeft 28 = .ok (.iconst 0, 1) := by decide +kernel
theorem zd_TL_isLeft_29 : decode zc_TL_isLeft 29 = .ok (.ireturn, 1) := by decide +kernel
theorem zd_Transaction_init_0 : decode zc_Transaction_init 0 = .ok (.aload_n 0, 1) := by decide +kernel
theorem zd_Transaction_init_1 : decode zc_Transaction_init 1 = .ok (.invokespecial 1, 3) := by decide +kernel
theorem zd_Transaction_init_4 : decode zc_Transaction_init 4 = .ok (.aload_n 0, 1) := by decide +kernel
theorem zd_Transaction_init_5 : decode zc_Transaction_init 5 = .ok (.iload_n 1, 1) := by decide +kernel
theorem zd_Transaction_init_6 : decode zc_Transaction_init 6 = .ok (.putfield 7, 3) := by decide +kernel
theorem zd_Transaction_init_9 : decode zc_Transaction_init 9 = .ok (.aload_n 0, 1) := by decide +kernel
theorem zd_Transaction_init_10 : decode zc_Transaction_init 10 = .ok (.iload_n 2, 1) := by decide +kernel
theorem zd_Transaction_init_11 : decode zc_Transaction_init 11 = .ok (.putfield 13, 3) := by decide +kernel
theorem zd_Transaction_init_14 : decode zc_Transaction_init 14 = .ok (.aload_n 0, 1) := by decide +kernel
theorem zd_Transaction_init_15 : decode zc_Transaction_init 15 = .ok (.iload_n 3, 1) := by decide +kernel
theorem zd_Transaction_init_16 : decode zc_Transaction_init 16 = .ok (.putfield 16, 3) := by decide +kernel
theorem zd_Transaction_init_19 : decode zc_Transaction_init 19 = .ok (.aload_n 0, 1) := by decide +kernel
theorem zd_Transaction_init_20 : decode zc_Transaction_init 20 = .ok (.iload 4, 2) := by decide +kernel
theorem zd_Transaction_init_22 : decode zc_Transaction_init 22 = .ok (.putfield 19, 3) := by decide +kernel
theorem zd_Transaction_init_25 : decode zc_Transaction_init 25 = .ok (.aload_n 0, 1) := by decide +kernel
theorem zd_Transaction_init_26 : decode zc_Transaction_init 26 = .ok (.iload 5, 2) := by decide +kernel
theorem zd_Transaction_init_28 : decode zc_Transaction_init 28 = .ok (.putfield 22, 3) := by decide +kernel
theorem zd_Transaction_init_31 : decode zc_Transaction_init 31 = .ok (.return_, 1) := by decide +kernel
theorem zd_TL_submit_0 : decode zc_TL_submit 0 = .ok (.iload_n 1, 1) := by decide +kernel
theorem zd_TL_submit_1 : decode zc_TL_submit 1 = .ok (.invokestatic 59, 3) := by decide +kernel
theorem zd_TL_submit_4 : decode zc_TL_submit 4 = .ok (.ifCond .eq 81, 3) := by decide +kernel
theorem zd_TL_submit_7 : decode zc_TL_submit 7 = .ok (.iload_n 2, 1) := by decide +kernel
theorem zd_TL_submit_8 : decode zc_TL_submit 8 = .ok (.iconst 0, 1) := by decide +kernel
theorem zd_TL_submit_9 : decode zc_TL_submit 9 = .ok (.iconst 2, 1) := by decide +kernel
theorem zd_TL_submit_10 : decode zc_TL_submit 10 = .ok (.invokestatic 41, 3) := by decide +kernel
theorem zd_TL_submit_13 : decode zc_TL_submit 13 = .ok (.ifCond .eq 72, 3) := by decide +kernel
theorem zd_TL_submit_16 : decode zc_TL_submit 16 = .ok (.iload_n 3, 1) := by decide +kernel
theorem zd_TL_submit_17 : decode zc_TL_submit 17 = .ok (.iconst 0, 1) := by decide +kernel
theorem zd_TL_submit_18 : decode zc_TL_submit 18 = .ok (.iconst 1, 1) := by decide +kernel
theorem zd_TL_submit_19 : decode zc_TL_submit 19 = .ok (.invokestatic 41, 3) := by decide +kernel
theorem zd_TL_submit_22 : decode zc_TL_submit 22 = .ok (.ifCond .eq 63, 3) := by decide +kernel
theorem zd_TL_submit_25 : decode zc_TL_submit 25 = .ok (.iload 4, 2) := by decide +kernel
theorem zd_TL_submit_27 : decode zc_TL_submit 27 = .ok (.invokestatic 63, 3) := by decide +kernel
theorem zd_TL_submit_30 : decode zc_TL_submit 30 = .ok (.ifCond .eq 55, 3) := by decide +kernel
theorem zd_TL_submit_33 : decode zc_TL_submit 33 = .ok (.iload 5, 2) := by decide +kernel
theorem zd_TL_submit_35 : decode zc_TL_submit 35 = .ok (.iconst 0, 1) := by decide +kernel
theorem zd_TL_submit_36 : decode zc_TL_submit 36 = .ok (.iconst 1, 1) := by decide +kernel
theorem zd_TL_submit_37 : decode zc_TL_submit 37 = .ok (.invokestatic 41, 3) := by decide +kernel
theorem zd_TL_submit_40 : decode zc_TL_submit 40 = .ok (.ifCond .eq 45, 3) := by decide +kernel
theorem zd_TL_submit_43 : decode zc_TL_submit 43 = .ok (.iload_n 3, 1) := by decide +kernel
theorem zd_TL_submit_44 : decode zc_TL_submit 44 = .ok (.ifCond .ne 14, 3) := by decide +kernel
theorem zd_TL_submit_47 : decode zc_TL_submit 47 = .ok (.iload 6, 2) := by decide +kernel
theorem zd_TL_submit_49 : decode zc_TL_submit 49 = .ok (.invokestatic 63, 3) := by decide +kernel
theorem zd_TL_submit_52 : decode zc_TL_submit 52 = .ok (.ifCond .eq 33, 3) := by decide +kernel
theorem zd_TL_submit_55 : decode zc_TL_submit 55 = .ok (.goto 14, 3) := by decide +kernel
theorem zd_TL_submit_58 : decode zc_TL_submit 58 = .ok (.iload 6, 2) := by decide +kernel
theorem zd_TL_submit_60 : decode zc_TL_submit 60 = .ok (.iconst 1, 1) := by decide +kernel
theorem zd_TL_submit_61 : decode zc_TL_submit 61 = .ok (.bipush 9, 2) := by decide +kernel
theorem zd_TL_submit_63 : decode zc_TL_submit 63 = .ok (.invokestatic 41, 3) := by decide +kernel
theorem zd_TL_submit_66 : decode zc_TL_submit 66 = .ok (.ifCond .eq 19, 3) := by decide +kernel
theorem zd_TL_submit_69 : decode zc_TL_submit 69 = .ok (.iload 7, 2) := by decide +kernel
theorem zd_TL_submit_71 : decode zc_TL_submit 71 = .ok (.iconst 1, 1) := by decide +kernel
theorem zd_TL_submit_72 : decode zc_TL_submit 72 = .ok (.sipush 1000, 3) := by decide +kernel
theorem zd_TL_submit_75 : decode zc_TL_submit 75 = .ok (.invokestatic 41, 3) := by decide +kernel
theorem zd_TL_submit_78 : decode zc_TL_submit 78 = .ok (.ifCond .eq 7, 3) := by decide +kernel
theorem zd_TL_submit_81 : decode zc_TL_submit 81 = .ok (.iconst 1, 1) := by decide +kernel
theorem zd_TL_submit_82 : decode zc_TL_submit 82 = .ok (.goto 4, 3) := by decide +kernel
theorem zd_TL_submit_85 : decode zc_TL_submit 85 = .ok (.iconst 0, 1) := by decide +kernel
theorem zd_TL_submit_86 : decode zc_TL_submit 86 = .ok (.istore 8, 2) := by decide +kernel
theorem zd_TL_submit_88 : decode zc_TL_submit 88 = .ok (.iload 8, 2) := by decide +kernel
theorem zd_TL_submit_90 : decode zc_TL_submit 90 = .ok (.ifCond .eq 11, 3) := by decide +kernel
theorem zd_TL_submit_93 : decode zc_TL_submit 93 = .ok (.aload_n 0, 1) := by decide +kernel
theorem zd_TL_submit_94 : decode zc_TL_submit 94 = .ok (.iload_n 1, 1) := by decide +kernel
theorem zd_TL_submit_95 : decode zc_TL_submit 95 = .ok (.invokevirtual 66, 3) := by decide +kernel
theorem zd_TL_submit_98 : decode zc_TL_submit 98 = .ok (.ifCond .eq 5, 3) := by decide +kernel
theorem zd_TL_submit_101 : decode zc_TL_submit 101 = .ok (.iconst 0, 1) := by decide +kernel
theorem zd_TL_submit_102 : decode zc_TL_submit 102 = .ok (.ireturn, 1) := by decide +kernel
theorem zd_TL_submit_103 : decode zc_TL_submit 103 = .ok (.iload_n 1, 1) := by decide +kernel
theorem zd_TL_submit_104 : decode zc_TL_submit 104 = .ok (.iconst 3, 1) := by decide +kernel
theorem zd_TL_submit_105 : decode zc_TL_submit 105 = .ok (.imul, 1) := by decide +kernel
theorem zd_TL_submit_106 : decode zc_TL_submit 106 = .ok (.iload_n 2, 1) := by decide +kernel
theorem zd_TL_submit_107 : decode zc_TL_submit 107 = .ok (.iadd, 1) := by decide +kernel
theorem zd_TL_submit_108 : decode zc_TL_submit 108 = .ok (.istore 9, 2) := by decide +kernel
theorem zd_TL_submit_110 : decode zc_TL_submit 110 = .ok (.aload_n 0, 1) := by decide +kernel
theorem zd_TL_submit_111 : decode zc_TL_submit 111 = .ok (.getfield 31, 3) := by decide +kernel
theorem zd_TL_submit_114 : decode zc_TL_submit 114 = .ok (.iload 9, 2) := by decide +kernel
theorem zd_TL_submit_116 : decode zc_TL_submit 116 = .ok (.aaload, 1) := by decide +kernel
theorem zd_TL_submit_117 : decode zc_TL_submit 117 = .ok (.ifnull 5, 3) := by decide +kernel
theorem zd_TL_submit_120 : decode zc_TL_submit 120 = .ok (.iconst 0, 1) := by decide +kernel
theorem zd_TL_submit_121 : decode zc_TL_submit 121 = .ok (.ireturn, 1) := by decide +kernel
theorem zd_TL_submit_122 : decode zc_TL_submit 122 = .ok (.aload_n 0, 1) := by decide +kernel
theorem zd_TL_submit_123 : decode zc_TL_submit 123 = .ok (.getfield 31, 3) := by decide +kernel
theorem zd_TL_submit_126 : decode zc_TL_submit 126 = .ok (.iload 9, 2) := by decide +kernel
theorem zd_TL_submit_128 : decode zc_TL_submit 128 = .ok (.new 29, 3) := by decide +kernel
theorem zd_TL_submit_131 : decode zc_TL_submit 131 = .ok (.dup, 1) := by decide +kernel
theorem zd_TL_submit_132 : decode zc_TL_submit 132 = .ok (.iload_n 3, 1) := by decide +kernel
theorem zd_TL_submit_133 : decode zc_TL_submit 133 = .ok (.iload 4, 2) := by decide +kernel
theorem zd_TL_submit_135 : decode zc_TL_submit 135 = .ok (.iload 5, 2) := by decide +kernel
theorem zd_TL_submit_137 : decode zc_TL_submit 137 = .ok (.iload 6, 2) := by decide +kernel
theorem zd_TL_submit_139 : decode zc_TL_submit 139 = .ok (.iload 7, 2) := by decide +kernel
theorem zd_TL_submit_141 : decode zc_TL_submit 141 = .ok (.invokespecial 69, 3) := by decide +kernel
theorem zd_TL_submit_144 : decode zc_TL_submit 144 = .ok (.aastore, 1) := by decide +kernel
theorem zd_TL_submit_145 : decode zc_TL_submit 145 = .ok (.iconst 1, 1) := by decide +kernel
theorem zd_TL_submit_146 : decode zc_TL_submit 146 = .ok (.ireturn, 1) := by decide +kernel
theorem zd_TL_has_0 : decode zc_TL_has 0 = .ok (.iload_n 0, 1) := by decide +kernel
theorem zd_TL_has_1 : decode zc_TL_has 1 = .ok (.iload_n 1, 1) := by decide +kernel
theorem zd_TL_has_2 : decode zc_TL_has 2 = .ok (.iushr, 1) := by decide +kernel
theorem zd_TL_has_3 : decode zc_TL_has 3 = .ok (.iconst 1, 1) := by decide +kernel
theorem zd_TL_has_4 : decode zc_TL_has 4 = .ok (.iand, 1) := by decide +kernel
theorem zd_TL_has_5 : decode zc_TL_has 5 = .ok (.ifCond .eq 7, 3) := by decide +kernel
theorem zd_TL_has_8 : decode zc_TL_has 8 = .ok (.iconst 1, 1) := by decide +kernel
theorem zd_TL_has_9 : decode zc_TL_has 9 = .ok (.goto 4, 3) := by decide +kernel
theorem zd_TL_has_12 : decode zc_TL_has 12 = .ok (.iconst 0, 1) := by decide +kernel
theorem zd_TL_has_13 : decode zc_TL_has 13 = .ok (.ireturn, 1) := by decide +kernel
theorem zd_TL_isGood_0 : decode zc_TL_isGood 0 = .ok (.iload_n 1, 1) := by decide +kernel
theorem zd_TL_isGood_1 : decode zc_TL_isGood 1 = .ok (.iconst 0, 1) := by decide +kernel
theorem zd_TL_isGood_2 : decode zc_TL_isGood 2 = .ok (.iconst 4, 1) := by decide +kernel
theorem zd_TL_isGood_3 : decode zc_TL_isGood 3 = .ok (.invokestatic 41, 3) := by decide +kernel
theorem zd_TL_isGood_6 : decode zc_TL_isGood 6 = .ok (.ifCond .eq 18, 3) := by decide +kernel
theorem zd_TL_isGood_9 : decode zc_TL_isGood 9 = .ok (.aload_n 0, 1) := by decide +kernel
theorem zd_TL_isGood_10 : decode zc_TL_isGood 10 = .ok (.getfield 9, 3) := by decide +kernel
theorem zd_TL_isGood_13 : decode zc_TL_isGood 13 = .ok (.iload_n 1, 1) := by decide +kernel
theorem zd_TL_isGood_14 : decode zc_TL_isGood 14 = .ok (.invokestatic 135, 3) := by decide +kernel
theorem zd_TL_isGood_17 : decode zc_TL_isGood 17 = .ok (.ifCond .ne 7, 3) := by decide +kernel
theorem zd_TL_isGood_20 : decode zc_TL_isGood 20 = .ok (.iconst 1, 1) := by decide +kernel
theorem zd_TL_isGood_21 : decode zc_TL_isGood 21 = .ok (.goto 4, 3) := by decide +kernel
theorem zd_TL_isGood_24 : decode zc_TL_isGood 24 = .ok (.iconst 0, 1) := by decide +kernel
theorem zd_TL_isGood_25 : decode zc_TL_isGood 25 = .ok (.ireturn, 1) := by decide +kernel
theorem zd_TL_isAtWork_0 : decode zc_TL_isAtWork 0 = .ok (.aload_n 0, 1) := by decide +kernel
theorem zd_TL_isAtWork_1 : decode zc_TL_isAtWork 1 = .ok (.iload_n 1, 1) := by decide +kernel
theorem zd_TL_isAtWork_2 : decode zc_TL_isAtWork 2 = .ok (.invokevirtual 107, 3) := by decide +kernel
theorem zd_TL_isAtWork_5 : decode zc_TL_isAtWork 5 = .ok (.ifCond .eq 22, 3) := by decide +kernel
theorem zd_TL_isAtWork_8 : decode zc_TL_isAtWork 8 = .ok (.aload_n 0, 1) := by decide +kernel
theorem zd_TL_isAtWork_9 : decode zc_TL_isAtWork 9 = .ok (.getfield 22, 3) := by decide +kernel
theorem zd_TL_isAtWork_12 : decode zc_TL_isAtWork 12 = .ok (.iload_n 1, 1) := by decide +kernel
theorem zd_TL_isAtWork_13 : decode zc_TL_isAtWork 13 = .ok (.aaload, 1) := by decide +kernel
theorem zd_TL_isAtWork_14 : decode zc_TL_isAtWork 14 = .ok (.getfield 79, 3) := by decide +kernel
theorem zd_TL_isAtWork_17 : decode zc_TL_isAtWork 17 = .ok (.invokestatic 59, 3) := by decide +kernel
theorem zd_TL_isAtWork_20 : decode zc_TL_isAtWork 20 = .ok (.ifCond .eq 7, 3) := by decide +kernel
theorem zd_TL_isAtWork_23 : decode zc_TL_isAtWork 23 = .ok (.iconst 1, 1) := by decide +kernel
theorem zd_TL_isAtWork_24 : decode zc_TL_isAtWork 24 = .ok (.goto 4, 3) := by decide +kernel
theorem zd_TL_isAtWork_27 : decode zc_TL_isAtWork 27 = .ok (.iconst 0, 1) := by decide +kernel
theorem zd_TL_isAtWork_28 : decode zc_TL_isAtWork 28 = .ok (.ireturn, 1) := by decide +kernel
theorem zd_Trust_everyone_0 : decode zc_Trust_everyone 0 = .ok (.aload_n 0, 1) := by decide +kernel
theorem zd_Trust_everyone_1 : decode zc_Trust_everyone 1 = .ok (.getfield 15, 3) := by decide +kernel
theorem zd_Trust_everyone_4 : decode zc_Trust_everyone 4 = .ok (.aload_n 0, 1) := by decide +kernel
theorem zd_Trust_everyone_5 : decode zc_Trust_everyone 5 = .ok (.getfield 21, 3) := by decide +kernel
theorem zd_Trust_everyone_8 : decode zc_Trust_everyone 8 = .ok (.ior, 1) := by decide +kernel
theorem zd_Trust_everyone_9 : decode zc_Trust_everyone 9 = .ok (.ireturn, 1) := by decide +kernel
theorem zd_Agreement_beginRound_0 : decode zc_Agreement_beginRound 0 = .ok (.aload_n 0, 1) := by decide +kernel
theorem zd_Agreement_beginRound_1 : decode zc_Agreement_beginRound 1 = .ok (.dup, 1) := by decide +kernel
theorem zd_Agreement_beginRound_2 : decode zc_Agreement_beginRound 2 = .ok (.getfield 43, 3) := by decide +kernel
theorem zd_Agreement_beginRound_5 : decode zc_Agreement_beginRound 5 = .ok (.iconst 1, 1) := by decide +kernel
theorem zd_Agreement_beginRound_6 : decode zc_Agreement_beginRound 6 = .ok (.iadd, 1) := by decide +kernel
theorem zd_Agreement_beginRound_7 : decode zc_Agreement_beginRound 7 = .ok (.putfield 43, 3) := by decide +kernel
theorem zd_Agreement_beginRound_10 : decode zc_Agreement_beginRound 10 = .ok (.aload_n 0, 1) := by decide +kernel
theorem zd_Agreement_beginRound_11 : decode zc_Agreement_beginRound 11 = .ok (.getfield 24, 3) := by decide +kernel
theorem zd_Agreement_beginRound_14 : decode zc_Agreement_beginRound 14 = .ok (.invokevirtual 111, 3) := by decide +kernel
theorem zd_Agreement_beginRound_17 : decode zc_Agreement_beginRound 17 = .ok (.iconst 1, 1) := by decide +kernel
theorem zd_Agreement_beginRound_18 : decode zc_Agreement_beginRound 18 = .ok (.aload_n 0, 1) := by decide +kernel
theorem zd_Agreement_beginRound_19 : decode zc_Agreement_beginRound 19 = .ok (.getfield 9, 3) := by decide +kernel
theorem zd_Agreement_beginRound_22 : decode zc_Agreement_beginRound 22 = .ok (.ishl, 1) := by decide +kernel
theorem zd_Agreement_beginRound_23 : decode zc_Agreement_beginRound 23 = .ok (.ior, 1) := by decide +kernel
theorem zd_Agreement_beginRound_24 : decode zc_Agreement_beginRound 24 = .ok (.istore_n 1, 1) := by decide +kernel
theorem zd_Agreement_beginRound_25 : decode zc_Agreement_beginRound 25 = .ok (.aload_n 0, 1) := by decide +kernel
theorem zd_Agreement_beginRound_26 : decode zc_Agreement_beginRound 26 = .ok (.getfield 9, 3) := by decide +kernel
theorem zd_Agreement_beginRound_29 : decode zc_Agreement_beginRound 29 = .ok (.istore_n 2, 1) := by decide +kernel
theorem zd_Agreement_beginRound_30 : decode zc_Agreement_beginRound 30 = .ok (.iconst (-1), 1) := by decide +kernel
theorem zd_Agreement_beginRound_31 : decode zc_Agreement_beginRound 31 = .ok (.istore_n 3, 1) := by decide +kernel
theorem zd_Agreement_beginRound_32 : decode zc_Agreement_beginRound 32 = .ok (.iconst 0, 1) := by decide +kernel
theorem zd_Agreement_beginRound_33 : decode zc_Agreement_beginRound 33 = .ok (.istore 4, 2) := by decide +kernel
theorem zd_Agreement_beginRound_35 : decode zc_Agreement_beginRound 35 = .ok (.iload 4, 2) := by decide +kernel
theorem zd_Agreement_beginRound_37 : decode zc_Agreement_beginRound 37 = .ok (.iconst 5, 1) := by decide +kernel
theorem zd_Agreement_beginRound_38 : decode zc_Agreement_beginRound 38 = .ok (.if_icmp .ge 59, 3) := by decide +kernel
theorem zd_Agreement_beginRound_41 : decode zc_Agreement_beginRound 41 = .ok (.bipush 37, 2) := by decide +kernel
theorem zd_Agreement_beginRound_43 : decode zc_Agreement_beginRound 43 = .ok (.iload 4, 2) := by decide +kernel
theorem zd_Agreement_beginRound_45 : decode zc_Agreement_beginRound 45 = .ok (.imul, 1) := by decide +kernel
theorem zd_Agreement_beginRound_46 : decode zc_Agreement_beginRound 46 = .ok (.bipush 61, 2) := by decide +kernel
theorem zd_Agreement_beginRound_48 : decode zc_Agreement_beginRound 48 = .ok (.aload_n 0, 1) := by decide +kernel
theorem zd_Agreement_beginRound_49 : decode zc_Agreement_beginRound 49 = .ok (.getfield 15, 3) := by decide +kernel
theorem zd_Agreement_beginRound_52 : decode zc_Agreement_beginRound 52 = .ok (.imul, 1) := by decide +kernel
theorem zd_Agreement_beginRound_53 : decode zc_Agreement_beginRound 53 = .ok (.iadd, 1) := by decide +kernel
theorem zd_Agreement_beginRound_54 : decode zc_Agreement_beginRound 54 = .ok (.bipush 17, 2) := by decide +kernel
theorem zd_Agreement_beginRound_56 : decode zc_Agreement_beginRound 56 = .ok (.aload_n 0, 1) := by decide +kernel
theorem zd_Agreement_beginRound_57 : decode zc_Agreement_beginRound 57 = .ok (.getfield 43, 3) := by decide +kernel
theorem zd_Agreement_beginRound_60 : decode zc_Agreement_beginRound 60 = .ok (.imul, 1) := by decide +kernel
theorem zd_Agreement_beginRound_61 : decode zc_Agreement_beginRound 61 = .ok (.iadd, 1) := by decide +kernel
theorem zd_Agreement_beginRound_62 : decode zc_Agreement_beginRound 62 = .ok (.bipush 29, 2) := by decide +kernel
theorem zd_Agreement_beginRound_64 : decode zc_Agreement_beginRound 64 = .ok (.imul, 1) := by decide +kernel
theorem zd_Agreement_beginRound_65 : decode zc_Agreement_beginRound 65 = .ok (.bipush 101, 2) := by decide +kernel
theorem zd_Agreement_beginRound_67 : decode zc_Agreement_beginRound 67 = .ok (.irem, 1) := by decide +kernel
theorem zd_Agreement_beginRound_68 : decode zc_Agreement_beginRound 68 = .ok (.istore 5, 2) := by decide +kernel
theorem zd_Agreement_beginRound_70 : decode zc_Agreement_beginRound 70 = .ok (.iload_n 1, 1) := by decide +kernel
theorem zd_Agreement_beginRound_71 : decode zc_Agreement_beginRound 71 = .ok (.iload 4, 2) := by decide +kernel
theorem zd_Agreement_beginRound_73 : decode zc_Agreement_beginRound 73 = .ok (.invokestatic 116, 3) := by decide +kernel
theorem zd_Agreement_beginRound_76 : decode zc_Agreement_beginRound 76 = .ok (.ifCond .eq 15, 3) := by decide +kernel
theorem zd_Agreement_beginRound_79 : decode zc_Agreement_beginRound 79 = .ok (.iload 5, 2) := by decide +kernel
theorem zd_Agreement_beginRound_81 : decode zc_Agreement_beginRound 81 = .ok (.iload_n 3, 1) := by decide +kernel
theorem zd_Agreement_beginRound_82 : decode zc_Agreement_beginRound 82 = .ok (.if_icmp .le 9, 3) := by decide +kernel
theorem zd_Agreement_beginRound_85 : decode zc_Agreement_beginRound 85 = .ok (.iload 4, 2) := by decide +kernel
theorem zd_Agreement_beginRound_87 : decode zc_Agreement_beginRound 87 = .ok (.istore_n 2, 1) := by decide +kernel
theorem zd_Agreement_beginRound_88 : decode zc_Agreement_beginRound 88 = .ok (.iload 5, 2) := by decide +kernel
theorem zd_Agreement_beginRound_90 : decode zc_Agreement_beginRound 90 = .ok (.istore_n 3, 1) := by decide +kernel
theorem zd_Agreement_beginRound_91 : decode zc_Agreement_beginRound 91 = .ok (.iinc 4 1, 3) := by decide +kernel
theorem zd_Agreement_beginRound_94 : decode zc_Agreement_beginRound 94 = .ok (.goto (-59), 3) := by decide +kernel
theorem zd_Agreement_beginRound_97 : decode zc_Agreement_beginRound 97 = .ok (.aload_n 0, 1) := by decide +kernel
theorem zd_Agreement_beginRound_98 : decode zc_Agreement_beginRound 98 = .ok (.dup, 1) := by decide +kernel
theorem zd_Agreement_beginRound_99 : decode zc_Agreement_beginRound 99 = .ok (.getfield 46, 3) := by decide +kernel
theorem zd_Agreement_beginRound_102 : decode zc_Agreement_beginRound 102 = .ok (.iconst 1, 1) := by decide +kernel
theorem zd_Agreement_beginRound_103 : decode zc_Agreement_beginRound 103 = .ok (.iload_n 2, 1) := by decide +kernel
theorem zd_Agreement_beginRound_104 : decode zc_Agreement_beginRound 104 = .ok (.ishl, 1) := by decide +kernel
theorem zd_Agreement_beginRound_105 : decode zc_Agreement_beginRound 105 = .ok (.ior, 1) := by decide +kernel
theorem zd_Agreement_beginRound_106 : decode zc_Agreement_beginRound 106 = .ok (.putfield 46, 3) := by decide +kernel
theorem zd_Agreement_beginRound_109 : decode zc_Agreement_beginRound 109 = .ok (.return_, 1) := by decide +kernel
theorem zd_Agreement_takeProposal_0 : decode zc_Agreement_takeProposal 0 = .ok (.aload_n 0, 1) := by decide +kernel
theorem zd_Agreement_takeProposal_1 : decode zc_Agreement_takeProposal 1 = .ok (.iload_n 1, 1) := by decide +kernel
theorem zd_Agreement_takeProposal_2 : decode zc_Agreement_takeProposal 2 = .ok (.putfield 56, 3) := by decide +kernel
theorem zd_Agreement_takeProposal_5 : decode zc_Agreement_takeProposal 5 = .ok (.aload_n 0, 1) := by decide +kernel
theorem zd_Agreement_takeProposal_6 : decode zc_Agreement_takeProposal 6 = .ok (.getfield 43, 3) := by decide +kernel
theorem zd_Agreement_takeProposal_9 : decode zc_Agreement_takeProposal 9 = .ok (.ifCond .ne 7, 3) := by decide +kernel
theorem zd_Agreement_takeProposal_12 : decode zc_Agreement_takeProposal 12 = .ok (.aload_n 0, 1) := by decide +kernel
theorem zd_Agreement_takeProposal_13 : decode zc_Agreement_takeProposal 13 = .ok (.invokevirtual 59, 3) := by decide +kernel
theorem zd_Agreement_takeProposal_16 : decode zc_Agreement_takeProposal 16 = .ok (.return_, 1) := by decide +kernel
theorem zd_Statements_nodesWith_0 : decode zc_Statements_nodesWith 0 = .ok (.iconst 0, 1) := by decide +kernel
theorem zd_Statements_nodesWith_1 : decode zc_Statements_nodesWith 1 = .ok (.istore_n 3, 1) := by decide +kernel
theorem zd_Statements_nodesWith_2 : decode zc_Statements_nodesWith 2 = .ok (.iconst 0, 1) := by decide +kernel
theorem zd_Statements_nodesWith_3 : decode zc_Statements_nodesWith 3 = .ok (.istore 4, 2) := by decide +kernel
theorem zd_Statements_nodesWith_5 : decode zc_Statements_nodesWith 5 = .ok (.iload 4, 2) := by decide +kernel
theorem zd_Statements_nodesWith_7 : decode zc_Statements_nodesWith 7 = .ok (.iconst 5, 1) := by decide +kernel
theorem zd_Statements_nodesWith_8 : decode zc_Statements_nodesWith 8 = .ok (.if_icmp .ge 27, 3) := by decide +kernel
theorem zd_Statements_nodesWith_11 : decode zc_Statements_nodesWith 11 = .ok (.aload_n 1, 1) := by decide +kernel
theorem zd_Statements_nodesWith_12 : decode zc_Statements_nodesWith 12 = .ok (.iload 4, 2) := by decide +kernel
theorem zd_Statements_nodesWith_14 : decode zc_Statements_nodesWith 14 = .ok (.iaload, 1) := by decide +kernel
theorem zd_Statements_nodesWith_15 : decode zc_Statements_nodesWith 15 = .ok (.iload_n 2, 1) := by decide +kernel
theorem zd_Statements_nodesWith_16 : decode zc_Statements_nodesWith 16 = .ok (.invokestatic 29, 3) := by decide +kernel
theorem zd_Statements_nodesWith_19 : decode zc_Statements_nodesWith 19 = .ok (.ifCond .eq 10, 3) := by decide +kernel
theorem zd_Statements_nodesWith_22 : decode zc_Statements_nodesWith 22 = .ok (.iload_n 3, 1) := by decide +kernel
theorem zd_Statements_nodesWith_23 : decode zc_Statements_nodesWith 23 = .ok (.iconst 1, 1) := by decide +kernel
theorem zd_Statements_nodesWith_24 : decode zc_Statements_nodesWith 24 = .ok (.iload 4, 2) := by decide +kernel
theorem zd_Statements_nodesWith_26 : decode zc_Statements_nodesWith 26 = .ok (.ishl, 1) := by decide +kernel
theorem zd_Statements_nodesWith_27 : decode zc_Statements_nodesWith 27 = .ok (.ior, 1) := by decide +kernel
theorem zd_Statements_nodesWith_28 : decode zc_Statements_nodesWith 28 = .ok (.istore_n 3, 1) := by decide +kernel
theorem zd_Statements_nodesWith_29 : decode zc_Statements_nodesWith 29 = .ok (.iinc 4 1, 3) := by decide +kernel
theorem zd_Statements_nodesWith_32 : decode zc_Statements_nodesWith 32 = .ok (.goto (-27), 3) := by decide +kernel
theorem zd_Statements_nodesWith_35 : decode zc_Statements_nodesWith 35 = .ok (.iload_n 3, 1) := by decide +kernel
theorem zd_Statements_nodesWith_36 : decode zc_Statements_nodesWith 36 = .ok (.ireturn, 1) := by decide +kernel
theorem zd_Statements_vote_0 : decode zc_Statements_vote 0 = .ok (.aload_n 0, 1) := by decide +kernel
theorem zd_Statements_vote_1 : decode zc_Statements_vote 1 = .ok (.getfield 26, 3) := by decide +kernel
theorem zd_Statements_vote_4 : decode zc_Statements_vote 4 = .ok (.iload_n 1, 1) := by decide +kernel
theorem zd_Statements_vote_5 : decode zc_Statements_vote 5 = .ok (.invokestatic 29, 3) := by decide +kernel
theorem zd_Statements_vote_8 : decode zc_Statements_vote 8 = .ok (.ifCond .eq 5, 3) := by decide +kernel
theorem zd_Statements_vote_11 : decode zc_Statements_vote 11 = .ok (.iconst 0, 1) := by decide +kernel
theorem zd_Statements_vote_12 : decode zc_Statements_vote 12 = .ok (.ireturn, 1) := by decide +kernel
theorem zd_Statements_vote_13 : decode zc_Statements_vote 13 = .ok (.aload_n 0, 1) := by decide +kernel
theorem zd_Statements_vote_14 : decode zc_Statements_vote 14 = .ok (.dup, 1) := by decide +kernel
theorem zd_Statements_vote_15 : decode zc_Statements_vote 15 = .ok (.getfield 26, 3) := by decide +kernel
theorem zd_Statements_vote_18 : decode zc_Statements_vote 18 = .ok (.iconst 1, 1) := by decide +kernel
theorem zd_Statements_vote_19 : decode zc_Statements_vote 19 = .ok (.iload_n 1, 1) := by decide +kernel
theorem zd_Statements_vote_20 : decode zc_Statements_vote 20 = .ok (.ishl, 1) := by decide +kernel
theorem zd_Statements_vote_21 : decode zc_Statements_vote 21 = .ok (.ior, 1) := by decide +kernel
theorem zd_Statements_vote_22 : decode zc_Statements_vote 22 = .ok (.putfield 26, 3) := by decide +kernel
theorem zd_Statements_vote_25 : decode zc_Statements_vote 25 = .ok (.aload_n 0, 1) := by decide +kernel
theorem zd_Statements_vote_26 : decode zc_Statements_vote 26 = .ok (.getfield 19, 3) := by decide +kernel
theorem zd_Statements_vote_29 : decode zc_Statements_vote 29 = .ok (.aload_n 0, 1) := by decide +kernel
theorem zd_Statements_vote_30 : decode zc_Statements_vote 30 = .ok (.getfield 9, 3) := by decide +kernel
theorem zd_Statements_vote_33 : decode zc_Statements_vote 33 = .ok (.dup2, 1) := by decide +kernel
theorem zd_Statements_vote_34 : decode zc_Statements_vote 34 = .ok (.iaload, 1) := by decide +kernel
theorem zd_Statements_vote_35 : decode zc_Statements_vote 35 = .ok (.iconst 1, 1) := by decide +kernel
theorem zd_Statements_vote_36 : decode zc_Statements_vote 36 = .ok (.iload_n 1, 1) := by decide +kernel
theorem zd_Statements_vote_37 : decode zc_Statements_vote 37 = .ok (.ishl, 1) := by decide +kernel
theorem zd_Statements_vote_38 : decode zc_Statements_vote 38 = .ok (.ior, 1) := by decide +kernel
theorem zd_Statements_vote_39 : decode zc_Statements_vote 39 = .ok (.iastore, 1) := by decide +kernel
theorem zd_Statements_vote_40 : decode zc_Statements_vote 40 = .ok (.iconst 1, 1) := by decide +kernel
theorem zd_Statements_vote_41 : decode zc_Statements_vote 41 = .ok (.ireturn, 1) := by decide +kernel
theorem zd_Agreement_voteNominate_0 : decode zc_Agreement_voteNominate 0 = .ok (.iconst 0, 1) := by decide +kernel
theorem zd_Agreement_voteNominate_1 : decode zc_Agreement_voteNominate 1 = .ok (.istore_n 1, 1) := by decide +kernel
theorem zd_Agreement_voteNominate_2 : decode zc_Agreement_voteNominate 2 = .ok (.aload_n 0, 1) := by decide +kernel
theorem zd_Agreement_voteNominate_3 : decode zc_Agreement_voteNominate 3 = .ok (.getfield 33, 3) := by decide +kernel
theorem zd_Agreement_voteNominate_6 : decode zc_Agreement_voteNominate 6 = .ok (.getfield 131, 3) := by decide +kernel
theorem zd_Agreement_voteNominate_9 : decode zc_Agreement_voteNominate 9 = .ok (.ifCond .eq 5, 3) := by decide +kernel
theorem zd_Agreement_voteNominate_12 : decode zc_Agreement_voteNominate 12 = .ok (.iload_n 1, 1) := by decide +kernel
theorem zd_Agreement_voteNominate_13 : decode zc_Agreement_voteNominate 13 = .ok (.ireturn, 1) := by decide +kernel
theorem zd_Agreement_voteNominate_14 : decode zc_Agreement_voteNominate 14 = .ok (.iconst 1, 1) := by decide +kernel
theorem zd_Agreement_voteNominate_15 : decode zc_Agreement_voteNominate 15 = .ok (.istore_n 2, 1) := by decide +kernel
theorem zd_Agreement_voteNominate_16 : decode zc_Agreement_voteNominate 16 = .ok (.iload_n 2, 1) := by decide +kernel
theorem zd_Agreement_voteNominate_17 : decode zc_Agreement_voteNominate 17 = .ok (.bipush 7, 2) := by decide +kernel
theorem zd_Agreement_voteNominate_19 : decode zc_Agreement_voteNominate 19 = .ok (.if_icmp .gt 75, 3) := by decide +kernel
theorem zd_Agreement_voteNominate_22 : decode zc_Agreement_voteNominate 22 = .ok (.aload_n 0, 1) := by decide +kernel
theorem zd_Agreement_voteNominate_23 : decode zc_Agreement_voteNominate 23 = .ok (.getfield 46, 3) := by decide +kernel
theorem zd_Agreement_voteNominate_26 : decode zc_Agreement_voteNominate 26 = .ok (.aload_n 0, 1) := by decide +kernel
theorem zd_Agreement_voteNominate_27 : decode zc_Agreement_voteNominate 27 = .ok (.getfield 9, 3) := by decide +kernel
theorem zd_Agreement_voteNominate_30 : decode zc_Agreement_voteNominate 30 = .ok (.invokestatic 116, 3) := by decide +kernel
theorem zd_Agreement_voteNominate_33 : decode zc_Agreement_voteNominate 33 = .ok (.ifCond .eq 15, 3) := by decide +kernel
theorem zd_Agreement_voteNominate_36 : decode zc_Agreement_voteNominate 36 = .ok (.iload_n 2, 1) := by decide +kernel
theorem zd_Agreement_voteNominate_37 : decode zc_Agreement_voteNominate 37 = .ok (.aload_n 0, 1) := by decide +kernel
theorem zd_Agreement_voteNominate_38 : decode zc_Agreement_voteNominate 38 = .ok (.getfield 56, 3) := by decide +kernel
theorem zd_Agreement_voteNominate_41 : decode zc_Agreement_voteNominate 41 = .ok (.if_icmp .ne 7, 3) := by decide +kernel
theorem zd_Agreement_voteNominate_44 : decode zc_Agreement_voteNominate 44 = .ok (.iconst 1, 1) := by decide +kernel
theorem zd_Agreement_voteNominate_45 : decode zc_Agreement_voteNominate 45 = .ok (.goto 4, 3) := by decide +kernel
theorem zd_Agreement_voteNominate_48 : decode zc_Agreement_voteNominate 48 = .ok (.iconst 0, 1) := by decide +kernel
theorem zd_Agreement_voteNominate_49 : decode zc_Agreement_voteNominate 49 = .ok (.istore_n 3, 1) := by decide +kernel
theorem zd_Agreement_voteNominate_50 : decode zc_Agreement_voteNominate 50 = .ok (.iload_n 3, 1) := by decide +kernel
theorem zd_Agreement_voteNominate_51 : decode zc_Agreement_voteNominate 51 = .ok (.ifCond .ne 26, 3) := by decide +kernel
theorem zd_Agreement_voteNominate_54 : decode zc_Agreement_voteNominate 54 = .ok (.aload_n 0, 1) := by decide +kernel
theorem zd_Agreement_voteNominate_55 : decode zc_Agreement_voteNominate 55 = .ok (.getfield 33, 3) := by decide +kernel
theorem zd_Agreement_voteNominate_58 : decode zc_Agreement_voteNominate 58 = .ok (.aload_n 0, 1) := by decide +kernel
theorem zd_Agreement_voteNominate_59 : decode zc_Agreement_voteNominate 59 = .ok (.getfield 33, 3) := by decide +kernel
theorem zd_Agreement_voteNominate_62 : decode zc_Agreement_voteNominate 62 = .ok (.getfield 69, 3) := by decide +kernel
theorem zd_Agreement_voteNominate_65 : decode zc_Agreement_voteNominate 65 = .ok (.iload_n 2, 1) := by decide +kernel
theorem zd_Agreement_voteNominate_66 : decode zc_Agreement_voteNominate 66 = .ok (.invokevirtual 138, 3) := by decide +kernel
theorem zd_Agreement_voteNominate_69 : decode zc_Agreement_voteNominate 69 = .ok (.aload_n 0, 1) := by decide +kernel
theorem zd_Agreement_voteNominate_70 : decode zc_Agreement_voteNominate 70 = .ok (.getfield 46, 3) := by decide +kernel
theorem zd_Agreement_voteNominate_73 : decode zc_Agreement_voteNominate 73 = .ok (.iand, 1) := by decide +kernel
theorem zd_Agreement_voteNominate_74 : decode zc_Agreement_voteNominate 74 = .ok (.ifCond .eq 14, 3) := by decide +kernel
theorem zd_Agreement_voteNominate_77 : decode zc_Agreement_voteNominate 77 = .ok (.iload_n 1, 1) := by decide +kernel
theorem zd_Agreement_voteNominate_78 : decode zc_Agreement_voteNominate 78 = .ok (.aload_n 0, 1) := by decide +kernel
theorem zd_Agreement_voteNominate_79 : decode zc_Agreement_voteNominate 79 = .ok (.getfield 33, 3) := by decide +kernel
theorem zd_Agreement_voteNominate_82 : decode zc_Agreement_voteNominate 82 = .ok (.iload_n 2, 1) := by decide +kernel
theorem zd_Agreement_voteNominate_83 : decode zc_Agreement_voteNominate 83 = .ok (.invokevirtual 127, 3) := by decide +kernel
theorem zd_Agreement_voteNominate_86 : decode zc_Agreement_voteNominate 86 = .ok (.ior, 1) := by decide +kernel
theorem zd_Agreement_voteNominate_87 : decode zc_Agreement_voteNominate 87 = .ok (.istore_n 1, 1) := by decide +kernel
theorem zd_Agreement_voteNominate_88 : decode zc_Agreement_voteNominate 88 = .ok (.iinc 2 1, 3) := by decide +kernel
theorem zd_Agreement_voteNominate_91 : decode zc_Agreement_voteNominate 91 = .ok (.goto (-75), 3) := by decide +kernel
theorem zd_Agreement_voteNominate_94 : decode zc_Agreement_voteNominate 94 = .ok (.iload_n 1, 1) := by decide +kernel
theorem zd_Agreement_voteNominate_95 : decode zc_Agreement_voteNominate 95 = .ok (.ireturn, 1) := by decide +kernel
theorem zd_Int_bitCount_0 : decode zc_Int_bitCount 0 = .ok (.iload_n 0, 1) := by decide +kernel
theorem zd_Int_bitCount_1 : decode zc_Int_bitCount 1 = .ok (.iload_n 0, 1) := by decide +kernel
theorem zd_Int_bitCount_2 : decode zc_Int_bitCount 2 = .ok (.iconst 1, 1) := by decide +kernel
theorem zd_Int_bitCount_3 : decode zc_Int_bitCount 3 = .ok (.iushr, 1) := by decide +kernel
theorem zd_Int_bitCount_4 : decode zc_Int_bitCount 4 = .ok (.ldc_w 265, 3) := by decide +kernel
theorem zd_Int_bitCount_7 : decode zc_Int_bitCount 7 = .ok (.iand, 1) := by decide +kernel
theorem zd_Int_bitCount_8 : decode zc_Int_bitCount 8 = .ok (.isub, 1) := by decide +kernel
theorem zd_Int_bitCount_9 : decode zc_Int_bitCount 9 = .ok (.istore_n 0, 1) := by decide +kernel
theorem zd_Int_bitCount_10 : decode zc_Int_bitCount 10 = .ok (.iload_n 0, 1) := by decide +kernel
theorem zd_Int_bitCount_11 : decode zc_Int_bitCount 11 = .ok (.ldc_w 266, 3) := by decide +kernel
theorem zd_Int_bitCount_14 : decode zc_Int_bitCount 14 = .ok (.iand, 1) := by decide +kernel
theorem zd_Int_bitCount_15 : decode zc_Int_bitCount 15 = .ok (.iload_n 0, 1) := by decide +kernel
theorem zd_Int_bitCount_16 : decode zc_Int_bitCount 16 = .ok (.iconst 2, 1) := by decide +kernel
theorem zd_Int_bitCount_17 : decode zc_Int_bitCount 17 = .ok (.iushr, 1) := by decide +kernel
theorem zd_Int_bitCount_18 : decode zc_Int_bitCount 18 = .ok (.ldc_w 266, 3) := by decide +kernel
theorem zd_Int_bitCount_21 : decode zc_Int_bitCount 21 = .ok (.iand, 1) := by decide +kernel
theorem zd_Int_bitCount_22 : decode zc_Int_bitCount 22 = .ok (.iadd, 1) := by decide +kernel
theorem zd_Int_bitCount_23 : decode zc_Int_bitCount 23 = .ok (.istore_n 0, 1) := by decide +kernel
theorem zd_Int_bitCount_24 : decode zc_Int_bitCount 24 = .ok (.iload_n 0, 1) := by decide +kernel
theorem zd_Int_bitCount_25 : decode zc_Int_bitCount 25 = .ok (.iload_n 0, 1) := by decide +kernel
theorem zd_Int_bitCount_26 : decode zc_Int_bitCount 26 = .ok (.iconst 4, 1) := by decide +kernel
theorem zd_Int_bitCount_27 : decode zc_Int_bitCount 27 = .ok (.iushr, 1) := by decide +kernel
theorem zd_Int_bitCount_28 : decode zc_Int_bitCount 28 = .ok (.iadd, 1) := by decide +kernel
theorem zd_Int_bitCount_29 : decode zc_Int_bitCount 29 = .ok (.ldc_w 267, 3) := by decide +kernel
theorem zd_Int_bitCount_32 : decode zc_Int_bitCount 32 = .ok (.iand, 1) := by decide +kernel
theorem zd_Int_bitCount_33 : decode zc_Int_bitCount 33 = .ok (.istore_n 0, 1) := by decide +kernel
theorem zd_Int_bitCount_34 : decode zc_Int_bitCount 34 = .ok (.iload_n 0, 1) := by decide +kernel
theorem zd_Int_bitCount_35 : decode zc_Int_bitCount 35 = .ok (.iload_n 0, 1) := by decide +kernel
theorem zd_Int_bitCount_36 : decode zc_Int_bitCount 36 = .ok (.bipush 8, 2) := by decide +kernel
theorem zd_Int_bitCount_38 : decode zc_Int_bitCount 38 = .ok (.iushr, 1) := by decide +kernel
theorem zd_Int_bitCount_39 : decode zc_Int_bitCount 39 = .ok (.iadd, 1) := by decide +kernel
theorem zd_Int_bitCount_40 : decode zc_Int_bitCount 40 = .ok (.istore_n 0, 1) := by decide +kernel
theorem zd_Int_bitCount_41 : decode zc_Int_bitCount 41 = .ok (.iload_n 0, 1) := by decide +kernel
theorem zd_Int_bitCount_42 : decode zc_Int_bitCount 42 = .ok (.iload_n 0, 1) := by decide +kernel
theorem zd_Int_bitCount_43 : decode zc_Int_bitCount 43 = .ok (.bipush 16, 2) := by decide +kernel
theorem zd_Int_bitCount_45 : decode zc_Int_bitCount 45 = .ok (.iushr, 1) := by decide +kernel
theorem zd_Int_bitCount_46 : decode zc_Int_bitCount 46 = .ok (.iadd, 1) := by decide +kernel
theorem zd_Int_bitCount_47 : decode zc_Int_bitCount 47 = .ok (.istore_n 0, 1) := by decide +kernel
theorem zd_Int_bitCount_48 : decode zc_Int_bitCount 48 = .ok (.iload_n 0, 1) := by decide +kernel
theorem zd_Int_bitCount_49 : decode zc_Int_bitCount 49 = .ok (.bipush 63, 2) := by decide +kernel
theorem zd_Int_bitCount_51 : decode zc_Int_bitCount 51 = .ok (.iand, 1) := by decide +kernel
theorem zd_Int_bitCount_52 : decode zc_Int_bitCount 52 = .ok (.ireturn, 1) := by decide +kernel
theorem zd_Trust_isSatisfiedBy_0 : decode zc_Trust_isSatisfiedBy 0 = .ok (.iload_n 1, 1) := by decide +kernel
theorem zd_Trust_isSatisfiedBy_1 : decode zc_Trust_isSatisfiedBy 1 = .ok (.aload_n 0, 1) := by decide +kernel
theorem zd_Trust_isSatisfiedBy_2 : decode zc_Trust_isSatisfiedBy 2 = .ok (.getfield 15, 3) := by decide +kernel
theorem zd_Trust_isSatisfiedBy_5 : decode zc_Trust_isSatisfiedBy 5 = .ok (.iand, 1) := by decide +kernel
theorem zd_Trust_isSatisfiedBy_6 : decode zc_Trust_isSatisfiedBy 6 = .ok (.invokestatic 24, 3) := by decide +kernel
theorem zd_Trust_isSatisfiedBy_9 : decode zc_Trust_isSatisfiedBy 9 = .ok (.istore_n 2, 1) := by decide +kernel
theorem zd_Trust_isSatisfiedBy_10 : decode zc_Trust_isSatisfiedBy 10 = .ok (.aload_n 0, 1) := by decide +kernel
theorem zd_Trust_isSatisfiedBy_11 : decode zc_Trust_isSatisfiedBy 11 = .ok (.getfield 18, 3) := by decide +kernel
theorem zd_Trust_isSatisfiedBy_14 : decode zc_Trust_isSatisfiedBy 14 = .ok (.ifCond .le 22, 3) := by decide +kernel
theorem zd_Trust_isSatisfiedBy_17 : decode zc_Trust_isSatisfiedBy 17 = .ok (.iload_n 1, 1) := by decide +kernel
theorem zd_Trust_isSatisfiedBy_18 : decode zc_Trust_isSatisfiedBy 18 = .ok (.aload_n 0, 1) := by decide +kernel
theorem zd_Trust_isSatisfiedBy_19 : decode zc_Trust_isSatisfiedBy 19 = .ok (.getfield 21, 3) := by decide +kernel
theorem zd_Trust_isSatisfiedBy_22 : decode zc_Trust_isSatisfiedBy 22 = .ok (.iand, 1) := by decide +kernel
theorem zd_Trust_isSatisfiedBy_23 : decode zc_Trust_isSatisfiedBy 23 = .ok (.invokestatic 24, 3) := by decide +kernel
theorem zd_Trust_isSatisfiedBy_26 : decode zc_Trust_isSatisfiedBy 26 = .ok (.aload_n 0, 1) := by decide +kernel
theorem zd_Trust_isSatisfiedBy_27 : decode zc_Trust_isSatisfiedBy 27 = .ok (.getfield 18, 3) := by decide +kernel
theorem zd_Trust_isSatisfiedBy_30 : decode zc_Trust_isSatisfiedBy 30 = .ok (.if_icmp .lt 6, 3) := by decide +kernel
theorem zd_Trust_isSatisfiedBy_33 : decode zc_Trust_isSatisfiedBy 33 = .ok (.iinc 2 1, 3) := by decide +kernel
theorem zd_Trust_isSatisfiedBy_36 : decode zc_Trust_isSatisfiedBy 36 = .ok (.iload_n 2, 1) := by decide +kernel
theorem zd_Trust_isSatisfiedBy_37 : decode zc_Trust_isSatisfiedBy 37 = .ok (.aload_n 0, 1) := by decide +kernel
theorem zd_Trust_isSatisfiedBy_38 : decode zc_Trust_isSatisfiedBy 38 = .ok (.getfield 9, 3) := by decide +kernel
theorem zd_Trust_isSatisfiedBy_41 : decode zc_Trust_isSatisfiedBy 41 = .ok (.if_icmp .lt 7, 3) := by decide +kernel
theorem zd_Trust_isSatisfiedBy_44 : decode zc_Trust_isSatisfiedBy 44 = .ok (.iconst 1, 1) := by decide +kernel
theorem zd_Trust_isSatisfiedBy_45 : decode zc_Trust_isSatisfiedBy 45 = .ok (.goto 4, 3) := by decide +kernel
theorem zd_Trust_isSatisfiedBy_48 : decode zc_Trust_isSatisfiedBy 48 = .ok (.iconst 0, 1) := by decide +kernel
theorem zd_Trust_isSatisfiedBy_49 : decode zc_Trust_isSatisfiedBy 49 = .ok (.ireturn, 1) := by decide +kernel
theorem zd_Quorums_isGivenTo_0 : decode zc_Quorums_isGivenTo 0 = .ok (.iload_n 2, 1) := by decide +kernel
theorem zd_Quorums_isGivenTo_1 : decode zc_Quorums_isGivenTo 1 = .ok (.istore_n 3, 1) := by decide +kernel
theorem zd_Quorums_isGivenTo_2 : decode zc_Quorums_isGivenTo 2 = .ok (.iconst 0, 1) := by decide +kernel
theorem zd_Quorums_isGivenTo_3 : decode zc_Quorums_isGivenTo 3 = .ok (.istore 4, 2) := by decide +kernel
theorem zd_Quorums_isGivenTo_5 : decode zc_Quorums_isGivenTo 5 = .ok (.iload 4, 2) := by decide +kernel
theorem zd_Quorums_isGivenTo_7 : decode zc_Quorums_isGivenTo 7 = .ok (.iconst 5, 1) := by decide +kernel
theorem zd_Quorums_isGivenTo_8 : decode zc_Quorums_isGivenTo 8 = .ok (.if_icmp .ge 75, 3) := by decide +kernel
theorem zd_Quorums_isGivenTo_11 : decode zc_Quorums_isGivenTo 11 = .ok (.iload_n 3, 1) := by decide +kernel
theorem zd_Quorums_isGivenTo_12 : decode zc_Quorums_isGivenTo 12 = .ok (.iload_n 1, 1) := by decide +kernel
theorem zd_Quorums_isGivenTo_13 : decode zc_Quorums_isGivenTo 13 = .ok (.invokestatic 18, 3) := by decide +kernel
theorem zd_Quorums_isGivenTo_16 : decode zc_Quorums_isGivenTo 16 = .ok (.ifCond .eq 67, 3) := by decide +kernel
theorem zd_Quorums_isGivenTo_19 : decode zc_Quorums_isGivenTo 19 = .ok (.iload_n 3, 1) := by decide +kernel
theorem zd_Quorums_isGivenTo_20 : decode zc_Quorums_isGivenTo 20 = .ok (.istore 5, 2) := by decide +kernel
theorem zd_Quorums_isGivenTo_22 : decode zc_Quorums_isGivenTo 22 = .ok (.iconst 0, 1) := by decide +kernel
theorem zd_Quorums_isGivenTo_23 : decode zc_Quorums_isGivenTo 23 = .ok (.istore 6, 2) := by decide +kernel
theorem zd_Quorums_isGivenTo_25 : decode zc_Quorums_isGivenTo 25 = .ok (.iload 6, 2) := by decide +kernel
theorem zd_Quorums_isGivenTo_27 : decode zc_Quorums_isGivenTo 27 = .ok (.iconst 5, 1) := by decide +kernel
theorem zd_Quorums_isGivenTo_28 : decode zc_Quorums_isGivenTo 28 = .ok (.if_icmp .ge 41, 3) := by decide +kernel
theorem zd_Quorums_isGivenTo_31 : decode zc_Quorums_isGivenTo 31 = .ok (.iload_n 3, 1) := by decide +kernel
theorem zd_Quorums_isGivenTo_32 : decode zc_Quorums_isGivenTo 32 = .ok (.iload 6, 2) := by decide +kernel
theorem zd_Quorums_isGivenTo_34 : decode zc_Quorums_isGivenTo 34 = .ok (.invokestatic 18, 3) := by decide +kernel
theorem zd_Quorums_isGivenTo_37 : decode zc_Quorums_isGivenTo 37 = .ok (.ifCond .eq 26, 3) := by decide +kernel
theorem zd_Quorums_isGivenTo_40 : decode zc_Quorums_isGivenTo 40 = .ok (.aload_n 0, 1) := by decide +kernel
theorem zd_Quorums_isGivenTo_41 : decode zc_Quorums_isGivenTo 41 = .ok (.getfield 11, 3) := by decide +kernel
theorem zd_Quorums_isGivenTo_44 : decode zc_Quorums_isGivenTo 44 = .ok (.iload 6, 2) := by decide +kernel
theorem zd_Quorums_isGivenTo_46 : decode zc_Quorums_isGivenTo 46 = .ok (.aaload, 1) := by decide +kernel
theorem zd_Quorums_isGivenTo_47 : decode zc_Quorums_isGivenTo 47 = .ok (.iload_n 3, 1) := by decide +kernel
theorem zd_Quorums_isGivenTo_48 : decode zc_Quorums_isGivenTo 48 = .ok (.invokevirtual 22, 3) := by decide +kernel
theorem zd_Quorums_isGivenTo_51 : decode zc_Quorums_isGivenTo 51 = .ok (.ifCond .ne 12, 3) := by decide +kernel
theorem zd_Quorums_isGivenTo_54 : decode zc_Quorums_isGivenTo 54 = .ok (.iload_n 3, 1) := by decide +kernel
theorem zd_Quorums_isGivenTo_55 : decode zc_Quorums_isGivenTo 55 = .ok (.iconst 1, 1) := by decide +kernel
theorem zd_Quorums_isGivenTo_56 : decode zc_Quorums_isGivenTo 56 = .ok (.iload 6, 2) := by decide +kernel
theorem zd_Quorums_isGivenTo_58 : decode zc_Quorums_isGivenTo 58 = .ok (.ishl, 1) := by decide +kernel
theorem zd_Quorums_isGivenTo_59 : decode zc_Quorums_isGivenTo 59 = .ok (.iconst (-1), 1) := by decide +kernel
theorem zd_Quorums_isGivenTo_60 : decode zc_Quorums_isGivenTo 60 = .ok (.ixor, 1) := by decide +kernel
theorem zd_Quorums_isGivenTo_61 : decode zc_Quorums_isGivenTo 61 = .ok (.iand, 1) := by decide +kernel
theorem zd_Quorums_isGivenTo_62 : decode zc_Quorums_isGivenTo 62 = .ok (.istore_n 3, 1) := by decide +kernel
theorem zd_Quorums_isGivenTo_63 : decode zc_Quorums_isGivenTo 63 = .ok (.iinc 6 1, 3) := by decide +kernel
theorem zd_Quorums_isGivenTo_66 : decode zc_Quorums_isGivenTo 66 = .ok (.goto (-41), 3) := by decide +kernel
theorem zd_Quorums_isGivenTo_69 : decode zc_Quorums_isGivenTo 69 = .ok (.iload_n 3, 1) := by decide +kernel
theorem zd_Quorums_isGivenTo_70 : decode zc_Quorums_isGivenTo 70 = .ok (.iload 5, 2) := by decide +kernel
theorem zd_Quorums_isGivenTo_72 : decode zc_Quorums_isGivenTo 72 = .ok (.if_icmp .ne 5, 3) := by decide +kernel
theorem zd_Quorums_isGivenTo_75 : decode zc_Quorums_isGivenTo 75 = .ok (.iconst 1, 1) := by decide +kernel
theorem zd_Quorums_isGivenTo_76 : decode zc_Quorums_isGivenTo 76 = .ok (.ireturn, 1) := by decide +kernel
theorem zd_Quorums_isGivenTo_77 : decode zc_Quorums_isGivenTo 77 = .ok (.iinc 4 1, 3) := by decide +kernel
theorem zd_Quorums_isGivenTo_80 : decode zc_Quorums_isGivenTo 80 = .ok (.goto (-75), 3) := by decide +kernel
theorem zd_Quorums_isGivenTo_83 : decode zc_Quorums_isGivenTo 83 = .ok (.iconst 0, 1) := by decide +kernel
theorem zd_Quorums_isGivenTo_84 : decode zc_Quorums_isGivenTo 84 = .ok (.ireturn, 1) := by decide +kernel
theorem zd_Trust_isBlockedBy_0 : decode zc_Trust_isBlockedBy 0 = .ok (.aload_n 0, 1) := by decide +kernel
theorem zd_Trust_isBlockedBy_1 : decode zc_Trust_isBlockedBy 1 = .ok (.bipush 31, 2) := by decide +kernel
theorem zd_Trust_isBlockedBy_3 : decode zc_Trust_isBlockedBy 3 = .ok (.iload_n 1, 1) := by decide +kernel
theorem zd_Trust_isBlockedBy_4 : decode zc_Trust_isBlockedBy 4 = .ok (.iconst (-1), 1) := by decide +kernel
theorem zd_Trust_isBlockedBy_5 : decode zc_Trust_isBlockedBy 5 = .ok (.ixor, 1) := by decide +kernel
theorem zd_Trust_isBlockedBy_6 : decode zc_Trust_isBlockedBy 6 = .ok (.iand, 1) := by decide +kernel
theorem zd_Trust_isBlockedBy_7 : decode zc_Trust_isBlockedBy 7 = .ok (.invokevirtual 30, 3) := by decide +kernel
theorem zd_Trust_isBlockedBy_10 : decode zc_Trust_isBlockedBy 10 = .ok (.ifCond .ne 7, 3) := by decide +kernel
theorem zd_Trust_isBlockedBy_13 : decode zc_Trust_isBlockedBy 13 = .ok (.iconst 1, 1) := by decide +kernel
theorem zd_Trust_isBlockedBy_14 : decode zc_Trust_isBlockedBy 14 = .ok (.goto 4, 3) := by decide +kernel
theorem zd_Trust_isBlockedBy_17 : decode zc_Trust_isBlockedBy 17 = .ok (.iconst 0, 1) := by decide +kernel
theorem zd_Trust_isBlockedBy_18 : decode zc_Trust_isBlockedBy 18 = .ok (.ireturn, 1) := by decide +kernel
theorem zd_Statements_acceptIfMay_0 : decode zc_Statements_acceptIfMay 0 = .ok (.aload_n 0, 1) := by decide +kernel
theorem zd_Statements_acceptIfMay_1 : decode zc_Statements_acceptIfMay 1 = .ok (.getfield 23, 3) := by decide +kernel
theorem zd_Statements_acceptIfMay_4 : decode zc_Statements_acceptIfMay 4 = .ok (.aload_n 0, 1) := by decide +kernel
theorem zd_Statements_acceptIfMay_5 : decode zc_Statements_acceptIfMay 5 = .ok (.getfield 9, 3) := by decide +kernel
theorem zd_Statements_acceptIfMay_8 : decode zc_Statements_acceptIfMay 8 = .ok (.iaload, 1) := by decide +kernel
theorem zd_Statements_acceptIfMay_9 : decode zc_Statements_acceptIfMay 9 = .ok (.iload_n 1, 1) := by decide +kernel
theorem zd_Statements_acceptIfMay_10 : decode zc_Statements_acceptIfMay 10 = .ok (.invokestatic 29, 3) := by decide +kernel
theorem zd_Statements_acceptIfMay_13 : decode zc_Statements_acceptIfMay 13 = .ok (.ifCond .eq 5, 3) := by decide +kernel
theorem zd_Statements_acceptIfMay_16 : decode zc_Statements_acceptIfMay 16 = .ok (.iconst 0, 1) := by decide +kernel
theorem zd_Statements_acceptIfMay_17 : decode zc_Statements_acceptIfMay 17 = .ok (.ireturn, 1) := by decide +kernel
theorem zd_Statements_acceptIfMay_18 : decode zc_Statements_acceptIfMay 18 = .ok (.aload_n 0, 1) := by decide +kernel
theorem zd_Statements_acceptIfMay_19 : decode zc_Statements_acceptIfMay 19 = .ok (.getfield 19, 3) := by decide +kernel
theorem zd_Statements_acceptIfMay_22 : decode zc_Statements_acceptIfMay 22 = .ok (.aload_n 0, 1) := by decide +kernel
theorem zd_Statements_acceptIfMay_23 : decode zc_Statements_acceptIfMay 23 = .ok (.getfield 9, 3) := by decide +kernel
theorem zd_Statements_acceptIfMay_26 : decode zc_Statements_acceptIfMay 26 = .ok (.iaload, 1) := by decide +kernel
theorem zd_Statements_acceptIfMay_27 : decode zc_Statements_acceptIfMay 27 = .ok (.iload_n 1, 1) := by decide +kernel
theorem zd_Statements_acceptIfMay_28 : decode zc_Statements_acceptIfMay 28 = .ok (.invokestatic 29, 3) := by decide +kernel
theorem zd_Statements_acceptIfMay_31 : decode zc_Statements_acceptIfMay 31 = .ok (.ifCond .eq 26, 3) := by decide +kernel
theorem zd_Statements_acceptIfMay_34 : decode zc_Statements_acceptIfMay 34 = .ok (.aload_n 0, 1) := by decide +kernel
theorem zd_Statements_acceptIfMay_35 : decode zc_Statements_acceptIfMay 35 = .ok (.getfield 15, 3) := by decide +kernel
theorem zd_Statements_acceptIfMay_38 : decode zc_Statements_acceptIfMay 38 = .ok (.aload_n 0, 1) := by decide +kernel
theorem zd_Statements_acceptIfMay_39 : decode zc_Statements_acceptIfMay 39 = .ok (.getfield 9, 3) := by decide +kernel
theorem zd_Statements_acceptIfMay_42 : decode zc_Statements_acceptIfMay 42 = .ok (.aload_n 0, 1) := by decide +kernel
theorem zd_Statements_acceptIfMay_43 : decode zc_Statements_acceptIfMay 43 = .ok (.aload_n 0, 1) := by decide +kernel
theorem zd_Statements_acceptIfMay_44 : decode zc_Statements_acceptIfMay 44 = .ok (.getfield 19, 3) := by decide +kernel
theorem zd_Statements_acceptIfMay_47 : decode zc_Statements_acceptIfMay 47 = .ok (.iload_n 1, 1) := by decide +kernel
theorem zd_Statements_acceptIfMay_48 : decode zc_Statements_acceptIfMay 48 = .ok (.invokevirtual 33, 3) := by decide +kernel
theorem zd_Statements_acceptIfMay_51 : decode zc_Statements_acceptIfMay 51 = .ok (.invokevirtual 37, 3) := by decide +kernel
theorem zd_Statements_acceptIfMay_54 : decode zc_Statements_acceptIfMay 54 = .ok (.ifCond .ne 30, 3) := by decide +kernel
theorem zd_Statements_acceptIfMay_57 : decode zc_Statements_acceptIfMay 57 = .ok (.aload_n 0, 1) := by decide +kernel
theorem zd_Statements_acceptIfMay_58 : decode zc_Statements_acceptIfMay 58 = .ok (.getfield 15, 3) := by decide +kernel
theorem zd_Statements_acceptIfMay_61 : decode zc_Statements_acceptIfMay 61 = .ok (.getfield 42, 3) := by decide +kernel
theorem zd_Statements_acceptIfMay_64 : decode zc_Statements_acceptIfMay 64 = .ok (.aload_n 0, 1) := by decide +kernel
theorem zd_Statements_acceptIfMay_65 : decode zc_Statements_acceptIfMay 65 = .ok (.getfield 9, 3) := by decide +kernel
theorem zd_Statements_acceptIfMay_68 : decode zc_Statements_acceptIfMay 68 = .ok (.aaload, 1) := by decide +kernel
theorem zd_Statements_acceptIfMay_69 : decode zc_Statements_acceptIfMay 69 = .ok (.aload_n 0, 1) := by decide +kernel
theorem zd_Statements_acceptIfMay_70 : decode zc_Statements_acceptIfMay 70 = .ok (.aload_n 0, 1) := by decide +kernel
theorem zd_Statements_acceptIfMay_71 : decode zc_Statements_acceptIfMay 71 = .ok (.getfield 23, 3) := by decide +kernel
theorem zd_Statements_acceptIfMay_74 : decode zc_Statements_acceptIfMay 74 = .ok (.iload_n 1, 1) := by decide +kernel
theorem zd_Statements_acceptIfMay_75 : decode zc_Statements_acceptIfMay 75 = .ok (.invokevirtual 33, 3) := by decide +kernel
theorem zd_Statements_acceptIfMay_78 : decode zc_Statements_acceptIfMay 78 = .ok (.invokevirtual 46, 3) := by decide +kernel
theorem zd_Statements_acceptIfMay_81 : decode zc_Statements_acceptIfMay 81 = .ok (.ifCond .eq 7, 3) := by decide +kernel
theorem zd_Statements_acceptIfMay_84 : decode zc_Statements_acceptIfMay 84 = .ok (.iconst 1, 1) := by decide +kernel
theorem zd_Statements_acceptIfMay_85 : decode zc_Statements_acceptIfMay 85 = .ok (.goto 4, 3) := by decide +kernel
theorem zd_Statements_acceptIfMay_88 : decode zc_Statements_acceptIfMay 88 = .ok (.iconst 0, 1) := by decide +kernel
theorem zd_Statements_acceptIfMay_89 : decode zc_Statements_acceptIfMay 89 = .ok (.istore_n 2, 1) := by decide +kernel
theorem zd_Statements_acceptIfMay_90 : decode zc_Statements_acceptIfMay 90 = .ok (.iload_n 2, 1) := by decide +kernel
theorem zd_Statements_acceptIfMay_91 : decode zc_Statements_acceptIfMay 91 = .ok (.ifCond .eq 33, 3) := by decide +kernel
theorem zd_Statements_acceptIfMay_94 : decode zc_Statements_acceptIfMay 94 = .ok (.aload_n 0, 1) := by decide +kernel
theorem zd_Statements_acceptIfMay_95 : decode zc_Statements_acceptIfMay 95 = .ok (.getfield 23, 3) := by decide +kernel
theorem zd_Statements_acceptIfMay_98 : decode zc_Statements_acceptIfMay 98 = .ok (.aload_n 0, 1) := by decide +kernel
theorem zd_Statements_acceptIfMay_99 : decode zc_Statements_acceptIfMay 99 = .ok (.getfield 9, 3) := by decide +kernel
theorem zd_Statements_acceptIfMay_102 : decode zc_Statements_acceptIfMay 102 = .ok (.dup2, 1) := by decide +kernel
theorem zd_Statements_acceptIfMay_103 : decode zc_Statements_acceptIfMay 103 = .ok (.iaload, 1) := by decide +kernel
theorem zd_Statements_acceptIfMay_104 : decode zc_Statements_acceptIfMay 104 = .ok (.iconst 1, 1) := by decide +kernel
theorem zd_Statements_acceptIfMay_105 : decode zc_Statements_acceptIfMay 105 = .ok (.iload_n 1, 1) := by decide +kernel
theorem zd_Statements_acceptIfMay_106 : decode zc_Statements_acceptIfMay 106 = .ok (.ishl, 1) := by decide +kernel
theorem zd_Statements_acceptIfMay_107 : decode zc_Statements_acceptIfMay 107 = .ok (.ior, 1) := by decide +kernel
theorem zd_Statements_acceptIfMay_108 : decode zc_Statements_acceptIfMay 108 = .ok (.iastore, 1) := by decide +kernel
theorem zd_Statements_acceptIfMay_109 : decode zc_Statements_acceptIfMay 109 = .ok (.aload_n 0, 1) := by decide +kernel
theorem zd_Statements_acceptIfMay_110 : decode zc_Statements_acceptIfMay 110 = .ok (.getfield 19, 3) := by decide +kernel
theorem zd_Statements_acceptIfMay_113 : decode zc_Statements_acceptIfMay 113 = .ok (.aload_n 0, 1) := by decide +kernel
theorem zd_Statements_acceptIfMay_114 : decode zc_Statements_acceptIfMay 114 = .ok (.getfield 9, 3) := by decide +kernel
theorem zd_Statements_acceptIfMay_117 : decode zc_Statements_acceptIfMay 117 = .ok (.dup2, 1) := by decide +kernel
theorem zd_Statements_acceptIfMay_118 : decode zc_Statements_acceptIfMay 118 = .ok (.iaload, 1) := by decide +kernel
theorem zd_Statements_acceptIfMay_119 : decode zc_Statements_acceptIfMay 119 = .ok (.iconst 1, 1) := by decide +kernel
theorem zd_Statements_acceptIfMay_120 : decode zc_Statements_acceptIfMay 120 = .ok (.iload_n 1, 1) := by decide +kernel
theorem zd_Statements_acceptIfMay_121 : decode zc_Statements_acceptIfMay 121 = .ok (.ishl, 1) := by decide +kernel
theorem zd_Statements_acceptIfMay_122 : decode zc_Statements_acceptIfMay 122 = .ok (.ior, 1) := by decide +kernel
theorem zd_Statements_acceptIfMay_123 : decode zc_Statements_acceptIfMay 123 = .ok (.iastore, 1) := by decide +kernel
theorem zd_Statements_acceptIfMay_124 : decode zc_Statements_acceptIfMay 124 = .ok (.iload_n 2, 1) := by decide +kernel
theorem zd_Statements_acceptIfMay_125 : decode zc_Statements_acceptIfMay 125 = .ok (.ireturn, 1) := by decide +kernel
theorem zd_Agreement_acceptNominate_0 : decode zc_Agreement_acceptNominate 0 = .ok (.iconst 0, 1) := by decide +kernel
theorem zd_Agreement_acceptNominate_1 : decode zc_Agreement_acceptNominate 1 = .ok (.istore_n 1, 1) := by decide +kernel
theorem zd_Agreement_acceptNominate_2 : decode zc_Agreement_acceptNominate 2 = .ok (.iconst 1, 1) := by decide +kernel
theorem zd_Agreement_acceptNominate_3 : decode zc_Agreement_acceptNominate 3 = .ok (.istore_n 2, 1) := by decide +kernel
theorem zd_Agreement_acceptNominate_4 : decode zc_Agreement_acceptNominate 4 = .ok (.iload_n 2, 1) := by decide +kernel
theorem zd_Agreement_acceptNominate_5 : decode zc_Agreement_acceptNominate 5 = .ok (.bipush 7, 2) := by decide +kernel
theorem zd_Agreement_acceptNominate_7 : decode zc_Agreement_acceptNominate 7 = .ok (.if_icmp .gt 20, 3) := by decide +kernel
theorem zd_Agreement_acceptNominate_10 : decode zc_Agreement_acceptNominate 10 = .ok (.iload_n 1, 1) := by decide +kernel
theorem zd_Agreement_acceptNominate_11 : decode zc_Agreement_acceptNominate 11 = .ok (.aload_n 0, 1) := by decide +kernel
theorem zd_Agreement_acceptNominate_12 : decode zc_Agreement_acceptNominate 12 = .ok (.getfield 33, 3) := by decide +kernel
theorem zd_Agreement_acceptNominate_15 : decode zc_Agreement_acceptNominate 15 = .ok (.iload_n 2, 1) := by decide +kernel
theorem zd_Agreement_acceptNominate_16 : decode zc_Agreement_acceptNominate 16 = .ok (.invokevirtual 142, 3) := by decide +kernel
theorem zd_Agreement_acceptNominate_19 : decode zc_Agreement_acceptNominate 19 = .ok (.ior, 1) := by decide +kernel
theorem zd_Agreement_acceptNominate_20 : decode zc_Agreement_acceptNominate 20 = .ok (.istore_n 1, 1) := by decide +kernel
theorem zd_Agreement_acceptNominate_21 : decode zc_Agreement_acceptNominate 21 = .ok (.iinc 2 1, 3) := by decide +kernel
theorem zd_Agreement_acceptNominate_24 : decode zc_Agreement_acceptNominate 24 = .ok (.goto (-20), 3) := by decide +kernel
theorem zd_Agreement_acceptNominate_27 : decode zc_Agreement_acceptNominate 27 = .ok (.iload_n 1, 1) := by decide +kernel
theorem zd_Agreement_acceptNominate_28 : decode zc_Agreement_acceptNominate 28 = .ok (.ireturn, 1) := by decide +kernel
theorem zd_Statements_confirmIfMay_0 : decode zc_Statements_confirmIfMay 0 = .ok (.aload_n 0, 1) := by decide +kernel
theorem zd_Statements_confirmIfMay_1 : decode zc_Statements_confirmIfMay 1 = .ok (.getfield 23, 3) := by decide +kernel
theorem zd_Statements_confirmIfMay_4 : decode zc_Statements_confirmIfMay 4 = .ok (.aload_n 0, 1) := by decide +kernel
theorem zd_Statements_confirmIfMay_5 : decode zc_Statements_confirmIfMay 5 = .ok (.getfield 9, 3) := by decide +kernel
theorem zd_Statements_confirmIfMay_8 : decode zc_Statements_confirmIfMay 8 = .ok (.iaload, 1) := by decide +kernel
theorem zd_Statements_confirmIfMay_9 : decode zc_Statements_confirmIfMay 9 = .ok (.iload_n 1, 1) := by decide +kernel
theorem zd_Statements_confirmIfMay_10 : decode zc_Statements_confirmIfMay 10 = .ok (.invokestatic 29, 3) := by decide +kernel
theorem zd_Statements_confirmIfMay_13 : decode zc_Statements_confirmIfMay 13 = .ok (.ifCond .eq 18, 3) := by decide +kernel
theorem zd_Statements_confirmIfMay_16 : decode zc_Statements_confirmIfMay 16 = .ok (.aload_n 0, 1) := by decide +kernel
theorem zd_Statements_confirmIfMay_17 : decode zc_Statements_confirmIfMay 17 = .ok (.getfield 52, 3) := by decide +kernel
theorem zd_Statements_confirmIfMay_20 : decode zc_Statements_confirmIfMay 20 = .ok (.iload_n 1, 1) := by decide +kernel
theorem zd_Statements_confirmIfMay_21 : decode zc_Statements_confirmIfMay 21 = .ok (.invokestatic 29, 3) := by decide +kernel
theorem zd_Statements_confirmIfMay_24 : decode zc_Statements_confirmIfMay 24 = .ok (.ifCond .ne 7, 3) := by decide +kernel
theorem zd_Statements_confirmIfMay_27 : decode zc_Statements_confirmIfMay 27 = .ok (.iconst 1, 1) := by decide +kernel
theorem zd_Statements_confirmIfMay_28 : decode zc_Statements_confirmIfMay 28 = .ok (.goto 4, 3) := by decide +kernel
theorem zd_Statements_confirmIfMay_31 : decode zc_Statements_confirmIfMay 31 = .ok (.iconst 0, 1) := by decide +kernel
theorem zd_Statements_confirmIfMay_32 : decode zc_Statements_confirmIfMay 32 = .ok (.istore_n 2, 1) := by decide +kernel
theorem zd_Statements_confirmIfMay_33 : decode zc_Statements_confirmIfMay 33 = .ok (.iload_n 2, 1) := by decide +kernel
theorem zd_Statements_confirmIfMay_34 : decode zc_Statements_confirmIfMay 34 = .ok (.ifCond .eq 26, 3) := by decide +kernel
theorem zd_Statements_confirmIfMay_37 : decode zc_Statements_confirmIfMay 37 = .ok (.aload_n 0, 1) := by decide +kernel
theorem zd_Statements_confirmIfMay_38 : decode zc_Statements_confirmIfMay 38 = .ok (.getfield 15, 3) := by decide +kernel
theorem zd_Statements_confirmIfMay_41 : decode zc_Statements_confirmIfMay 41 = .ok (.aload_n 0, 1) := by decide +kernel
theorem zd_Statements_confirmIfMay_42 : decode zc_Statements_confirmIfMay 42 = .ok (.getfield 9, 3) := by decide +kernel
theorem zd_Statements_confirmIfMay_45 : decode zc_Statements_confirmIfMay 45 = .ok (.aload_n 0, 1) := by decide +kernel
theorem zd_Statements_confirmIfMay_46 : decode zc_Statements_confirmIfMay 46 = .ok (.aload_n 0, 1) := by decide +kernel
theorem zd_Statements_confirmIfMay_47 : decode zc_Statements_confirmIfMay 47 = .ok (.getfield 23, 3) := by decide +kernel
theorem zd_Statements_confirmIfMay_50 : decode zc_Statements_confirmIfMay 50 = .ok (.iload_n 1, 1) := by decide +kernel
theorem zd_Statements_confirmIfMay_51 : decode zc_Statements_confirmIfMay 51 = .ok (.invokevirtual 33, 3) := by decide +kernel
theorem zd_Statements_confirmIfMay_54 : decode zc_Statements_confirmIfMay 54 = .ok (.invokevirtual 37, 3) := by decide +kernel
theorem zd_Statements_confirmIfMay_57 : decode zc_Statements_confirmIfMay 57 = .ok (.ifCond .ne 5, 3) := by decide +kernel
theorem zd_Statements_confirmIfMay_60 : decode zc_Statements_confirmIfMay 60 = .ok (.iconst 0, 1) := by decide +kernel
theorem zd_Statements_confirmIfMay_61 : decode zc_Statements_confirmIfMay 61 = .ok (.ireturn, 1) := by decide +kernel
theorem zd_Statements_confirmIfMay_62 : decode zc_Statements_confirmIfMay 62 = .ok (.aload_n 0, 1) := by decide +kernel
theorem zd_Statements_confirmIfMay_63 : decode zc_Statements_confirmIfMay 63 = .ok (.dup, 1) := by decide +kernel
theorem zd_Statements_confirmIfMay_64 : decode zc_Statements_confirmIfMay 64 = .ok (.getfield 52, 3) := by decide +kernel
theorem zd_Statements_confirmIfMay_67 : decode zc_Statements_confirmIfMay 67 = .ok (.iconst 1, 1) := by decide +kernel
theorem zd_Statements_confirmIfMay_68 : decode zc_Statements_confirmIfMay 68 = .ok (.iload_n 1, 1) := by decide +kernel
theorem zd_Statements_confirmIfMay_69 : decode zc_Statements_confirmIfMay 69 = .ok (.ishl, 1) := by decide +kernel
theorem zd_Statements_confirmIfMay_70 : decode zc_Statements_confirmIfMay 70 = .ok (.ior, 1) := by decide +kernel
theorem zd_Statements_confirmIfMay_71 : decode zc_Statements_confirmIfMay 71 = .ok (.putfield 52, 3) := by decide +kernel
theorem zd_Statements_confirmIfMay_74 : decode zc_Statements_confirmIfMay 74 = .ok (.iconst 1, 1) := by decide +kernel
theorem zd_Statements_confirmIfMay_75 : decode zc_Statements_confirmIfMay 75 = .ok (.ireturn, 1) := by decide +kernel
theorem zd_Agreement_confirmNominate_0 : decode zc_Agreement_confirmNominate 0 = .ok (.iconst 0, 1) := by decide +kernel
theorem zd_Agreement_confirmNominate_1 : decode zc_Agreement_confirmNominate 1 = .ok (.istore_n 1, 1) := by decide +kernel
theorem zd_Agreement_confirmNominate_2 : decode zc_Agreement_confirmNominate 2 = .ok (.iconst 1, 1) := by decide +kernel
theorem zd_Agreement_confirmNominate_3 : decode zc_Agreement_confirmNominate 3 = .ok (.istore_n 2, 1) := by decide +kernel
theorem zd_Agreement_confirmNominate_4 : decode zc_Agreement_confirmNominate 4 = .ok (.iload_n 2, 1) := by decide +kernel
theorem zd_Agreement_confirmNominate_5 : decode zc_Agreement_confirmNominate 5 = .ok (.bipush 7, 2) := by decide +kernel
theorem zd_Agreement_confirmNominate_7 : decode zc_Agreement_confirmNominate 7 = .ok (.if_icmp .gt 20, 3) := by decide +kernel
theorem zd_Agreement_confirmNominate_10 : decode zc_Agreement_confirmNominate 10 = .ok (.iload_n 1, 1) := by decide +kernel
theorem zd_Agreement_confirmNominate_11 : decode zc_Agreement_confirmNominate 11 = .ok (.aload_n 0, 1) := by decide +kernel
theorem zd_Agreement_confirmNominate_12 : decode zc_Agreement_confirmNominate 12 = .ok (.getfield 33, 3) := by decide +kernel
theorem zd_Agreement_confirmNominate_15 : decode zc_Agreement_confirmNominate 15 = .ok (.iload_n 2, 1) := by decide +kernel
theorem zd_Agreement_confirmNominate_16 : decode zc_Agreement_confirmNominate 16 = .ok (.invokevirtual 145, 3) := by decide +kernel
theorem zd_Agreement_confirmNominate_19 : decode zc_Agreement_confirmNominate 19 = .ok (.ior, 1) := by decide +kernel
theorem zd_Agreement_confirmNominate_20 : decode zc_Agreement_confirmNominate 20 = .ok (.istore_n 1, 1) := by decide +kernel
theorem zd_Agreement_confirmNominate_21 : decode zc_Agreement_confirmNominate 21 = .ok (.iinc 2 1, 3) := by decide +kernel
theorem zd_Agreement_confirmNominate_24 : decode zc_Agreement_confirmNominate 24 = .ok (.goto (-20), 3) := by decide +kernel
theorem zd_Agreement_confirmNominate_27 : decode zc_Agreement_confirmNominate 27 = .ok (.iload_n 1, 1) := by decide +kernel
theorem zd_Agreement_confirmNominate_28 : decode zc_Agreement_confirmNominate 28 = .ok (.ireturn, 1) := by decide +kernel
theorem zd_Agreement_composite_0 : decode zc_Agreement_composite 0 = .ok (.iconst 0, 1) := by decide +kernel
theorem zd_Agreement_composite_1 : decode zc_Agreement_composite 1 = .ok (.istore_n 1, 1) := by decide +kernel
theorem zd_Agreement_composite_2 : decode zc_Agreement_composite 2 = .ok (.iconst 1, 1) := by decide +kernel
theorem zd_Agreement_composite_3 : decode zc_Agreement_composite 3 = .ok (.istore_n 2, 1) := by decide +kernel
theorem zd_Agreement_composite_4 : decode zc_Agreement_composite 4 = .ok (.iload_n 2, 1) := by decide +kernel
theorem zd_Agreement_composite_5 : decode zc_Agreement_composite 5 = .ok (.bipush 7, 2) := by decide +kernel
theorem zd_Agreement_composite_7 : decode zc_Agreement_composite 7 = .ok (.if_icmp .gt 27, 3) := by decide +kernel
theorem zd_Agreement_composite_10 : decode zc_Agreement_composite 10 = .ok (.aload_n 0, 1) := by decide +kernel
theorem zd_Agreement_composite_11 : decode zc_Agreement_composite 11 = .ok (.getfield 33, 3) := by decide +kernel
theorem zd_Agreement_composite_14 : decode zc_Agreement_composite 14 = .ok (.getfield 131, 3) := by decide +kernel
theorem zd_Agreement_composite_17 : decode zc_Agreement_composite 17 = .ok (.iload_n 2, 1) := by decide +kernel
theorem zd_Agreement_composite_18 : decode zc_Agreement_composite 18 = .ok (.invokestatic 116, 3) := by decide +kernel
theorem zd_Agreement_composite_21 : decode zc_Agreement_composite 21 = .ok (.ifCond .eq 7, 3) := by decide +kernel
theorem zd_Agreement_composite_24 : decode zc_Agreement_composite 24 = .ok (.iload_n 1, 1) := by decide +kernel
theorem zd_Agreement_composite_25 : decode zc_Agreement_composite 25 = .ok (.iload_n 2, 1) := by decide +kernel
theorem zd_Agreement_composite_26 : decode zc_Agreement_composite 26 = .ok (.ior, 1) := by decide +kernel
theorem zd_Agreement_composite_27 : decode zc_Agreement_composite 27 = .ok (.istore_n 1, 1) := by decide +kernel
theorem zd_Agreement_composite_28 : decode zc_Agreement_composite 28 = .ok (.iinc 2 1, 3) := by decide +kernel
theorem zd_Agreement_composite_31 : decode zc_Agreement_composite 31 = .ok (.goto (-27), 3) := by decide +kernel
theorem zd_Agreement_composite_34 : decode zc_Agreement_composite 34 = .ok (.iload_n 1, 1) := by decide +kernel
theorem zd_Agreement_composite_35 : decode zc_Agreement_composite 35 = .ok (.ireturn, 1) := by decide +kernel
theorem zd_TL_valueOf_0 : decode zc_TL_valueOf 0 = .ok (.iload_n 0, 1) := by decide +kernel
theorem zd_TL_valueOf_1 : decode zc_TL_valueOf 1 = .ok (.bipush 7, 2) := by decide +kernel
theorem zd_TL_valueOf_3 : decode zc_TL_valueOf 3 = .ok (.irem, 1) := by decide +kernel
theorem zd_TL_valueOf_4 : decode zc_TL_valueOf 4 = .ok (.iconst 1, 1) := by decide +kernel
theorem zd_TL_valueOf_5 : decode zc_TL_valueOf 5 = .ok (.iadd, 1) := by decide +kernel
theorem zd_TL_valueOf_6 : decode zc_TL_valueOf 6 = .ok (.ireturn, 1) := by decide +kernel
theorem zd_Agreement_valueToPrepare_0 : decode zc_Agreement_valueToPrepare 0 = .ok (.bipush 27, 2) := by decide +kernel
theorem zd_Agreement_valueToPrepare_2 : decode zc_Agreement_valueToPrepare 2 = .ok (.istore_n 1, 1) := by decide +kernel
theorem zd_Agreement_valueToPrepare_3 : decode zc_Agreement_valueToPrepare 3 = .ok (.iload_n 1, 1) := by decide +kernel
theorem zd_Agreement_valueToPrepare_4 : decode zc_Agreement_valueToPrepare 4 = .ok (.ifCond .lt 28, 3) := by decide +kernel
theorem zd_Agreement_valueToPrepare_7 : decode zc_Agreement_valueToPrepare 7 = .ok (.aload_n 0, 1) := by decide +kernel
theorem zd_Agreement_valueToPrepare_8 : decode zc_Agreement_valueToPrepare 8 = .ok (.getfield 37, 3) := by decide +kernel
theorem zd_Agreement_valueToPrepare_11 : decode zc_Agreement_valueToPrepare 11 = .ok (.getfield 131, 3) := by decide +kernel
theorem zd_Agreement_valueToPrepare_14 : decode zc_Agreement_valueToPrepare 14 = .ok (.iload_n 1, 1) := by decide +kernel
theorem zd_Agreement_valueToPrepare_15 : decode zc_Agreement_valueToPrepare 15 = .ok (.invokestatic 116, 3) := by decide +kernel
theorem zd_Agreement_valueToPrepare_18 : decode zc_Agreement_valueToPrepare 18 = .ok (.ifCond .eq 8, 3) := by decide +kernel
theorem zd_Agreement_valueToPrepare_21 : decode zc_Agreement_valueToPrepare 21 = .ok (.iload_n 1, 1) := by decide +kernel
theorem zd_Agreement_valueToPrepare_22 : decode zc_Agreement_valueToPrepare 22 = .ok (.invokestatic 134, 3) := by decide +kernel
theorem zd_Agreement_valueToPrepare_25 : decode zc_Agreement_valueToPrepare 25 = .ok (.ireturn, 1) := by decide +kernel
theorem zd_Agreement_valueToPrepare_26 : decode zc_Agreement_valueToPrepare 26 = .ok (.iinc 1 (-1), 3) := by decide +kernel
theorem zd_Agreement_valueToPrepare_29 : decode zc_Agreement_valueToPrepare 29 = .ok (.goto (-26), 3) := by decide +kernel
theorem zd_Agreement_valueToPrepare_32 : decode zc_Agreement_valueToPrepare 32 = .ok (.aload_n 0, 1) := by decide +kernel
theorem zd_Agreement_valueToPrepare_33 : decode zc_Agreement_valueToPrepare 33 = .ok (.invokevirtual 52, 3) := by decide +kernel
theorem zd_Agreement_valueToPrepare_36 : decode zc_Agreement_valueToPrepare 36 = .ok (.ireturn, 1) := by decide +kernel
theorem zd_TL_ballotOf_0 : decode zc_TL_ballotOf 0 = .ok (.bipush 7, 2) := by decide +kernel
theorem zd_TL_ballotOf_2 : decode zc_TL_ballotOf 2 = .ok (.iload_n 0, 1) := by decide +kernel
theorem zd_TL_ballotOf_3 : decode zc_TL_ballotOf 3 = .ok (.iconst 1, 1) := by decide +kernel
theorem zd_TL_ballotOf_4 : decode zc_TL_ballotOf 4 = .ok (.isub, 1) := by decide +kernel
theorem zd_TL_ballotOf_5 : decode zc_TL_ballotOf 5 = .ok (.imul, 1) := by decide +kernel
theorem zd_TL_ballotOf_6 : decode zc_TL_ballotOf 6 = .ok (.iload_n 1, 1) := by decide +kernel
theorem zd_TL_ballotOf_7 : decode zc_TL_ballotOf 7 = .ok (.iadd, 1) := by decide +kernel
theorem zd_TL_ballotOf_8 : decode zc_TL_ballotOf 8 = .ok (.iconst 1, 1) := by decide +kernel
theorem zd_TL_ballotOf_9 : decode zc_TL_ballotOf 9 = .ok (.isub, 1) := by decide +kernel
theorem zd_TL_ballotOf_10 : decode zc_TL_ballotOf 10 = .ok (.ireturn, 1) := by decide +kernel
theorem zd_Agreement_raiseCounter_0 : decode zc_Agreement_raiseCounter 0 = .ok (.aload_n 0, 1) := by decide +kernel
theorem zd_Agreement_raiseCounter_1 : decode zc_Agreement_raiseCounter 1 = .ok (.dup, 1) := by decide +kernel
theorem zd_Agreement_raiseCounter_2 : decode zc_Agreement_raiseCounter 2 = .ok (.getfield 49, 3) := by decide +kernel
theorem zd_Agreement_raiseCounter_5 : decode zc_Agreement_raiseCounter 5 = .ok (.iconst 1, 1) := by decide +kernel
theorem zd_Agreement_raiseCounter_6 : decode zc_Agreement_raiseCounter 6 = .ok (.iadd, 1) := by decide +kernel
theorem zd_Agreement_raiseCounter_7 : decode zc_Agreement_raiseCounter 7 = .ok (.putfield 49, 3) := by decide +kernel
theorem zd_Agreement_raiseCounter_10 : decode zc_Agreement_raiseCounter 10 = .ok (.aload_n 0, 1) := by decide +kernel
theorem zd_Agreement_raiseCounter_11 : decode zc_Agreement_raiseCounter 11 = .ok (.getfield 37, 3) := by decide +kernel
theorem zd_Agreement_raiseCounter_14 : decode zc_Agreement_raiseCounter 14 = .ok (.aload_n 0, 1) := by decide +kernel
theorem zd_Agreement_raiseCounter_15 : decode zc_Agreement_raiseCounter 15 = .ok (.getfield 49, 3) := by decide +kernel
theorem zd_Agreement_raiseCounter_18 : decode zc_Agreement_raiseCounter 18 = .ok (.aload_n 0, 1) := by decide +kernel
theorem zd_Agreement_raiseCounter_19 : decode zc_Agreement_raiseCounter 19 = .ok (.invokevirtual 120, 3) := by decide +kernel
theorem zd_Agreement_raiseCounter_22 : decode zc_Agreement_raiseCounter 22 = .ok (.invokestatic 123, 3) := by decide +kernel
theorem zd_Agreement_raiseCounter_25 : decode zc_Agreement_raiseCounter 25 = .ok (.invokevirtual 127, 3) := by decide +kernel
theorem zd_Agreement_raiseCounter_28 : decode zc_Agreement_raiseCounter 28 = .ok (.pop, 1) := by decide +kernel
theorem zd_Agreement_raiseCounter_29 : decode zc_Agreement_raiseCounter 29 = .ok (.return_, 1) := by decide +kernel
theorem zd_Agreement_beginPrepare_0 : decode zc_Agreement_beginPrepare 0 = .ok (.aload_n 0, 1) := by decide +kernel
theorem zd_Agreement_beginPrepare_1 : decode zc_Agreement_beginPrepare 1 = .ok (.getfield 49, 3) := by decide +kernel
theorem zd_Agreement_beginPrepare_4 : decode zc_Agreement_beginPrepare 4 = .ok (.ifCond .ne 10, 3) := by decide +kernel
theorem zd_Agreement_beginPrepare_7 : decode zc_Agreement_beginPrepare 7 = .ok (.aload_n 0, 1) := by decide +kernel
theorem zd_Agreement_beginPrepare_8 : decode zc_Agreement_beginPrepare 8 = .ok (.invokevirtual 52, 3) := by decide +kernel
theorem zd_Agreement_beginPrepare_11 : decode zc_Agreement_beginPrepare 11 = .ok (.ifCond .ne 5, 3) := by decide +kernel
theorem zd_Agreement_beginPrepare_14 : decode zc_Agreement_beginPrepare 14 = .ok (.iconst 0, 1) := by decide +kernel
theorem zd_Agreement_beginPrepare_15 : decode zc_Agreement_beginPrepare 15 = .ok (.ireturn, 1) := by decide +kernel
theorem zd_Agreement_beginPrepare_16 : decode zc_Agreement_beginPrepare 16 = .ok (.aload_n 0, 1) := by decide +kernel
theorem zd_Agreement_beginPrepare_17 : decode zc_Agreement_beginPrepare 17 = .ok (.invokevirtual 62, 3) := by decide +kernel
theorem zd_Agreement_beginPrepare_20 : decode zc_Agreement_beginPrepare 20 = .ok (.iconst 1, 1) := by decide +kernel
theorem zd_Agreement_beginPrepare_21 : decode zc_Agreement_beginPrepare 21 = .ok (.ireturn, 1) := by decide +kernel
theorem zd_TL_otherValued_0 : decode zc_TL_otherValued 0 = .ok (.ldc 142, 2) := by decide +kernel
theorem zd_TL_otherValued_2 : decode zc_TL_otherValued 2 = .ok (.ldc 192, 2) := by decide +kernel
theorem zd_TL_otherValued_4 : decode zc_TL_otherValued 4 = .ok (.iload_n 0, 1) := by decide +kernel
theorem zd_TL_otherValued_5 : decode zc_TL_otherValued 5 = .ok (.bipush 7, 2) := by decide +kernel
theorem zd_TL_otherValued_7 : decode zc_TL_otherValued 7 = .ok (.irem, 1) := by decide +kernel
theorem zd_TL_otherValued_8 : decode zc_TL_otherValued 8 = .ok (.ishl, 1) := by decide +kernel
theorem zd_TL_otherValued_9 : decode zc_TL_otherValued 9 = .ok (.iconst (-1), 1) := by decide +kernel
theorem zd_TL_otherValued_10 : decode zc_TL_otherValued 10 = .ok (.ixor, 1) := by decide +kernel
theorem zd_TL_otherValued_11 : decode zc_TL_otherValued 11 = .ok (.iand, 1) := by decide +kernel
theorem zd_TL_otherValued_12 : decode zc_TL_otherValued 12 = .ok (.ireturn, 1) := by decide +kernel
theorem zd_TL_abortedBy_0 : decode zc_TL_abortedBy 0 = .ok (.iload_n 0, 1) := by decide +kernel
theorem zd_TL_abortedBy_1 : decode zc_TL_abortedBy 1 = .ok (.invokestatic 193, 3) := by decide +kernel
theorem zd_TL_abortedBy_4 : decode zc_TL_abortedBy 4 = .ok (.iconst 1, 1) := by decide +kernel
theorem zd_TL_abortedBy_5 : decode zc_TL_abortedBy 5 = .ok (.iload_n 0, 1) := by decide +kernel
theorem zd_TL_abortedBy_6 : decode zc_TL_abortedBy 6 = .ok (.ishl, 1) := by decide +kernel
theorem zd_TL_abortedBy_7 : decode zc_TL_abortedBy 7 = .ok (.iconst 1, 1) := by decide +kernel
theorem zd_TL_abortedBy_8 : decode zc_TL_abortedBy 8 = .ok (.isub, 1) := by decide +kernel
theorem zd_TL_abortedBy_9 : decode zc_TL_abortedBy 9 = .ok (.iand, 1) := by decide +kernel
theorem zd_TL_abortedBy_10 : decode zc_TL_abortedBy 10 = .ok (.ireturn, 1) := by decide +kernel
theorem zd_Agreement_acceptPrepare_0 : decode zc_Agreement_acceptPrepare 0 = .ok (.iconst 0, 1) := by decide +kernel
theorem zd_Agreement_acceptPrepare_1 : decode zc_Agreement_acceptPrepare 1 = .ok (.istore_n 1, 1) := by decide +kernel
theorem zd_Agreement_acceptPrepare_2 : decode zc_Agreement_acceptPrepare 2 = .ok (.iconst 0, 1) := by decide +kernel
theorem zd_Agreement_acceptPrepare_3 : decode zc_Agreement_acceptPrepare 3 = .ok (.istore_n 2, 1) := by decide +kernel
theorem zd_Agreement_acceptPrepare_4 : decode zc_Agreement_acceptPrepare 4 = .ok (.iload_n 2, 1) := by decide +kernel
theorem zd_Agreement_acceptPrepare_5 : decode zc_Agreement_acceptPrepare 5 = .ok (.bipush 28, 2) := by decide +kernel
theorem zd_Agreement_acceptPrepare_7 : decode zc_Agreement_acceptPrepare 7 = .ok (.if_icmp .ge 40, 3) := by decide +kernel
theorem zd_Agreement_acceptPrepare_10 : decode zc_Agreement_acceptPrepare 10 = .ok (.aload_n 0, 1) := by decide +kernel
theorem zd_Agreement_acceptPrepare_11 : decode zc_Agreement_acceptPrepare 11 = .ok (.getfield 40, 3) := by decide +kernel
theorem zd_Agreement_acceptPrepare_14 : decode zc_Agreement_acceptPrepare 14 = .ok (.getfield 79, 3) := by decide +kernel
theorem zd_Agreement_acceptPrepare_17 : decode zc_Agreement_acceptPrepare 17 = .ok (.aload_n 0, 1) := by decide +kernel
theorem zd_Agreement_acceptPrepare_18 : decode zc_Agreement_acceptPrepare 18 = .ok (.getfield 9, 3) := by decide +kernel
theorem zd_Agreement_acceptPrepare_21 : decode zc_Agreement_acceptPrepare 21 = .ok (.iaload, 1) := by decide +kernel
theorem zd_Agreement_acceptPrepare_22 : decode zc_Agreement_acceptPrepare 22 = .ok (.iload_n 2, 1) := by decide +kernel
theorem zd_Agreement_acceptPrepare_23 : decode zc_Agreement_acceptPrepare 23 = .ok (.invokestatic 148, 3) := by decide +kernel
theorem zd_Agreement_acceptPrepare_26 : decode zc_Agreement_acceptPrepare 26 = .ok (.iand, 1) := by decide +kernel
theorem zd_Agreement_acceptPrepare_27 : decode zc_Agreement_acceptPrepare 27 = .ok (.ifCond .ne 14, 3) := by decide +kernel
theorem zd_Agreement_acceptPrepare_30 : decode zc_Agreement_acceptPrepare 30 = .ok (.iload_n 1, 1) := by decide +kernel
theorem zd_Agreement_acceptPrepare_31 : decode zc_Agreement_acceptPrepare 31 = .ok (.aload_n 0, 1) := by decide +kernel
theorem zd_Agreement_acceptPrepare_32 : decode zc_Agreement_acceptPrepare 32 = .ok (.getfield 37, 3) := by decide +kernel
theorem zd_Agreement_acceptPrepare_35 : decode zc_Agreement_acceptPrepare 35 = .ok (.iload_n 2, 1) := by decide +kernel
theorem zd_Agreement_acceptPrepare_36 : decode zc_Agreement_acceptPrepare 36 = .ok (.invokevirtual 142, 3) := by decide +kernel
theorem zd_Agreement_acceptPrepare_39 : decode zc_Agreement_acceptPrepare 39 = .ok (.ior, 1) := by decide +kernel
theorem zd_Agreement_acceptPrepare_40 : decode zc_Agreement_acceptPrepare 40 = .ok (.istore_n 1, 1) := by decide +kernel
theorem zd_Agreement_acceptPrepare_41 : decode zc_Agreement_acceptPrepare 41 = .ok (.iinc 2 1, 3) := by decide +kernel
theorem zd_Agreement_acceptPrepare_44 : decode zc_Agreement_acceptPrepare 44 = .ok (.goto (-40), 3) := by decide +kernel
theorem zd_Agreement_acceptPrepare_47 : decode zc_Agreement_acceptPrepare 47 = .ok (.iload_n 1, 1) := by decide +kernel
theorem zd_Agreement_acceptPrepare_48 : decode zc_Agreement_acceptPrepare 48 = .ok (.ireturn, 1) := by decide +kernel
theorem zd_Agreement_confirmPrepare_0 : decode zc_Agreement_confirmPrepare 0 = .ok (.iconst 0, 1) := by decide +kernel
theorem zd_Agreement_confirmPrepare_1 : decode zc_Agreement_confirmPrepare 1 = .ok (.istore_n 1, 1) := by decide +kernel
theorem zd_Agreement_confirmPrepare_2 : decode zc_Agreement_confirmPrepare 2 = .ok (.iconst 0, 1) := by decide +kernel
theorem zd_Agreement_confirmPrepare_3 : decode zc_Agreement_confirmPrepare 3 = .ok (.istore_n 2, 1) := by decide +kernel
theorem zd_Agreement_confirmPrepare_4 : decode zc_Agreement_confirmPrepare 4 = .ok (.iload_n 2, 1) := by decide +kernel
theorem zd_Agreement_confirmPrepare_5 : decode zc_Agreement_confirmPrepare 5 = .ok (.bipush 28, 2) := by decide +kernel
theorem zd_Agreement_confirmPrepare_7 : decode zc_Agreement_confirmPrepare 7 = .ok (.if_icmp .ge 20, 3) := by decide +kernel
theorem zd_Agreement_confirmPrepare_10 : decode zc_Agreement_confirmPrepare 10 = .ok (.iload_n 1, 1) := by decide +kernel
theorem zd_Agreement_confirmPrepare_11 : decode zc_Agreement_confirmPrepare 11 = .ok (.aload_n 0, 1) := by decide +kernel
theorem zd_Agreement_confirmPrepare_12 : decode zc_Agreement_confirmPrepare 12 = .ok (.getfield 37, 3) := by decide +kernel
theorem zd_Agreement_confirmPrepare_15 : decode zc_Agreement_confirmPrepare 15 = .ok (.iload_n 2, 1) := by decide +kernel
theorem zd_Agreement_confirmPrepare_16 : decode zc_Agreement_confirmPrepare 16 = .ok (.invokevirtual 145, 3) := by decide +kernel
theorem zd_Agreement_confirmPrepare_19 : decode zc_Agreement_confirmPrepare 19 = .ok (.ior, 1) := by decide +kernel
theorem zd_Agreement_confirmPrepare_20 : decode zc_Agreement_confirmPrepare 20 = .ok (.istore_n 1, 1) := by decide +kernel
theorem zd_Agreement_confirmPrepare_21 : decode zc_Agreement_confirmPrepare 21 = .ok (.iinc 2 1, 3) := by decide +kernel
theorem zd_Agreement_confirmPrepare_24 : decode zc_Agreement_confirmPrepare 24 = .ok (.goto (-20), 3) := by decide +kernel
theorem zd_Agreement_confirmPrepare_27 : decode zc_Agreement_confirmPrepare 27 = .ok (.iload_n 1, 1) := by decide +kernel
theorem zd_Agreement_confirmPrepare_28 : decode zc_Agreement_confirmPrepare 28 = .ok (.ireturn, 1) := by decide +kernel
theorem zd_TL_abortersOf_0 : decode zc_TL_abortersOf 0 = .ok (.iload_n 0, 1) := by decide +kernel
theorem zd_TL_abortersOf_1 : decode zc_TL_abortersOf 1 = .ok (.invokestatic 193, 3) := by decide +kernel
theorem zd_TL_abortersOf_4 : decode zc_TL_abortersOf 4 = .ok (.iconst 1, 1) := by decide +kernel
theorem zd_TL_abortersOf_5 : decode zc_TL_abortersOf 5 = .ok (.iload_n 0, 1) := by decide +kernel
theorem zd_TL_abortersOf_6 : decode zc_TL_abortersOf 6 = .ok (.ishl, 1) := by decide +kernel
theorem zd_TL_abortersOf_7 : decode zc_TL_abortersOf 7 = .ok (.iconst 1, 1) := by decide +kernel
theorem zd_TL_abortersOf_8 : decode zc_TL_abortersOf 8 = .ok (.isub, 1) := by decide +kernel
theorem zd_TL_abortersOf_9 : decode zc_TL_abortersOf 9 = .ok (.iconst (-1), 1) := by decide +kernel
theorem zd_TL_abortersOf_10 : decode zc_TL_abortersOf 10 = .ok (.ixor, 1) := by decide +kernel
theorem zd_TL_abortersOf_11 : decode zc_TL_abortersOf 11 = .ok (.iand, 1) := by decide +kernel
theorem zd_TL_abortersOf_12 : decode zc_TL_abortersOf 12 = .ok (.ireturn, 1) := by decide +kernel
theorem zd_Agreement_voteCommit_0 : decode zc_Agreement_voteCommit 0 = .ok (.iconst 0, 1) := by decide +kernel
theorem zd_Agreement_voteCommit_1 : decode zc_Agreement_voteCommit 1 = .ok (.istore_n 1, 1) := by decide +kernel
theorem zd_Agreement_voteCommit_2 : decode zc_Agreement_voteCommit 2 = .ok (.iconst 0, 1) := by decide +kernel
theorem zd_Agreement_voteCommit_3 : decode zc_Agreement_voteCommit 3 = .ok (.istore_n 2, 1) := by decide +kernel
theorem zd_Agreement_voteCommit_4 : decode zc_Agreement_voteCommit 4 = .ok (.iload_n 2, 1) := by decide +kernel
theorem zd_Agreement_voteCommit_5 : decode zc_Agreement_voteCommit 5 = .ok (.bipush 28, 2) := by decide +kernel
theorem zd_Agreement_voteCommit_7 : decode zc_Agreement_voteCommit 7 = .ok (.if_icmp .ge 54, 3) := by decide +kernel
theorem zd_Agreement_voteCommit_10 : decode zc_Agreement_voteCommit 10 = .ok (.aload_n 0, 1) := by decide +kernel
theorem zd_Agreement_voteCommit_11 : decode zc_Agreement_voteCommit 11 = .ok (.getfield 37, 3) := by decide +kernel
theorem zd_Agreement_voteCommit_14 : decode zc_Agreement_voteCommit 14 = .ok (.getfield 131, 3) := by decide +kernel
theorem zd_Agreement_voteCommit_17 : decode zc_Agreement_voteCommit 17 = .ok (.iload_n 2, 1) := by decide +kernel
theorem zd_Agreement_voteCommit_18 : decode zc_Agreement_voteCommit 18 = .ok (.invokestatic 116, 3) := by decide +kernel
theorem zd_Agreement_voteCommit_21 : decode zc_Agreement_voteCommit 21 = .ok (.ifCond .eq 34, 3) := by decide +kernel
theorem zd_Agreement_voteCommit_24 : decode zc_Agreement_voteCommit 24 = .ok (.aload_n 0, 1) := by decide +kernel
theorem zd_Agreement_voteCommit_25 : decode zc_Agreement_voteCommit 25 = .ok (.getfield 37, 3) := by decide +kernel
theorem zd_Agreement_voteCommit_28 : decode zc_Agreement_voteCommit 28 = .ok (.getfield 69, 3) := by decide +kernel
theorem zd_Agreement_voteCommit_31 : decode zc_Agreement_voteCommit 31 = .ok (.aload_n 0, 1) := by decide +kernel
theorem zd_Agreement_voteCommit_32 : decode zc_Agreement_voteCommit 32 = .ok (.getfield 9, 3) := by decide +kernel
theorem zd_Agreement_voteCommit_35 : decode zc_Agreement_voteCommit 35 = .ok (.iaload, 1) := by decide +kernel
theorem zd_Agreement_voteCommit_36 : decode zc_Agreement_voteCommit 36 = .ok (.iload_n 2, 1) := by decide +kernel
theorem zd_Agreement_voteCommit_37 : decode zc_Agreement_voteCommit 37 = .ok (.invokestatic 151, 3) := by decide +kernel
theorem zd_Agreement_voteCommit_40 : decode zc_Agreement_voteCommit 40 = .ok (.iand, 1) := by decide +kernel
theorem zd_Agreement_voteCommit_41 : decode zc_Agreement_voteCommit 41 = .ok (.ifCond .ne 14, 3) := by decide +kernel
theorem zd_Agreement_voteCommit_44 : decode zc_Agreement_voteCommit 44 = .ok (.iload_n 1, 1) := by decide +kernel
theorem zd_Agreement_voteCommit_45 : decode zc_Agreement_voteCommit 45 = .ok (.aload_n 0, 1) := by decide +kernel
theorem zd_Agreement_voteCommit_46 : decode zc_Agreement_voteCommit 46 = .ok (.getfield 40, 3) := by decide +kernel
theorem zd_Agreement_voteCommit_49 : decode zc_Agreement_voteCommit 49 = .ok (.iload_n 2, 1) := by decide +kernel
theorem zd_Agreement_voteCommit_50 : decode zc_Agreement_voteCommit 50 = .ok (.invokevirtual 127, 3) := by decide +kernel
theorem zd_Agreement_voteCommit_53 : decode zc_Agreement_voteCommit 53 = .ok (.ior, 1) := by decide +kernel
theorem zd_Agreement_voteCommit_54 : decode zc_Agreement_voteCommit 54 = .ok (.istore_n 1, 1) := by decide +kernel
theorem zd_Agreement_voteCommit_55 : decode zc_Agreement_voteCommit 55 = .ok (.iinc 2 1, 3) := by decide +kernel
theorem zd_Agreement_voteCommit_58 : decode zc_Agreement_voteCommit 58 = .ok (.goto (-54), 3) := by decide +kernel
theorem zd_Agreement_voteCommit_61 : decode zc_Agreement_voteCommit 61 = .ok (.iload_n 1, 1) := by decide +kernel
theorem zd_Agreement_voteCommit_62 : decode zc_Agreement_voteCommit 62 = .ok (.ireturn, 1) := by decide +kernel
theorem zd_Agreement_settleCommit_0 : decode zc_Agreement_settleCommit 0 = .ok (.iconst 0, 1) := by decide +kernel
theorem zd_Agreement_settleCommit_1 : decode zc_Agreement_settleCommit 1 = .ok (.istore_n 1, 1) := by decide +kernel
theorem zd_Agreement_settleCommit_2 : decode zc_Agreement_settleCommit 2 = .ok (.iconst 0, 1) := by decide +kernel
theorem zd_Agreement_settleCommit_3 : decode zc_Agreement_settleCommit 3 = .ok (.istore_n 2, 1) := by decide +kernel
theorem zd_Agreement_settleCommit_4 : decode zc_Agreement_settleCommit 4 = .ok (.iload_n 2, 1) := by decide +kernel
theorem zd_Agreement_settleCommit_5 : decode zc_Agreement_settleCommit 5 = .ok (.bipush 28, 2) := by decide +kernel
theorem zd_Agreement_settleCommit_7 : decode zc_Agreement_settleCommit 7 = .ok (.if_icmp .ge 66, 3) := by decide +kernel
theorem zd_Agreement_settleCommit_10 : decode zc_Agreement_settleCommit 10 = .ok (.aload_n 0, 1) := by decide +kernel
theorem zd_Agreement_settleCommit_11 : decode zc_Agreement_settleCommit 11 = .ok (.getfield 83, 3) := by decide +kernel
theorem zd_Agreement_settleCommit_14 : decode zc_Agreement_settleCommit 14 = .ok (.ifCond .ne 59, 3) := by decide +kernel
theorem zd_Agreement_settleCommit_17 : decode zc_Agreement_settleCommit 17 = .ok (.aload_n 0, 1) := by decide +kernel
theorem zd_Agreement_settleCommit_18 : decode zc_Agreement_settleCommit 18 = .ok (.getfield 37, 3) := by decide +kernel
theorem zd_Agreement_settleCommit_21 : decode zc_Agreement_settleCommit 21 = .ok (.getfield 79, 3) := by decide +kernel
theorem zd_Agreement_settleCommit_24 : decode zc_Agreement_settleCommit 24 = .ok (.aload_n 0, 1) := by decide +kernel
theorem zd_Agreement_settleCommit_25 : decode zc_Agreement_settleCommit 25 = .ok (.getfield 9, 3) := by decide +kernel
theorem zd_Agreement_settleCommit_28 : decode zc_Agreement_settleCommit 28 = .ok (.iaload, 1) := by decide +kernel
theorem zd_Agreement_settleCommit_29 : decode zc_Agreement_settleCommit 29 = .ok (.iload_n 2, 1) := by decide +kernel
theorem zd_Agreement_settleCommit_30 : decode zc_Agreement_settleCommit 30 = .ok (.invokestatic 151, 3) := by decide +kernel
theorem zd_Agreement_settleCommit_33 : decode zc_Agreement_settleCommit 33 = .ok (.iand, 1) := by decide +kernel
theorem zd_Agreement_settleCommit_34 : decode zc_Agreement_settleCommit 34 = .ok (.ifCond .ne 14, 3) := by decide +kernel
theorem zd_Agreement_settleCommit_37 : decode zc_Agreement_settleCommit 37 = .ok (.iload_n 1, 1) := by decide +kernel
theorem zd_Agreement_settleCommit_38 : decode zc_Agreement_settleCommit 38 = .ok (.aload_n 0, 1) := by decide +kernel
theorem zd_Agreement_settleCommit_39 : decode zc_Agreement_settleCommit 39 = .ok (.getfield 40, 3) := by decide +kernel
theorem zd_Agreement_settleCommit_42 : decode zc_Agreement_settleCommit 42 = .ok (.iload_n 2, 1) := by decide +kernel
theorem zd_Agreement_settleCommit_43 : decode zc_Agreement_settleCommit 43 = .ok (.invokevirtual 142, 3) := by decide +kernel
theorem zd_Agreement_settleCommit_46 : decode zc_Agreement_settleCommit 46 = .ok (.ior, 1) := by decide +kernel
theorem zd_Agreement_settleCommit_47 : decode zc_Agreement_settleCommit 47 = .ok (.istore_n 1, 1) := by decide +kernel
theorem zd_Agreement_settleCommit_48 : decode zc_Agreement_settleCommit 48 = .ok (.aload_n 0, 1) := by decide +kernel
theorem zd_Agreement_settleCommit_49 : decode zc_Agreement_settleCommit 49 = .ok (.getfield 40, 3) := by decide +kernel
theorem zd_Agreement_settleCommit_52 : decode zc_Agreement_settleCommit 52 = .ok (.iload_n 2, 1) := by decide +kernel
theorem zd_Agreement_settleCommit_53 : decode zc_Agreement_settleCommit 53 = .ok (.invokevirtual 145, 3) := by decide +kernel
theorem zd_Agreement_settleCommit_56 : decode zc_Agreement_settleCommit 56 = .ok (.ifCond .eq 11, 3) := by decide +kernel
theorem zd_Agreement_settleCommit_59 : decode zc_Agreement_settleCommit 59 = .ok (.aload_n 0, 1) := by decide +kernel
theorem zd_Agreement_settleCommit_60 : decode zc_Agreement_settleCommit 60 = .ok (.iload_n 2, 1) := by decide +kernel
theorem zd_Agreement_settleCommit_61 : decode zc_Agreement_settleCommit 61 = .ok (.invokestatic 134, 3) := by decide +kernel
theorem zd_Agreement_settleCommit_64 : decode zc_Agreement_settleCommit 64 = .ok (.putfield 83, 3) := by decide +kernel
theorem zd_Agreement_settleCommit_67 : decode zc_Agreement_settleCommit 67 = .ok (.iinc 2 1, 3) := by decide +kernel
theorem zd_Agreement_settleCommit_70 : decode zc_Agreement_settleCommit 70 = .ok (.goto (-66), 3) := by decide +kernel
theorem zd_Agreement_settleCommit_73 : decode zc_Agreement_settleCommit 73 = .ok (.iload_n 1, 1) := by decide +kernel
theorem zd_Agreement_settleCommit_74 : decode zc_Agreement_settleCommit 74 = .ok (.ireturn, 1) := by decide +kernel
theorem zd_Agreement_stir_0 : decode zc_Agreement_stir 0 = .ok (.iconst 1, 1) := by decide +kernel
theorem zd_Agreement_stir_1 : decode zc_Agreement_stir 1 = .ok (.istore_n 1, 1) := by decide +kernel
theorem zd_Agreement_stir_2 : decode zc_Agreement_stir 2 = .ok (.iconst 0, 1) := by decide +kernel
theorem zd_Agreement_stir_3 : decode zc_Agreement_stir 3 = .ok (.istore_n 2, 1) := by decide +kernel
theorem zd_Agreement_stir_4 : decode zc_Agreement_stir 4 = .ok (.iload_n 2, 1) := by decide +kernel
theorem zd_Agreement_stir_5 : decode zc_Agreement_stir 5 = .ok (.sipush 200, 3) := by decide +kernel
theorem zd_Agreement_stir_8 : decode zc_Agreement_stir 8 = .ok (.if_icmp .ge 60, 3) := by decide +kernel
theorem zd_Agreement_stir_11 : decode zc_Agreement_stir 11 = .ok (.iload_n 1, 1) := by decide +kernel
theorem zd_Agreement_stir_12 : decode zc_Agreement_stir 12 = .ok (.ifCond .eq 56, 3) := by decide +kernel
theorem zd_Agreement_stir_15 : decode zc_Agreement_stir 15 = .ok (.aload_n 0, 1) := by decide +kernel
theorem zd_Agreement_stir_16 : decode zc_Agreement_stir 16 = .ok (.getfield 83, 3) := by decide +kernel
theorem zd_Agreement_stir_19 : decode zc_Agreement_stir 19 = .ok (.ifCond .ne 49, 3) := by decide +kernel
theorem zd_Agreement_stir_22 : decode zc_Agreement_stir 22 = .ok (.aload_n 0, 1) := by decide +kernel
theorem zd_Agreement_stir_23 : decode zc_Agreement_stir 23 = .ok (.invokevirtual 86, 3) := by decide +kernel
theorem zd_Agreement_stir_26 : decode zc_Agreement_stir 26 = .ok (.aload_n 0, 1) := by decide +kernel
theorem zd_Agreement_stir_27 : decode zc_Agreement_stir 27 = .ok (.invokevirtual 90, 3) := by decide +kernel
theorem zd_Agreement_stir_30 : decode zc_Agreement_stir 30 = .ok (.ior, 1) := by decide +kernel
theorem zd_Agreement_stir_31 : decode zc_Agreement_stir 31 = .ok (.aload_n 0, 1) := by decide +kernel
theorem zd_Agreement_stir_32 : decode zc_Agreement_stir 32 = .ok (.invokevirtual 93, 3) := by decide +kernel
theorem zd_Agreement_stir_35 : decode zc_Agreement_stir 35 = .ok (.ior, 1) := by decide +kernel
theorem zd_Agreement_stir_36 : decode zc_Agreement_stir 36 = .ok (.aload_n 0, 1) := by decide +kernel
theorem zd_Agreement_stir_37 : decode zc_Agreement_stir 37 = .ok (.invokevirtual 96, 3) := by decide +kernel
theorem zd_Agreement_stir_40 : decode zc_Agreement_stir 40 = .ok (.ior, 1) := by decide +kernel
theorem zd_Agreement_stir_41 : decode zc_Agreement_stir 41 = .ok (.aload_n 0, 1) := by decide +kernel
theorem zd_Agreement_stir_42 : decode zc_Agreement_stir 42 = .ok (.invokevirtual 99, 3) := by decide +kernel
theorem zd_Agreement_stir_45 : decode zc_Agreement_stir 45 = .ok (.ior, 1) := by decide +kernel
theorem zd_Agreement_stir_46 : decode zc_Agreement_stir 46 = .ok (.aload_n 0, 1) := by decide +kernel
theorem zd_Agreement_stir_47 : decode zc_Agreement_stir 47 = .ok (.invokevirtual 102, 3) := by decide +kernel
theorem zd_Agreement_stir_50 : decode zc_Agreement_stir 50 = .ok (.ior, 1) := by decide +kernel
theorem zd_Agreement_stir_51 : decode zc_Agreement_stir 51 = .ok (.aload_n 0, 1) := by decide +kernel
theorem zd_Agreement_stir_52 : decode zc_Agreement_stir 52 = .ok (.invokevirtual 105, 3) := by decide +kernel
theorem zd_Agreement_stir_55 : decode zc_Agreement_stir 55 = .ok (.ior, 1) := by decide +kernel
theorem zd_Agreement_stir_56 : decode zc_Agreement_stir 56 = .ok (.aload_n 0, 1) := by decide +kernel
theorem zd_Agreement_stir_57 : decode zc_Agreement_stir 57 = .ok (.invokevirtual 108, 3) := by decide +kernel
theorem zd_Agreement_stir_60 : decode zc_Agreement_stir 60 = .ok (.ior, 1) := by decide +kernel
theorem zd_Agreement_stir_61 : decode zc_Agreement_stir 61 = .ok (.istore_n 1, 1) := by decide +kernel
theorem zd_Agreement_stir_62 : decode zc_Agreement_stir 62 = .ok (.iinc 2 1, 3) := by decide +kernel
theorem zd_Agreement_stir_65 : decode zc_Agreement_stir 65 = .ok (.goto (-61), 3) := by decide +kernel
theorem zd_Agreement_stir_68 : decode zc_Agreement_stir 68 = .ok (.return_, 1) := by decide +kernel
theorem zd_Offer_init_0 : decode zc_Offer_init 0 = .ok (.aload_n 0, 1) := by decide +kernel
theorem zd_Offer_init_1 : decode zc_Offer_init 1 = .ok (.invokespecial 3, 3) := by decide +kernel
theorem zd_Offer_init_4 : decode zc_Offer_init 4 = .ok (.aload_n 0, 1) := by decide +kernel
theorem zd_Offer_init_5 : decode zc_Offer_init 5 = .ok (.iload_n 1, 1) := by decide +kernel
theorem zd_Offer_init_6 : decode zc_Offer_init 6 = .ok (.putfield 9, 3) := by decide +kernel
theorem zd_Offer_init_9 : decode zc_Offer_init 9 = .ok (.aload_n 0, 1) := by decide +kernel
theorem zd_Offer_init_10 : decode zc_Offer_init 10 = .ok (.iload_n 2, 1) := by decide +kernel
theorem zd_Offer_init_11 : decode zc_Offer_init 11 = .ok (.putfield 15, 3) := by decide +kernel
theorem zd_Offer_init_14 : decode zc_Offer_init 14 = .ok (.aload_n 0, 1) := by decide +kernel
theorem zd_Offer_init_15 : decode zc_Offer_init 15 = .ok (.iload_n 3, 1) := by decide +kernel
theorem zd_Offer_init_16 : decode zc_Offer_init 16 = .ok (.putfield 18, 3) := by decide +kernel
theorem zd_Offer_init_19 : decode zc_Offer_init 19 = .ok (.aload_n 0, 1) := by decide +kernel
theorem zd_Offer_init_20 : decode zc_Offer_init 20 = .ok (.iload 4, 2) := by decide +kernel
theorem zd_Offer_init_22 : decode zc_Offer_init 22 = .ok (.putfield 21, 3) := by decide +kernel
theorem zd_Offer_init_25 : decode zc_Offer_init 25 = .ok (.return_, 1) := by decide +kernel
theorem zd_Offer_sells_0 : decode zc_Offer_sells 0 = .ok (.aload_n 0, 1) := by decide +kernel
theorem zd_Offer_sells_1 : decode zc_Offer_sells 1 = .ok (.getfield 15, 3) := by decide +kernel
theorem zd_Offer_sells_4 : decode zc_Offer_sells 4 = .ok (.iconst 1, 1) := by decide +kernel
theorem zd_Offer_sells_5 : decode zc_Offer_sells 5 = .ok (.if_icmp .ne 7, 3) := by decide +kernel
theorem zd_Offer_sells_8 : decode zc_Offer_sells 8 = .ok (.iconst 1, 1) := by decide +kernel
theorem zd_Offer_sells_9 : decode zc_Offer_sells 9 = .ok (.goto 4, 3) := by decide +kernel
theorem zd_Offer_sells_12 : decode zc_Offer_sells 12 = .ok (.iconst 0, 1) := by decide +kernel
theorem zd_Offer_sells_13 : decode zc_Offer_sells 13 = .ok (.ireturn, 1) := by decide +kernel
theorem zd_Offer_agreesTo_0 : decode zc_Offer_agreesTo 0 = .ok (.aload_n 0, 1) := by decide +kernel
theorem zd_Offer_agreesTo_1 : decode zc_Offer_agreesTo 1 = .ok (.invokevirtual 24, 3) := by decide +kernel
theorem zd_Offer_agreesTo_4 : decode zc_Offer_agreesTo 4 = .ok (.ifCond .eq 19, 3) := by decide +kernel
theorem zd_Offer_agreesTo_7 : decode zc_Offer_agreesTo 7 = .ok (.iload_n 1, 1) := by decide +kernel
theorem zd_Offer_agreesTo_8 : decode zc_Offer_agreesTo 8 = .ok (.aload_n 0, 1) := by decide +kernel
theorem zd_Offer_agreesTo_9 : decode zc_Offer_agreesTo 9 = .ok (.getfield 18, 3) := by decide +kernel
theorem zd_Offer_agreesTo_12 : decode zc_Offer_agreesTo 12 = .ok (.if_icmp .lt 7, 3) := by decide +kernel
theorem zd_Offer_agreesTo_15 : decode zc_Offer_agreesTo 15 = .ok (.iconst 1, 1) := by decide +kernel
theorem zd_Offer_agreesTo_16 : decode zc_Offer_agreesTo 16 = .ok (.goto 20, 3) := by decide +kernel
theorem zd_Offer_agreesTo_19 : decode zc_Offer_agreesTo 19 = .ok (.iconst 0, 1) := by decide +kernel
theorem zd_Offer_agreesTo_20 : decode zc_Offer_agreesTo 20 = .ok (.goto 16, 3) := by decide +kernel
theorem zd_Offer_agreesTo_23 : decode zc_Offer_agreesTo 23 = .ok (.iload_n 1, 1) := by decide +kernel
theorem zd_Offer_agreesTo_24 : decode zc_Offer_agreesTo 24 = .ok (.aload_n 0, 1) := by decide +kernel
theorem zd_Offer_agreesTo_25 : decode zc_Offer_agreesTo 25 = .ok (.getfield 18, 3) := by decide +kernel
theorem zd_Offer_agreesTo_28 : decode zc_Offer_agreesTo 28 = .ok (.if_icmp .gt 7, 3) := by decide +kernel
theorem zd_Offer_agreesTo_31 : decode zc_Offer_agreesTo 31 = .ok (.iconst 1, 1) := by decide +kernel
theorem zd_Offer_agreesTo_32 : decode zc_Offer_agreesTo 32 = .ok (.goto 4, 3) := by decide +kernel
theorem zd_Offer_agreesTo_35 : decode zc_Offer_agreesTo 35 = .ok (.iconst 0, 1) := by decide +kernel
theorem zd_Offer_agreesTo_36 : decode zc_Offer_agreesTo 36 = .ok (.ireturn, 1) := by decide +kernel
theorem zd_Offer_prefers_0 : decode zc_Offer_prefers 0 = .ok (.aload_n 0, 1) := by decide +kernel
theorem zd_Offer_prefers_1 : decode zc_Offer_prefers 1 = .ok (.invokevirtual 24, 3) := by decide +kernel
theorem zd_Offer_prefers_4 : decode zc_Offer_prefers 4 = .ok (.ifCond .eq 16, 3) := by decide +kernel
theorem zd_Offer_prefers_7 : decode zc_Offer_prefers 7 = .ok (.iload_n 1, 1) := by decide +kernel
theorem zd_Offer_prefers_8 : decode zc_Offer_prefers 8 = .ok (.iload_n 2, 1) := by decide +kernel
theorem zd_Offer_prefers_9 : decode zc_Offer_prefers 9 = .ok (.if_icmp .le 7, 3) := by decide +kernel
theorem zd_Offer_prefers_12 : decode zc_Offer_prefers 12 = .ok (.iconst 1, 1) := by decide +kernel
theorem zd_Offer_prefers_13 : decode zc_Offer_prefers 13 = .ok (.goto 17, 3) := by decide +kernel
theorem zd_Offer_prefers_16 : decode zc_Offer_prefers 16 = .ok (.iconst 0, 1) := by decide +kernel
theorem zd_Offer_prefers_17 : decode zc_Offer_prefers 17 = .ok (.goto 13, 3) := by decide +kernel
theorem zd_Offer_prefers_20 : decode zc_Offer_prefers 20 = .ok (.iload_n 1, 1) := by decide +kernel
theorem zd_Offer_prefers_21 : decode zc_Offer_prefers 21 = .ok (.iload_n 2, 1) := by decide +kernel
theorem zd_Offer_prefers_22 : decode zc_Offer_prefers 22 = .ok (.if_icmp .ge 7, 3) := by decide +kernel
theorem zd_Offer_prefers_25 : decode zc_Offer_prefers 25 = .ok (.iconst 1, 1) := by decide +kernel
theorem zd_Offer_prefers_26 : decode zc_Offer_prefers 26 = .ok (.goto 4, 3) := by decide +kernel
theorem zd_Offer_prefers_29 : decode zc_Offer_prefers 29 = .ok (.iconst 0, 1) := by decide +kernel
theorem zd_Offer_prefers_30 : decode zc_Offer_prefers 30 = .ok (.ireturn, 1) := by decide +kernel
theorem zd_Ledger_bestFor_0 : decode zc_Ledger_bestFor 0 = .ok (.iconst (-1), 1) := by decide +kernel
theorem zd_Ledger_bestFor_1 : decode zc_Ledger_bestFor 1 = .ok (.istore_n 2, 1) := by decide +kernel
theorem zd_Ledger_bestFor_2 : decode zc_Ledger_bestFor 2 = .ok (.iconst 0, 1) := by decide +kernel
theorem zd_Ledger_bestFor_3 : decode zc_Ledger_bestFor 3 = .ok (.istore_n 3, 1) := by decide +kernel
theorem zd_Ledger_bestFor_4 : decode zc_Ledger_bestFor 4 = .ok (.iconst 0, 1) := by decide +kernel
theorem zd_Ledger_bestFor_5 : decode zc_Ledger_bestFor 5 = .ok (.istore 4, 2) := by decide +kernel
theorem zd_Ledger_bestFor_7 : decode zc_Ledger_bestFor 7 = .ok (.iload 4, 2) := by decide +kernel
theorem zd_Ledger_bestFor_9 : decode zc_Ledger_bestFor 9 = .ok (.bipush 8, 2) := by decide +kernel
theorem zd_Ledger_bestFor_11 : decode zc_Ledger_bestFor 11 = .ok (.if_icmp .ge 86, 3) := by decide +kernel
theorem zd_Ledger_bestFor_14 : decode zc_Ledger_bestFor 14 = .ok (.aload_n 0, 1) := by decide +kernel
theorem zd_Ledger_bestFor_15 : decode zc_Ledger_bestFor 15 = .ok (.getfield 20, 3) := by decide +kernel
theorem zd_Ledger_bestFor_18 : decode zc_Ledger_bestFor 18 = .ok (.iload 4, 2) := by decide +kernel
theorem zd_Ledger_bestFor_20 : decode zc_Ledger_bestFor 20 = .ok (.aaload, 1) := by decide +kernel
theorem zd_Ledger_bestFor_21 : decode zc_Ledger_bestFor 21 = .ok (.astore 5, 2) := by decide +kernel
theorem zd_Ledger_bestFor_23 : decode zc_Ledger_bestFor 23 = .ok (.aload 5, 2) := by decide +kernel
theorem zd_Ledger_bestFor_25 : decode zc_Ledger_bestFor 25 = .ok (.ifnull 31, 3) := by decide +kernel
theorem zd_Ledger_bestFor_28 : decode zc_Ledger_bestFor 28 = .ok (.aload 5, 2) := by decide +kernel
theorem zd_Ledger_bestFor_30 : decode zc_Ledger_bestFor 30 = .ok (.getfield 69, 3) := by decide +kernel
theorem zd_Ledger_bestFor_33 : decode zc_Ledger_bestFor 33 = .ok (.aload_n 1, 1) := by decide +kernel
theorem zd_Ledger_bestFor_34 : decode zc_Ledger_bestFor 34 = .ok (.getfield 69, 3) := by decide +kernel
theorem zd_Ledger_bestFor_37 : decode zc_Ledger_bestFor 37 = .ok (.if_icmp .eq 19, 3) := by decide +kernel
theorem zd_Ledger_bestFor_40 : decode zc_Ledger_bestFor 40 = .ok (.aload_n 1, 1) := by decide +kernel
theorem zd_Ledger_bestFor_41 : decode zc_Ledger_bestFor 41 = .ok (.aload 5, 2) := by decide +kernel
theorem zd_Ledger_bestFor_43 : decode zc_Ledger_bestFor 43 = .ok (.getfield 72, 3) := by decide +kernel
theorem zd_Ledger_bestFor_46 : decode zc_Ledger_bestFor 46 = .ok (.invokevirtual 75, 3) := by decide +kernel
theorem zd_Ledger_bestFor_49 : decode zc_Ledger_bestFor 49 = .ok (.ifCond .eq 7, 3) := by decide +kernel
theorem zd_Ledger_bestFor_52 : decode zc_Ledger_bestFor 52 = .ok (.iconst 1, 1) := by decide +kernel
theorem zd_Ledger_bestFor_53 : decode zc_Ledger_bestFor 53 = .ok (.goto 4, 3) := by decide +kernel
theorem zd_Ledger_bestFor_56 : decode zc_Ledger_bestFor 56 = .ok (.iconst 0, 1) := by decide +kernel
theorem zd_Ledger_bestFor_57 : decode zc_Ledger_bestFor 57 = .ok (.istore 6, 2) := by decide +kernel
theorem zd_Ledger_bestFor_59 : decode zc_Ledger_bestFor 59 = .ok (.iload 6, 2) := by decide +kernel
theorem zd_Ledger_bestFor_61 : decode zc_Ledger_bestFor 61 = .ok (.ifCond .eq 30, 3) := by decide +kernel
theorem zd_Ledger_bestFor_64 : decode zc_Ledger_bestFor 64 = .ok (.iload_n 2, 1) := by decide +kernel
theorem zd_Ledger_bestFor_65 : decode zc_Ledger_bestFor 65 = .ok (.iconst (-1), 1) := by decide +kernel
theorem zd_Ledger_bestFor_66 : decode zc_Ledger_bestFor 66 = .ok (.if_icmp .eq 16, 3) := by decide +kernel
theorem zd_Ledger_bestFor_69 : decode zc_Ledger_bestFor 69 = .ok (.aload_n 1, 1) := by decide +kernel
theorem zd_Ledger_bestFor_70 : decode zc_Ledger_bestFor 70 = .ok (.aload 5, 2) := by decide +kernel
theorem zd_Ledger_bestFor_72 : decode zc_Ledger_bestFor 72 = .ok (.getfield 72, 3) := by decide +kernel
theorem zd_Ledger_bestFor_75 : decode zc_Ledger_bestFor 75 = .ok (.iload_n 3, 1) := by decide +kernel
theorem zd_Ledger_bestFor_76 : decode zc_Ledger_bestFor 76 = .ok (.invokevirtual 79, 3) := by decide +kernel
theorem zd_Ledger_bestFor_79 : decode zc_Ledger_bestFor 79 = .ok (.ifCond .eq 12, 3) := by decide +kernel
theorem zd_Ledger_bestFor_82 : decode zc_Ledger_bestFor 82 = .ok (.iload 4, 2) := by decide +kernel
theorem zd_Ledger_bestFor_84 : decode zc_Ledger_bestFor 84 = .ok (.istore_n 2, 1) := by decide +kernel
theorem zd_Ledger_bestFor_85 : decode zc_Ledger_bestFor 85 = .ok (.aload 5, 2) := by decide +kernel
theorem zd_Ledger_bestFor_87 : decode zc_Ledger_bestFor 87 = .ok (.getfield 72, 3) := by decide +kernel
theorem zd_Ledger_bestFor_90 : decode zc_Ledger_bestFor 90 = .ok (.istore_n 3, 1) := by decide +kernel
theorem zd_Ledger_bestFor_91 : decode zc_Ledger_bestFor 91 = .ok (.iinc 4 1, 3) := by decide +kernel
theorem zd_Ledger_bestFor_94 : decode zc_Ledger_bestFor 94 = .ok (.goto (-87), 3) := by decide +kernel
theorem zd_Ledger_bestFor_97 : decode zc_Ledger_bestFor 97 = .ok (.iload_n 2, 1) := by decide +kernel
theorem zd_Ledger_bestFor_98 : decode zc_Ledger_bestFor 98 = .ok (.ireturn, 1) := by decide +kernel
theorem zd_Ledger_canServe_0 : decode zc_Ledger_canServe 0 = .ok (.aload_n 1, 1) := by decide +kernel
theorem zd_Ledger_canServe_1 : decode zc_Ledger_canServe 1 = .ok (.invokevirtual 83, 3) := by decide +kernel
theorem zd_Ledger_canServe_4 : decode zc_Ledger_canServe 4 = .ok (.ifCond .eq 23, 3) := by decide +kernel
theorem zd_Ledger_canServe_7 : decode zc_Ledger_canServe 7 = .ok (.aload_n 0, 1) := by decide +kernel
theorem zd_Ledger_canServe_8 : decode zc_Ledger_canServe 8 = .ok (.getfield 15, 3) := by decide +kernel
theorem zd_Ledger_canServe_11 : decode zc_Ledger_canServe 11 = .ok (.aload_n 1, 1) := by decide +kernel
theorem zd_Ledger_canServe_12 : decode zc_Ledger_canServe 12 = .ok (.getfield 87, 3) := by decide +kernel
theorem zd_Ledger_canServe_15 : decode zc_Ledger_canServe 15 = .ok (.iaload, 1) := by decide +kernel
theorem zd_Ledger_canServe_16 : decode zc_Ledger_canServe 16 = .ok (.ifCond .le 7, 3) := by decide +kernel
theorem zd_Ledger_canServe_19 : decode zc_Ledger_canServe 19 = .ok (.iconst 1, 1) := by decide +kernel
theorem zd_Ledger_canServe_20 : decode zc_Ledger_canServe 20 = .ok (.goto 28, 3) := by decide +kernel
theorem zd_Ledger_canServe_23 : decode zc_Ledger_canServe 23 = .ok (.iconst 0, 1) := by decide +kernel
theorem zd_Ledger_canServe_24 : decode zc_Ledger_canServe 24 = .ok (.goto 24, 3) := by decide +kernel
theorem zd_Ledger_canServe_27 : decode zc_Ledger_canServe 27 = .ok (.aload_n 0, 1) := by decide +kernel
theorem zd_Ledger_canServe_28 : decode zc_Ledger_canServe 28 = .ok (.getfield 9, 3) := by decide +kernel
theorem zd_Ledger_canServe_31 : decode zc_Ledger_canServe 31 = .ok (.aload_n 1, 1) := by decide +kernel
theorem zd_Ledger_canServe_32 : decode zc_Ledger_canServe 32 = .ok (.getfield 87, 3) := by decide +kernel
theorem zd_Ledger_canServe_35 : decode zc_Ledger_canServe 35 = .ok (.iaload, 1) := by decide +kernel
theorem zd_Ledger_canServe_36 : decode zc_Ledger_canServe 36 = .ok (.aload_n 1, 1) := by decide +kernel
theorem zd_Ledger_canServe_37 : decode zc_Ledger_canServe 37 = .ok (.getfield 72, 3) := by decide +kernel
theorem zd_Ledger_canServe_40 : decode zc_Ledger_canServe 40 = .ok (.if_icmp .lt 7, 3) := by decide +kernel
theorem zd_Ledger_canServe_43 : decode zc_Ledger_canServe 43 = .ok (.iconst 1, 1) := by decide +kernel
theorem zd_Ledger_canServe_44 : decode zc_Ledger_canServe 44 = .ok (.goto 4, 3) := by decide +kernel
theorem zd_Ledger_canServe_47 : decode zc_Ledger_canServe 47 = .ok (.iconst 0, 1) := by decide +kernel
theorem zd_Ledger_canServe_48 : decode zc_Ledger_canServe 48 = .ok (.ireturn, 1) := by decide +kernel
theorem zd_Ledger_move_0 : decode zc_Ledger_move 0 = .ok (.aload_n 1, 1) := by decide +kernel
theorem zd_Ledger_move_1 : decode zc_Ledger_move 1 = .ok (.iload_n 2, 1) := by decide +kernel
theorem zd_Ledger_move_2 : decode zc_Ledger_move 2 = .ok (.dup2, 1) := by decide +kernel
theorem zd_Ledger_move_3 : decode zc_Ledger_move 3 = .ok (.iaload, 1) := by decide +kernel
theorem zd_Ledger_move_4 : decode zc_Ledger_move 4 = .ok (.iload 4, 2) := by decide +kernel
theorem zd_Ledger_move_6 : decode zc_Ledger_move 6 = .ok (.isub, 1) := by decide +kernel
theorem zd_Ledger_move_7 : decode zc_Ledger_move 7 = .ok (.iastore, 1) := by decide +kernel
theorem zd_Ledger_move_8 : decode zc_Ledger_move 8 = .ok (.aload_n 1, 1) := by decide +kernel
theorem zd_Ledger_move_9 : decode zc_Ledger_move 9 = .ok (.iload_n 3, 1) := by decide +kernel
theorem zd_Ledger_move_10 : decode zc_Ledger_move 10 = .ok (.dup2, 1) := by decide +kernel
theorem zd_Ledger_move_11 : decode zc_Ledger_move 11 = .ok (.iaload, 1) := by decide +kernel

theorem dX4_readOperand_34 : decode cX4_readOperand 34 = .ok (.bipush 36, 2) := by decide +kernel
theorem dX4_readOperand_36 : decode cX4_readOperand 36 = .ok (.invokevirtual 62, 3) := by decide +kernel
theorem dX4_readOperand_39 : decode cX4_readOperand 39 = .ok (.aload_n 0, 1) := by decide +kernel
theorem dX4_readOperand_40 : decode cX4_readOperand 40 = .ok (.ldc 80, 2) := by decide +kernel
theorem dX4_readOperand_42 : decode cX4_readOperand 42 = .ok (.iload_n 2, 1) := by decide +kernel
theorem dX4_readOperand_43 : decode cX4_readOperand 43 = .ok (.i2c, 1) := by decide +kernel
theorem dX4_readOperand_44 : decode cX4_readOperand 44 = .ok (.invokevirtual 82, 3) := by decide +kernel
theorem dX4_readOperand_47 : decode cX4_readOperand 47 = .ok (.invokevirtual 62, 3) := by decide +kernel
theorem dX4_readOperand_50 : decode cX4_readOperand 50 = .ok (.aload_n 0, 1) := by decide +kernel
theorem dX4_readOperand_51 : decode cX4_readOperand 51 = .ok (.dup, 1) := by decide +kernel
theorem dX4_readOperand_52 : decode cX4_readOperand 52 = .ok (.getfield 45, 3) := by decide +kernel
theorem dX4_readOperand_55 : decode cX4_readOperand 55 = .ok (.iconst 1, 1) := by decide +kernel
theorem dX4_readOperand_56 : decode cX4_readOperand 56 = .ok (.iadd, 1) := by decide +kernel
theorem dX4_readOperand_57 : decode cX4_readOperand 57 = .ok (.putfield 45, 3) := by decide +kernel
theorem dX4_readOperand_60 : decode cX4_readOperand 60 = .ok (.goto 53, 3) := by decide +kernel
theorem dX4_readOperand_63 : decode cX4_readOperand 63 = .ok (.iload_n 1, 1) := by decide +kernel
theorem dX4_readOperand_64 : decode cX4_readOperand 64 = .ok (.bipush 6, 2) := by decide +kernel
theorem dX4_readOperand_66 : decode cX4_readOperand 66 = .ok (.if_icmp .ge 42, 3) := by decide +kernel
theorem dX4_readOperand_69 : decode cX4_readOperand 69 = .ok (.iload_n 2, 1) := by decide +kernel
theorem dX4_readOperand_70 : decode cX4_readOperand 70 = .ok (.bipush 40, 2) := by decide +kernel
theorem dX4_readOperand_72 : decode cX4_readOperand 72 = .ok (.if_icmp .eq 15, 3) := by decide +kernel
theorem dX4_readOperand_75 : decode cX4_readOperand 75 = .ok (.iload_n 2, 1) := by decide +kernel
theorem dX4_readOperand_76 : decode cX4_readOperand 76 = .ok (.bipush 33, 2) := by decide +kernel
theorem dX4_readOperand_78 : decode cX4_readOperand 78 = .ok (.if_icmp .eq 9, 3) := by decide +kernel
theorem dX4_readOperand_81 : decode cX4_readOperand 81 = .ok (.iload_n 2, 1) := by decide +kernel
theorem dX4_readOperand_82 : decode cX4_readOperand 82 = .ok (.bipush 45, 2) := by decide +kernel
theorem dX4_readOperand_84 : decode cX4_readOperand 84 = .ok (.if_icmp .ne 24, 3) := by decide +kernel
theorem dX4_readOperand_87 : decode cX4_readOperand 87 = .ok (.aload_n 0, 1) := by decide +kernel
theorem dX4_readOperand_88 : decode cX4_readOperand 88 = .ok (.dup, 1) := by decide +kernel
theorem dX4_readOperand_89 : decode cX4_readOperand 89 = .ok (.getfield 45, 3) := by decide +kernel
theorem dX4_readOperand_92 : decode cX4_readOperand 92 = .ok (.iconst 1, 1) := by decide +kernel
theorem dX4_readOperand_93 : decode cX4_readOperand 93 = .ok (.iadd, 1) := by decide +kernel
theorem dX4_readOperand_94 : decode cX4_readOperand 94 = .ok (.putfield 45, 3) := by decide +kernel
theorem dX4_readOperand_97 : decode cX4_readOperand 97 = .ok (.aload_n 0, 1) := by decide +kernel
theorem dX4_readOperand_98 : decode cX4_readOperand 98 = .ok (.iload_n 2, 1) := by decide +kernel
theorem dX4_readOperand_99 : decode cX4_readOperand 99 = .ok (.iload_n 1, 1) := by decide +kernel
theorem dX4_readOperand_100 : decode cX4_readOperand 100 = .ok (.iconst 1, 1) := by decide +kernel
theorem dX4_readOperand_101 : decode cX4_readOperand 101 = .ok (.iadd, 1) := by decide +kernel
theorem dX4_readOperand_102 : decode cX4_readOperand 102 = .ok (.invokevirtual 87, 3) := by decide +kernel
theorem dX4_readOperand_105 : decode cX4_readOperand 105 = .ok (.goto 8, 3) := by decide +kernel
theorem dX4_readOperand_108 : decode cX4_readOperand 108 = .ok (.aload_n 0, 1) := by decide +kernel
theorem dX4_readOperand_109 : decode cX4_readOperand 109 = .ok (.iconst 1, 1) := by decide +kernel
theorem dX4_readOperand_110 : decode cX4_readOperand 110 = .ok (.putfield 48, 3) := by decide +kernel
theorem dX4_readOperand_113 : decode cX4_readOperand 113 = .ok (.return_, 1) := by decide +kernel
set_option maxRecDepth 20000 in
theorem dX4_readOpened_0 : decode cX4_readOpened 0 = .ok (.iload_n 1, 1) := by decide +kernel
theorem dX4_readOpened_1 : decode cX4_readOpened 1 = .ok (.bipush 40, 2) := by decide +kernel
theorem dX4_readOpened_3 : decode cX4_readOpened 3 = .ok (.if_icmp .eq 25, 3) := by decide +kernel
theorem dX4_readOpened_6 : decode cX4_readOpened 6 = .ok (.aload_n 0, 1) := by decide +kernel
theorem dX4_readOpened_7 : decode cX4_readOpened 7 = .ok (.iload_n 2, 1) := by decide +kernel
theorem dX4_readOpened_8 : decode cX4_readOpened 8 = .ok (.invokevirtual 66, 3) := by decide +kernel
theorem dX4_readOpened_11 : decode cX4_readOpened 11 = .ok (.aload_n 0, 1) := by decide +kernel
theorem dX4_readOpened_12 : decode cX4_readOpened 12 = .ok (.iload_n 1, 1) := by decide +kernel
theorem dX4_readOpened_13 : decode cX4_readOpened 13 = .ok (.bipush 45, 2) := by decide +kernel
theorem dX4_readOpened_15 : decode cX4_readOpened 15 = .ok (.if_icmp .ne 8, 3) := by decide +kernel
theorem dX4_readOpened_18 : decode cX4_readOpened 18 = .ok (.bipush 126, 2) := by decide +kernel
theorem dX4_readOpened_20 : decode cX4_readOpened 20 = .ok (.goto 4, 3) := by decide +kernel
theorem dX4_readOpened_23 : decode cX4_readOpened 23 = .ok (.iload_n 1, 1) := by decide +kernel
theorem dX4_readOpened_24 : decode cX4_readOpened 24 = .ok (.invokevirtual 62, 3) := by decide +kernel
theorem dX4_readOpened_27 : decode cX4_readOpened 27 = .ok (.return_, 1) := by decide +kernel
theorem dX4_readOpened_28 : decode cX4_readOpened 28 = .ok (.aload_n 0, 1) := by decide +kernel
theorem dX4_readOpened_29 : decode cX4_readOpened 29 = .ok (.iconst 0, 1) := by decide +kernel
theorem dX4_readOpened_30 : decode cX4_readOpened 30 = .ok (.iload_n 2, 1) := by decide +kernel
theorem dX4_readOpened_31 : decode cX4_readOpened 31 = .ok (.invokevirtual 55, 3) := by decide +kernel
theorem dX4_readOpened_34 : decode cX4_readOpened 34 = .ok (.aload_n 0, 1) := by decide +kernel
theorem dX4_readOpened_35 : decode cX4_readOpened 35 = .ok (.getfield 48, 3) := by decide +kernel
theorem dX4_readOpened_38 : decode cX4_readOpened 38 = .ok (.ifCond .ne 12, 3) := by decide +kernel
theorem dX4_readOpened_41 : decode cX4_readOpened 41 = .ok (.aload_n 0, 1) := by decide +kernel
theorem dX4_readOpened_42 : decode cX4_readOpened 42 = .ok (.invokevirtual 59, 3) := by decide +kernel
theorem dX4_readOpened_45 : decode cX4_readOpened 45 = .ok (.bipush 41, 2) := by decide +kernel
theorem dX4_readOpened_47 : decode cX4_readOpened 47 = .ok (.if_icmp .eq 9, 3) := by decide +kernel
theorem dX4_readOpened_50 : decode cX4_readOpened 50 = .ok (.aload_n 0, 1) := by decide +kernel
theorem dX4_readOpened_51 : decode cX4_readOpened 51 = .ok (.iconst 1, 1) := by decide +kernel
theorem dX4_readOpened_52 : decode cX4_readOpened 52 = .ok (.putfield 48, 3) := by decide +kernel
theorem dX4_readOpened_55 : decode cX4_readOpened 55 = .ok (.return_, 1) := by decide +kernel
theorem dX4_readOpened_56 : decode cX4_readOpened 56 = .ok (.aload_n 0, 1) := by decide +kernel
theorem dX4_readOpened_57 : decode cX4_readOpened 57 = .ok (.dup, 1) := by decide +kernel
theorem dX4_readOpened_58 : decode cX4_readOpened 58 = .ok (.getfield 45, 3) := by decide +kernel
theorem dX4_readOpened_61 : decode cX4_readOpened 61 = .ok (.iconst 1, 1) := by decide +kernel
theorem dX4_readOpened_62 : decode cX4_readOpened 62 = .ok (.iadd, 1) := by decide +kernel
theorem dX4_readOpened_63 : decode cX4_readOpened 63 = .ok (.putfield 45, 3) := by decide +kernel
theorem dX4_readOpened_66 : decode cX4_readOpened 66 = .ok (.return_, 1) := by decide +kernel
theorem dX4_isDigit_0 : decode cX4_isDigit 0 = .ok (.iload_n 0, 1) := by decide +kernel
theorem dX4_isDigit_1 : decode cX4_isDigit 1 = .ok (.bipush 48, 2) := by decide +kernel
theorem dX4_isDigit_3 : decode cX4_isDigit 3 = .ok (.if_icmp .lt 13, 3) := by decide +kernel
theorem dX4_isDigit_6 : decode cX4_isDigit 6 = .ok (.iload_n 0, 1) := by decide +kernel
theorem dX4_isDigit_7 : decode cX4_isDigit 7 = .ok (.bipush 57, 2) := by decide +kernel
theorem dX4_isDigit_9 : decode cX4_isDigit 9 = .ok (.if_icmp .gt 7, 3) := by decide +kernel
theorem dX4_isDigit_12 : decode cX4_isDigit 12 = .ok (.iconst 1, 1) := by decide +kernel
theorem dX4_isDigit_13 : decode cX4_isDigit 13 = .ok (.goto 4, 3) := by decide +kernel
theorem dX4_isDigit_16 : decode cX4_isDigit 16 = .ok (.iconst 0, 1) := by decide +kernel
theorem dX4_isDigit_17 : decode cX4_isDigit 17 = .ok (.ireturn, 1) := by decide +kernel
set_option maxRecDepth 20000 in
theorem dX4_readNumber_0 : decode cX4_readNumber 0 = .ok (.iconst 0, 1) := by decide +kernel
theorem dX4_readNumber_1 : decode cX4_readNumber 1 = .ok (.istore_n 1, 1) := by decide +kernel
theorem dX4_readNumber_2 : decode cX4_readNumber 2 = .ok (.iconst 0, 1) := by decide +kernel
theorem dX4_readNumber_3 : decode cX4_readNumber 3 = .ok (.istore_n 2, 1) := by decide +kernel
theorem dX4_readNumber_4 : decode cX4_readNumber 4 = .ok (.iload_n 2, 1) := by decide +kernel
theorem dX4_readNumber_5 : decode cX4_readNumber 5 = .ok (.iconst 4, 1) := by decide +kernel
theorem dX4_readNumber_6 : decode cX4_readNumber 6 = .ok (.if_icmp .ge 42, 3) := by decide +kernel
theorem dX4_readNumber_9 : decode cX4_readNumber 9 = .ok (.aload_n 0, 1) := by decide +kernel
theorem dX4_readNumber_10 : decode cX4_readNumber 10 = .ok (.invokevirtual 59, 3) := by decide +kernel
theorem dX4_readNumber_13 : decode cX4_readNumber 13 = .ok (.invokestatic 73, 3) := by decide +kernel
theorem dX4_readNumber_16 : decode cX4_readNumber 16 = .ok (.ifCond .eq 32, 3) := by decide +kernel
theorem dX4_readNumber_19 : decode cX4_readNumber 19 = .ok (.bipush 10, 2) := by decide +kernel
theorem dX4_readNumber_21 : decode cX4_readNumber 21 = .ok (.iload_n 1, 1) := by decide +kernel
theorem dX4_readNumber_22 : decode cX4_readNumber 22 = .ok (.imul, 1) := by decide +kernel
theorem dX4_readNumber_23 : decode cX4_readNumber 23 = .ok (.aload_n 0, 1) := by decide +kernel
theorem dX4_readNumber_24 : decode cX4_readNumber 24 = .ok (.invokevirtual 59, 3) := by decide +kernel
theorem dX4_readNumber_27 : decode cX4_readNumber 27 = .ok (.iadd, 1) := by decide +kernel
theorem dX4_readNumber_28 : decode cX4_readNumber 28 = .ok (.bipush 48, 2) := by decide +kernel
theorem dX4_readNumber_30 : decode cX4_readNumber 30 = .ok (.isub, 1) := by decide +kernel
theorem dX4_readNumber_31 : decode cX4_readNumber 31 = .ok (.istore_n 1, 1) := by decide +kernel
theorem dX4_readNumber_32 : decode cX4_readNumber 32 = .ok (.aload_n 0, 1) := by decide +kernel
theorem dX4_readNumber_33 : decode cX4_readNumber 33 = .ok (.dup, 1) := by decide +kernel
theorem dX4_readNumber_34 : decode cX4_readNumber 34 = .ok (.getfield 45, 3) := by decide +kernel
theorem dX4_readNumber_37 : decode cX4_readNumber 37 = .ok (.iconst 1, 1) := by decide +kernel
theorem dX4_readNumber_38 : decode cX4_readNumber 38 = .ok (.iadd, 1) := by decide +kernel
theorem dX4_readNumber_39 : decode cX4_readNumber 39 = .ok (.putfield 45, 3) := by decide +kernel
theorem dX4_readNumber_42 : decode cX4_readNumber 42 = .ok (.iinc 2 1, 3) := by decide +kernel
theorem dX4_readNumber_45 : decode cX4_readNumber 45 = .ok (.goto (-41), 3) := by decide +kernel
theorem dX4_readNumber_48 : decode cX4_readNumber 48 = .ok (.aload_n 0, 1) := by decide +kernel
theorem dX4_readNumber_49 : decode cX4_readNumber 49 = .ok (.bipush 35, 2) := by decide +kernel
theorem dX4_readNumber_51 : decode cX4_readNumber 51 = .ok (.invokevirtual 62, 3) := by decide +kernel
theorem dX4_readNumber_54 : decode cX4_readNumber 54 = .ok (.aload_n 0, 1) := by decide +kernel
theorem dX4_readNumber_55 : decode cX4_readNumber 55 = .ok (.iload_n 1, 1) := by decide +kernel
theorem dX4_readNumber_56 : decode cX4_readNumber 56 = .ok (.invokevirtual 62, 3) := by decide +kernel
theorem dX4_readNumber_59 : decode cX4_readNumber 59 = .ok (.return_, 1) := by decide +kernel
theorem dX4_setPost_0 : decode cX4_setPost 0 = .ok (.aload_n 0, 1) := by decide +kernel
theorem dX4_setPost_1 : decode cX4_setPost 1 = .ok (.getfield 22, 3) := by decide +kernel
theorem dX4_setPost_4 : decode cX4_setPost 4 = .ok (.iconst 0, 1) := by decide +kernel
theorem dX4_setPost_5 : decode cX4_setPost 5 = .ok (.iload_n 1, 1) := by decide +kernel
theorem dX4_setPost_6 : decode cX4_setPost 6 = .ok (.iastore, 1) := by decide +kernel
theorem dX4_setPost_7 : decode cX4_setPost 7 = .ok (.aload_n 0, 1) := by decide +kernel
theorem dX4_setPost_8 : decode cX4_setPost 8 = .ok (.getfield 22, 3) := by decide +kernel
theorem dX4_setPost_11 : decode cX4_setPost 11 = .ok (.iconst 3, 1) := by decide +kernel
theorem dX4_setPost_12 : decode cX4_setPost 12 = .ok (.iload_n 2, 1) := by decide +kernel
theorem dX4_setPost_13 : decode cX4_setPost 13 = .ok (.iastore, 1) := by decide +kernel
theorem dX4_setPost_14 : decode cX4_setPost 14 = .ok (.aload_n 0, 1) := by decide +kernel
theorem dX4_setPost_15 : decode cX4_setPost 15 = .ok (.getfield 22, 3) := by decide +kernel
theorem dX4_setPost_18 : decode cX4_setPost 18 = .ok (.iconst 4, 1) := by decide +kernel
theorem dX4_setPost_19 : decode cX4_setPost 19 = .ok (.iload_n 3, 1) := by decide +kernel
theorem dX4_setPost_20 : decode cX4_setPost 20 = .ok (.iastore, 1) := by decide +kernel
theorem dX4_setPost_21 : decode cX4_setPost 21 = .ok (.aload_n 0, 1) := by decide +kernel
theorem dX4_setPost_22 : decode cX4_setPost 22 = .ok (.getfield 22, 3) := by decide +kernel
theorem dX4_setPost_25 : decode cX4_setPost 25 = .ok (.iconst 5, 1) := by decide +kernel
theorem dX4_setPost_26 : decode cX4_setPost 26 = .ok (.iload 4, 2) := by decide +kernel
theorem dX4_setPost_28 : decode cX4_setPost 28 = .ok (.iastore, 1) := by decide +kernel
theorem dX4_setPost_29 : decode cX4_setPost 29 = .ok (.return_, 1) := by decide +kernel
set_option maxRecDepth 20000 in
theorem dX4_worth_0 : decode cX4_worth 0 = .ok (.aload_n 0, 1) := by decide +kernel
theorem dX4_worth_1 : decode cX4_worth 1 = .ok (.getfield 22, 3) := by decide +kernel
theorem dX4_worth_4 : decode cX4_worth 4 = .ok (.iconst 1, 1) := by decide +kernel
theorem dX4_worth_5 : decode cX4_worth 5 = .ok (.iload_n 1, 1) := by decide +kernel
theorem dX4_worth_6 : decode cX4_worth 6 = .ok (.iastore, 1) := by decide +kernel
theorem dX4_worth_7 : decode cX4_worth 7 = .ok (.aload_n 0, 1) := by decide +kernel
theorem dX4_worth_8 : decode cX4_worth 8 = .ok (.getfield 22, 3) := by decide +kernel
theorem dX4_worth_11 : decode cX4_worth 11 = .ok (.iconst 2, 1) := by decide +kernel
theorem dX4_worth_12 : decode cX4_worth 12 = .ok (.iload_n 2, 1) := by decide +kernel
theorem dX4_worth_13 : decode cX4_worth 13 = .ok (.iastore, 1) := by decide +kernel
theorem dX4_worth_14 : decode cX4_worth 14 = .ok (.aload_n 0, 1) := by decide +kernel
theorem dX4_worth_15 : decode cX4_worth 15 = .ok (.getfield 42, 3) := by decide +kernel
theorem dX4_worth_18 : decode cX4_worth 18 = .ok (.ifCond .ne 22, 3) := by decide +kernel
theorem dX4_worth_21 : decode cX4_worth 21 = .ok (.aload_n 0, 1) := by decide +kernel
theorem dX4_worth_22 : decode cX4_worth 22 = .ok (.getfield 22, 3) := by decide +kernel
theorem dX4_worth_25 : decode cX4_worth 25 = .ok (.iconst 0, 1) := by decide +kernel
theorem dX4_worth_26 : decode cX4_worth 26 = .ok (.iaload, 1) := by decide +kernel
theorem dX4_worth_27 : decode cX4_worth 27 = .ok (.aload_n 0, 1) := by decide +kernel
theorem dX4_worth_28 : decode cX4_worth 28 = .ok (.getfield 22, 3) := by decide +kernel
theorem dX4_worth_31 : decode cX4_worth 31 = .ok (.iconst 1, 1) := by decide +kernel
theorem dX4_worth_32 : decode cX4_worth 32 = .ok (.iaload, 1) := by decide +kernel
theorem dX4_worth_33 : decode cX4_worth 33 = .ok (.imul, 1) := by decide +kernel
theorem dX4_worth_34 : decode cX4_worth 34 = .ok (.bipush 10, 2) := by decide +kernel
theorem dX4_worth_36 : decode cX4_worth 36 = .ok (.idiv, 1) := by decide +kernel
theorem dX4_worth_37 : decode cX4_worth 37 = .ok (.goto 7, 3) := by decide +kernel
theorem dX4_worth_40 : decode cX4_worth 40 = .ok (.aload_n 0, 1) := by decide +kernel
theorem dX4_worth_41 : decode cX4_worth 41 = .ok (.invokevirtual 90, 3) := by decide +kernel
theorem dX4_worth_44 : decode cX4_worth 44 = .ok (.istore_n 3, 1) := by decide +kernel
theorem dX4_worth_45 : decode cX4_worth 45 = .ok (.iconst 0, 1) := by decide +kernel
theorem dX4_worth_46 : decode cX4_worth 46 = .ok (.bipush 99, 2) := by decide +kernel
theorem dX4_worth_48 : decode cX4_worth 48 = .ok (.iload_n 3, 1) := by decide +kernel
theorem dX4_worth_49 : decode cX4_worth 49 = .ok (.invokestatic 93, 3) := by decide +kernel
theorem dX4_worth_52 : decode cX4_worth 52 = .ok (.invokestatic 99, 3) := by decide +kernel
theorem dX4_worth_55 : decode cX4_worth 55 = .ok (.ireturn, 1) := by decide +kernel
set_option maxRecDepth 20000 in
theorem dX4_run_0 : decode cX4_run 0 = .ok (.iconst 0, 1) := by decide +kernel
theorem dX4_run_1 : decode cX4_run 1 = .ok (.istore_n 1, 1) := by decide +kernel
theorem dX4_run_2 : decode cX4_run 2 = .ok (.iconst 0, 1) := by decide +kernel
theorem dX4_run_3 : decode cX4_run 3 = .ok (.istore_n 2, 1) := by decide +kernel
theorem dX4_run_4 : decode cX4_run 4 = .ok (.iload_n 2, 1) := by decide +kernel
theorem dX4_run_5 : decode cX4_run 5 = .ok (.aload_n 0, 1) := by decide +kernel
theorem dX4_run_6 : decode cX4_run 6 = .ok (.getfield 42, 3) := by decide +kernel
theorem dX4_run_9 : decode cX4_run 9 = .ok (.if_icmp .ge 136, 3) := by decide +kernel
theorem dX4_run_12 : decode cX4_run 12 = .ok (.aload_n 0, 1) := by decide +kernel
theorem dX4_run_13 : decode cX4_run 13 = .ok (.getfield 16, 3) := by decide +kernel
theorem dX4_run_16 : decode cX4_run 16 = .ok (.iload_n 2, 1) := by decide +kernel
theorem dX4_run_17 : decode cX4_run 17 = .ok (.iaload, 1) := by decide +kernel
theorem dX4_run_18 : decode cX4_run 18 = .ok (.istore_n 3, 1) := by decide +kernel
theorem dX4_run_19 : decode cX4_run 19 = .ok (.iload_n 2, 1) := by decide +kernel
theorem dX4_run_20 : decode cX4_run 20 = .ok (.iconst 1, 1) := by decide +kernel
theorem dX4_run_21 : decode cX4_run 21 = .ok (.iadd, 1) := by decide +kernel
theorem dX4_run_22 : decode cX4_run 22 = .ok (.aload_n 0, 1) := by decide +kernel
theorem dX4_run_23 : decode cX4_run 23 = .ok (.getfield 42, 3) := by decide +kernel
theorem dX4_run_26 : decode cX4_run 26 = .ok (.if_icmp .ge 14, 3) := by decide +kernel
theorem dX4_run_29 : decode cX4_run 29 = .ok (.aload_n 0, 1) := by decide +kernel
theorem dX4_run_30 : decode cX4_run 30 = .ok (.getfield 16, 3) := by decide +kernel
theorem dX4_run_33 : decode cX4_run 33 = .ok (.iload_n 2, 1) := by decide +kernel
theorem dX4_run_34 : decode cX4_run 34 = .ok (.iconst 1, 1) := by decide +kernel
theorem dX4_run_35 : decode cX4_run 35 = .ok (.iadd, 1) := by decide +kernel
theorem dX4_run_36 : decode cX4_run 36 = .ok (.iaload, 1) := by decide +kernel
theorem dX4_run_37 : decode cX4_run 37 = .ok (.goto 4, 3) := by decide +kernel
theorem dX4_run_40 : decode cX4_run 40 = .ok (.iconst 0, 1) := by decide +kernel
theorem dX4_run_41 : decode cX4_run 41 = .ok (.istore 4, 2) := by decide +kernel
theorem dX4_run_43 : decode cX4_run 43 = .ok (.iload_n 3, 1) := by decide +kernel
theorem dX4_run_44 : decode cX4_run 44 = .ok (.bipush 35, 2) := by decide +kernel
theorem dX4_run_46 : decode cX4_run 46 = .ok (.if_icmp .eq 9, 3) := by decide +kernel
theorem dX4_run_49 : decode cX4_run 49 = .ok (.iload_n 3, 1) := by decide +kernel
theorem dX4_run_50 : decode cX4_run 50 = .ok (.bipush 36, 2) := by decide +kernel
theorem dX4_run_52 : decode cX4_run 52 = .ok (.if_icmp .ne 32, 3) := by decide +kernel
theorem dX4_run_55 : decode cX4_run 55 = .ok (.aload_n 0, 1) := by decide +kernel
theorem dX4_run_56 : decode cX4_run 56 = .ok (.iload_n 1, 1) := by decide +kernel
theorem dX4_run_57 : decode cX4_run 57 = .ok (.iload_n 3, 1) := by decide +kernel
theorem dX4_run_58 : decode cX4_run 58 = .ok (.bipush 35, 2) := by decide +kernel
theorem dX4_run_60 : decode cX4_run 60 = .ok (.if_icmp .ne 8, 3) := by decide +kernel
theorem dX4_run_63 : decode cX4_run 63 = .ok (.iload 4, 2) := by decide +kernel
theorem dX4_run_65 : decode cX4_run 65 = .ok (.goto 9, 3) := by decide +kernel
theorem dX4_run_68 : decode cX4_run 68 = .ok (.aload_n 0, 1) := by decide +kernel
theorem dX4_run_69 : decode cX4_run 69 = .ok (.iload 4, 2) := by decide +kernel
theorem dX4_run_71 : decode cX4_run 71 = .ok (.invokevirtual 102, 3) := by decide +kernel
theorem dX4_run_74 : decode cX4_run 74 = .ok (.invokevirtual 105, 3) := by decide +kernel
theorem dX4_run_77 : decode cX4_run 77 = .ok (.istore_n 1, 1) := by decide +kernel
theorem dX4_run_78 : decode cX4_run 78 = .ok (.iinc 2 1, 3) := by decide +kernel
theorem dX4_run_81 : decode cX4_run 81 = .ok (.goto 58, 3) := by decide +kernel
theorem dX4_run_84 : decode cX4_run 84 = .ok (.iload_n 3, 1) := by decide +kernel
theorem dX4_run_85 : decode cX4_run 85 = .ok (.bipush 63, 2) := by decide +kernel
theorem dX4_run_87 : decode cX4_run 87 = .ok (.if_icmp .ne 32, 3) := by decide +kernel
theorem dX4_run_90 : decode cX4_run 90 = .ok (.iconst 0, 1) := by decide +kernel
theorem dX4_run_91 : decode cX4_run 91 = .ok (.istore_n 1, 1) := by decide +kernel
theorem dX4_run_92 : decode cX4_run 92 = .ok (.aload_n 0, 1) := by decide +kernel
theorem dX4_run_93 : decode cX4_run 93 = .ok (.getfield 19, 3) := by decide +kernel
theorem dX4_run_96 : decode cX4_run 96 = .ok (.iconst 0, 1) := by decide +kernel
theorem dX4_run_97 : decode cX4_run 97 = .ok (.iaload, 1) := by decide +kernel
theorem dX4_run_98 : decode cX4_run 98 = .ok (.ifCond .ne 14, 3) := by decide +kernel
theorem dX4_run_101 : decode cX4_run 101 = .ok (.iload_n 2, 1) := by decide +kernel
theorem dX4_run_102 : decode cX4_run 102 = .ok (.iload 4, 2) := by decide +kernel
theorem dX4_run_104 : decode cX4_run 104 = .ok (.iconst 1, 1) := by decide +kernel
theorem dX4_run_105 : decode cX4_run 105 = .ok (.isub, 1) := by decide +kernel
theorem dX4_run_106 : decode cX4_run 106 = .ok (.invokestatic 99, 3) := by decide +kernel
theorem dX4_run_109 : decode cX4_run 109 = .ok (.goto 6, 3) := by decide +kernel
theorem dX4_run_112 : decode cX4_run 112 = .ok (.iload_n 2, 1) := by decide +kernel
theorem dX4_run_113 : decode cX4_run 113 = .ok (.iconst 1, 1) := by decide +kernel
theorem dX4_run_114 : decode cX4_run 114 = .ok (.iadd, 1) := by decide +kernel
theorem dX4_run_115 : decode cX4_run 115 = .ok (.istore_n 2, 1) := by decide +kernel
theorem dX4_run_116 : decode cX4_run 116 = .ok (.goto 23, 3) := by decide +kernel
theorem dX4_run_119 : decode cX4_run 119 = .ok (.iload_n 3, 1) := by decide +kernel
theorem dX4_run_120 : decode cX4_run 120 = .ok (.bipush 59, 2) := by decide +kernel
theorem dX4_run_122 : decode cX4_run 122 = .ok (.if_icmp .ne 10, 3) := by decide +kernel
theorem dX4_run_125 : decode cX4_run 125 = .ok (.aload_n 0, 1) := by decide +kernel
theorem dX4_run_126 : decode cX4_run 126 = .ok (.getfield 19, 3) := by decide +kernel
theorem dX4_run_129 : decode cX4_run 129 = .ok (.iconst 0, 1) := by decide +kernel
theorem dX4_run_130 : decode cX4_run 130 = .ok (.iaload, 1) := by decide +kernel
theorem dX4_run_131 : decode cX4_run 131 = .ok (.ireturn, 1) := by decide +kernel
theorem dX4_run_132 : decode cX4_run 132 = .ok (.aload_n 0, 1) := by decide +kernel
theorem dX4_run_133 : decode cX4_run 133 = .ok (.iload_n 3, 1) := by decide +kernel
theorem dX4_run_134 : decode cX4_run 134 = .ok (.iload_n 1, 1) := by decide +kernel
theorem dX4_run_135 : decode cX4_run 135 = .ok (.invokevirtual 108, 3) := by decide +kernel
theorem dX4_run_138 : decode cX4_run 138 = .ok (.istore_n 1, 1) := by decide +kernel
theorem dX4_run_139 : decode cX4_run 139 = .ok (.iinc 2 1, 3) := by decide +kernel
theorem dX4_run_142 : decode cX4_run 142 = .ok (.goto (-138), 3) := by decide +kernel
theorem dX4_run_145 : decode cX4_run 145 = .ok (.iconst 0, 1) := by decide +kernel
theorem dX4_run_146 : decode cX4_run 146 = .ok (.ireturn, 1) := by decide +kernel
theorem dX4_push_0 : decode cX4_push 0 = .ok (.iload_n 1, 1) := by decide +kernel
theorem dX4_push_1 : decode cX4_push 1 = .ok (.bipush 120, 2) := by decide +kernel
theorem dX4_push_3 : decode cX4_push 3 = .ok (.if_icmp .lt 5, 3) := by decide +kernel
theorem dX4_push_6 : decode cX4_push 6 = .ok (.iload_n 1, 1) := by decide +kernel
theorem dX4_push_7 : decode cX4_push 7 = .ok (.ireturn, 1) := by decide +kernel
theorem dX4_push_8 : decode cX4_push 8 = .ok (.aload_n 0, 1) := by decide +kernel
theorem dX4_push_9 : decode cX4_push 9 = .ok (.getfield 19, 3) := by decide +kernel
theorem dX4_push_12 : decode cX4_push 12 = .ok (.iload_n 1, 1) := by decide +kernel
theorem dX4_push_13 : decode cX4_push 13 = .ok (.iload_n 2, 1) := by decide +kernel
theorem dX4_push_14 : decode cX4_push 14 = .ok (.iastore, 1) := by decide +kernel
theorem dX4_push_15 : decode cX4_push 15 = .ok (.iload_n 1, 1) := by decide +kernel
theorem dX4_push_16 : decode cX4_push 16 = .ok (.iconst 1, 1) := by decide +kernel
theorem dX4_push_17 : decode cX4_push 17 = .ok (.iadd, 1) := by decide +kernel
theorem dX4_push_18 : decode cX4_push 18 = .ok (.ireturn, 1) := by decide +kernel
theorem dX4_nameAt_0 : decode cX4_nameAt 0 = .ok (.iload_n 1, 1) := by decide +kernel
theorem dX4_nameAt_1 : decode cX4_nameAt 1 = .ok (.ifCond .lt 21, 3) := by decide +kernel
theorem dX4_nameAt_4 : decode cX4_nameAt 4 = .ok (.iload_n 1, 1) := by decide +kernel
theorem dX4_nameAt_5 : decode cX4_nameAt 5 = .ok (.aload_n 0, 1) := by decide +kernel
theorem dX4_nameAt_6 : decode cX4_nameAt 6 = .ok (.getfield 22, 3) := by decide +kernel
theorem dX4_nameAt_9 : decode cX4_nameAt 9 = .ok (.arraylength, 1) := by decide +kernel
theorem dX4_nameAt_10 : decode cX4_nameAt 10 = .ok (.if_icmp .ge 12, 3) := by decide +kernel
theorem dX4_nameAt_13 : decode cX4_nameAt 13 = .ok (.aload_n 0, 1) := by decide +kernel
theorem dX4_nameAt_14 : decode cX4_nameAt 14 = .ok (.getfield 22, 3) := by decide +kernel
theorem dX4_nameAt_17 : decode cX4_nameAt 17 = .ok (.iload_n 1, 1) := by decide +kernel
theorem dX4_nameAt_18 : decode cX4_nameAt 18 = .ok (.iaload, 1) := by decide +kernel
theorem dX4_nameAt_19 : decode cX4_nameAt 19 = .ok (.goto 4, 3) := by decide +kernel
theorem dX4_nameAt_22 : decode cX4_nameAt 22 = .ok (.iconst 0, 1) := by decide +kernel
theorem dX4_nameAt_23 : decode cX4_nameAt 23 = .ok (.ireturn, 1) := by decide +kernel
set_option maxRecDepth 20000 in
theorem dX4_work_0 : decode cX4_work 0 = .ok (.iload_n 1, 1) := by decide +kernel
theorem dX4_work_1 : decode cX4_work 1 = .ok (.bipush 126, 2) := by decide +kernel
theorem dX4_work_3 : decode cX4_work 3 = .ok (.if_icmp .eq 9, 3) := by decide +kernel
theorem dX4_work_6 : decode cX4_work 6 = .ok (.iload_n 1, 1) := by decide +kernel
theorem dX4_work_7 : decode cX4_work 7 = .ok (.bipush 33, 2) := by decide +kernel
theorem dX4_work_9 : decode cX4_work 9 = .ok (.if_icmp .ne 55, 3) := by decide +kernel
theorem dX4_work_12 : decode cX4_work 12 = .ok (.iload_n 2, 1) := by decide +kernel
theorem dX4_work_13 : decode cX4_work 13 = .ok (.iconst 1, 1) := by decide +kernel
theorem dX4_work_14 : decode cX4_work 14 = .ok (.if_icmp .lt 48, 3) := by decide +kernel
theorem dX4_work_17 : decode cX4_work 17 = .ok (.aload_n 0, 1) := by decide +kernel
theorem dX4_work_18 : decode cX4_work 18 = .ok (.getfield 19, 3) := by decide +kernel
theorem dX4_work_21 : decode cX4_work 21 = .ok (.iload_n 2, 1) := by decide +kernel
theorem dX4_work_22 : decode cX4_work 22 = .ok (.iconst 1, 1) := by decide +kernel
theorem dX4_work_23 : decode cX4_work 23 = .ok (.isub, 1) := by decide +kernel
theorem dX4_work_24 : decode cX4_work 24 = .ok (.iload_n 1, 1) := by decide +kernel
theorem dX4_work_25 : decode cX4_work 25 = .ok (.bipush 126, 2) := by decide +kernel
theorem dX4_work_27 : decode cX4_work 27 = .ok (.if_icmp .ne 15, 3) := by decide +kernel
theorem dX4_work_30 : decode cX4_work 30 = .ok (.aload_n 0, 1) := by decide +kernel
theorem dX4_work_31 : decode cX4_work 31 = .ok (.getfield 19, 3) := by decide +kernel
theorem dX4_work_34 : decode cX4_work 34 = .ok (.iload_n 2, 1) := by decide +kernel
theorem dX4_work_35 : decode cX4_work 35 = .ok (.iconst 1, 1) := by decide +kernel
theorem dX4_work_36 : decode cX4_work 36 = .ok (.isub, 1) := by decide +kernel
theorem dX4_work_37 : decode cX4_work 37 = .ok (.iaload, 1) := by decide +kernel
theorem dX4_work_38 : decode cX4_work 38 = .ok (.ineg, 1) := by decide +kernel
theorem dX4_work_39 : decode cX4_work 39 = .ok (.goto 22, 3) := by decide +kernel
theorem dX4_work_42 : decode cX4_work 42 = .ok (.aload_n 0, 1) := by decide +kernel
theorem dX4_work_43 : decode cX4_work 43 = .ok (.getfield 19, 3) := by decide +kernel
theorem dX4_work_46 : decode cX4_work 46 = .ok (.iload_n 2, 1) := by decide +kernel
theorem dX4_work_47 : decode cX4_work 47 = .ok (.iconst 1, 1) := by decide +kernel
theorem dX4_work_48 : decode cX4_work 48 = .ok (.isub, 1) := by decide +kernel
theorem dX4_work_49 : decode cX4_work 49 = .ok (.iaload, 1) := by decide +kernel
theorem dX4_work_50 : decode cX4_work 50 = .ok (.ifCond .ne 7, 3) := by decide +kernel
theorem dX4_work_53 : decode cX4_work 53 = .ok (.iconst 1, 1) := by decide +kernel
theorem dX4_work_54 : decode cX4_work 54 = .ok (.goto 4, 3) := by decide +kernel
theorem dX4_work_57 : decode cX4_work 57 = .ok (.iconst 0, 1) := by decide +kernel
theorem dX4_work_58 : decode cX4_work 58 = .ok (.invokestatic 111, 3) := by decide +kernel
theorem dX4_work_61 : decode cX4_work 61 = .ok (.iastore, 1) := by decide +kernel
theorem dX4_work_62 : decode cX4_work 62 = .ok (.iload_n 2, 1) := by decide +kernel
theorem dX4_work_63 : decode cX4_work 63 = .ok (.ireturn, 1) := by decide +kernel
theorem dX4_work_64 : decode cX4_work 64 = .ok (.iload_n 2, 1) := by decide +kernel
theorem dX4_work_65 : decode cX4_work 65 = .ok (.iconst 2, 1) := by decide +kernel
theorem dX4_work_66 : decode cX4_work 66 = .ok (.if_icmp .ge 5, 3) := by decide +kernel
theorem dX4_work_69 : decode cX4_work 69 = .ok (.iload_n 2, 1) := by decide +kernel
theorem dX4_work_70 : decode cX4_work 70 = .ok (.ireturn, 1) := by decide +kernel
theorem dX4_work_71 : decode cX4_work 71 = .ok (.aload_n 0, 1) := by decide +kernel
theorem dX4_work_72 : decode cX4_work 72 = .ok (.getfield 19, 3) := by decide +kernel
theorem dX4_work_75 : decode cX4_work 75 = .ok (.iload_n 2, 1) := by decide +kernel
theorem dX4_work_76 : decode cX4_work 76 = .ok (.iconst 2, 1) := by decide +kernel
theorem dX4_work_77 : decode cX4_work 77 = .ok (.isub, 1) := by decide +kernel
theorem dX4_work_78 : decode cX4_work 78 = .ok (.iload_n 1, 1) := by decide +kernel
theorem dX4_work_79 : decode cX4_work 79 = .ok (.aload_n 0, 1) := by decide +kernel
theorem dX4_work_80 : decode cX4_work 80 = .ok (.getfield 19, 3) := by decide +kernel
theorem dX4_work_83 : decode cX4_work 83 = .ok (.iload_n 2, 1) := by decide +kernel
theorem dX4_work_84 : decode cX4_work 84 = .ok (.iconst 2, 1) := by decide +kernel
theorem dX4_work_85 : decode cX4_work 85 = .ok (.isub, 1) := by decide +kernel
theorem dX4_work_86 : decode cX4_work 86 = .ok (.iaload, 1) := by decide +kernel
theorem dX4_work_87 : decode cX4_work 87 = .ok (.aload_n 0, 1) := by decide +kernel
theorem dX4_work_88 : decode cX4_work 88 = .ok (.getfield 19, 3) := by decide +kernel
theorem dX4_work_91 : decode cX4_work 91 = .ok (.iload_n 2, 1) := by decide +kernel
theorem dX4_work_92 : decode cX4_work 92 = .ok (.iconst 1, 1) := by decide +kernel
theorem dX4_work_93 : decode cX4_work 93 = .ok (.isub, 1) := by decide +kernel
theorem dX4_work_94 : decode cX4_work 94 = .ok (.iaload, 1) := by decide +kernel
theorem dX4_work_95 : decode cX4_work 95 = .ok (.invokestatic 115, 3) := by decide +kernel
theorem dX4_work_98 : decode cX4_work 98 = .ok (.iastore, 1) := by decide +kernel
theorem dX4_work_99 : decode cX4_work 99 = .ok (.iload_n 2, 1) := by decide +kernel
theorem dX4_work_100 : decode cX4_work 100 = .ok (.iconst 1, 1) := by decide +kernel
theorem dX4_work_101 : decode cX4_work 101 = .ok (.isub, 1) := by decide +kernel
theorem dX4_work_102 : decode cX4_work 102 = .ok (.ireturn, 1) := by decide +kernel
theorem dX4_truth_0 : decode cX4_truth 0 = .ok (.iload_n 0, 1) := by decide +kernel
theorem dX4_truth_1 : decode cX4_truth 1 = .ok (.ifCond .eq 7, 3) := by decide +kernel
theorem dX4_truth_4 : decode cX4_truth 4 = .ok (.iconst 1, 1) := by decide +kernel
theorem dX4_truth_5 : decode cX4_truth 5 = .ok (.goto 4, 3) := by decide +kernel
theorem dX4_truth_8 : decode cX4_truth 8 = .ok (.iconst 0, 1) := by decide +kernel
theorem dX4_truth_9 : decode cX4_truth 9 = .ok (.ireturn, 1) := by decide +kernel
set_option maxRecDepth 20000 in
theorem dX4_join_0 : decode cX4_join 0 = .ok (.iload_n 0, 1) := by decide +kernel
theorem dX4_join_1 : decode cX4_join 1 = .ok (.lookupswitch 183 #[(38, 100), (42, 167), (43, 159), (45, 163), (47, 171), (60, 117), (61, 131), (62, 145), (124, 83)], 83) := by decide +kernel
theorem dX4_join_84 : decode cX4_join 84 = .ok (.iload_n 1, 1) := by decide +kernel
theorem dX4_join_85 : decode cX4_join 85 = .ok (.ifCond .ne 7, 3) := by decide +kernel
theorem dX4_join_88 : decode cX4_join 88 = .ok (.iload_n 2, 1) := by decide +kernel
theorem dX4_join_89 : decode cX4_join 89 = .ok (.ifCond .eq 7, 3) := by decide +kernel
theorem dX4_join_92 : decode cX4_join 92 = .ok (.iconst 1, 1) := by decide +kernel
theorem dX4_join_93 : decode cX4_join 93 = .ok (.goto 4, 3) := by decide +kernel
theorem dX4_join_96 : decode cX4_join 96 = .ok (.iconst 0, 1) := by decide +kernel
theorem dX4_join_97 : decode cX4_join 97 = .ok (.invokestatic 111, 3) := by decide +kernel
theorem dX4_join_100 : decode cX4_join 100 = .ok (.ireturn, 1) := by decide +kernel
theorem dX4_join_101 : decode cX4_join 101 = .ok (.iload_n 1, 1) := by decide +kernel
theorem dX4_join_102 : decode cX4_join 102 = .ok (.ifCond .eq 11, 3) := by decide +kernel
theorem dX4_join_105 : decode cX4_join 105 = .ok (.iload_n 2, 1) := by decide +kernel
theorem dX4_join_106 : decode cX4_join 106 = .ok (.ifCond .eq 7, 3) := by decide +kernel
theorem dX4_join_109 : decode cX4_join 109 = .ok (.iconst 1, 1) := by decide +kernel
theorem dX4_join_110 : decode cX4_join 110 = .ok (.goto 4, 3) := by decide +kernel
theorem dX4_join_113 : decode cX4_join 113 = .ok (.iconst 0, 1) := by decide +kernel
theorem dX4_join_114 : decode cX4_join 114 = .ok (.invokestatic 111, 3) := by decide +kernel
theorem dX4_join_117 : decode cX4_join 117 = .ok (.ireturn, 1) := by decide +kernel
theorem dX4_join_118 : decode cX4_join 118 = .ok (.iload_n 1, 1) := by decide +kernel
theorem dX4_join_119 : decode cX4_join 119 = .ok (.iload_n 2, 1) := by decide +kernel
theorem dX4_join_120 : decode cX4_join 120 = .ok (.if_icmp .ge 7, 3) := by decide +kernel
theorem dX4_join_123 : decode cX4_join 123 = .ok (.iconst 1, 1) := by decide +kernel
theorem dX4_join_124 : decode cX4_join 124 = .ok (.goto 4, 3) := by decide +kernel
theorem dX4_join_127 : decode cX4_join 127 = .ok (.iconst 0, 1) := by decide +kernel
theorem dX4_join_128 : decode cX4_join 128 = .ok (.invokestatic 111, 3) := by decide +kernel
theorem dX4_join_131 : decode cX4_join 131 = .ok (.ireturn, 1) := by decide +kernel
theorem dX4_join_132 : decode cX4_join 132 = .ok (.iload_n 1, 1) := by decide +kernel
theorem dX4_join_133 : decode cX4_join 133 = .ok (.iload_n 2, 1) := by decide +kernel
theorem dX4_join_134 : decode cX4_join 134 = .ok (.if_icmp .ne 7, 3) := by decide +kernel
theorem dX4_join_137 : decode cX4_join 137 = .ok (.iconst 1, 1) := by decide +kernel
theorem dX4_join_138 : decode cX4_join 138 = .ok (.goto 4, 3) := by decide +kernel
theorem dX4_join_141 : decode cX4_join 141 = .ok (.iconst 0, 1) := by decide +kernel
theorem dX4_join_142 : decode cX4_join 142 = .ok (.invokestatic 111, 3) := by decide +kernel
theorem dX4_join_145 : decode cX4_join 145 = .ok (.ireturn, 1) := by decide +kernel
theorem dX4_join_146 : decode cX4_join 146 = .ok (.iload_n 1, 1) := by decide +kernel
theorem dX4_join_147 : decode cX4_join 147 = .ok (.iload_n 2, 1) := by decide +kernel
theorem dX4_join_148 : decode cX4_join 148 = .ok (.if_icmp .le 7, 3) := by decide +kernel
theorem dX4_join_151 : decode cX4_join 151 = .ok (.iconst 1, 1) := by decide +kernel
theorem dX4_join_152 : decode cX4_join 152 = .ok (.goto 4, 3) := by decide +kernel
theorem dX4_join_155 : decode cX4_join 155 = .ok (.iconst 0, 1) := by decide +kernel
theorem dX4_join_156 : decode cX4_join 156 = .ok (.invokestatic 111, 3) := by decide +kernel
theorem dX4_join_159 : decode cX4_join 159 = .ok (.ireturn, 1) := by decide +kernel
theorem dX4_join_160 : decode cX4_join 160 = .ok (.iload_n 1, 1) := by decide +kernel
theorem dX4_join_161 : decode cX4_join 161 = .ok (.iload_n 2, 1) := by decide +kernel
theorem dX4_join_162 : decode cX4_join 162 = .ok (.iadd, 1) := by decide +kernel
theorem dX4_join_163 : decode cX4_join 163 = .ok (.ireturn, 1) := by decide +kernel
theorem dX4_join_164 : decode cX4_join 164 = .ok (.iload_n 1, 1) := by decide +kernel
theorem dX4_join_165 : decode cX4_join 165 = .ok (.iload_n 2, 1) := by decide +kernel
theorem dX4_join_166 : decode cX4_join 166 = .ok (.isub, 1) := by decide +kernel
theorem dX4_join_167 : decode cX4_join 167 = .ok (.ireturn, 1) := by decide +kernel
theorem dX4_join_168 : decode cX4_join 168 = .ok (.iload_n 1, 1) := by decide +kernel
theorem dX4_join_169 : decode cX4_join 169 = .ok (.iload_n 2, 1) := by decide +kernel
theorem dX4_join_170 : decode cX4_join 170 = .ok (.imul, 1) := by decide +kernel
theorem dX4_join_171 : decode cX4_join 171 = .ok (.ireturn, 1) := by decide +kernel
theorem dX4_join_172 : decode cX4_join 172 = .ok (.iload_n 2, 1) := by decide +kernel
theorem dX4_join_173 : decode cX4_join 173 = .ok (.ifCond .ne 7, 3) := by decide +kernel
theorem dX4_join_176 : decode cX4_join 176 = .ok (.iconst 0, 1) := by decide +kernel
theorem dX4_join_177 : decode cX4_join 177 = .ok (.goto 6, 3) := by decide +kernel
theorem dX4_join_180 : decode cX4_join 180 = .ok (.iload_n 1, 1) := by decide +kernel
theorem dX4_join_181 : decode cX4_join 181 = .ok (.iload_n 2, 1) := by decide +kernel
theorem dX4_join_182 : decode cX4_join 182 = .ok (.idiv, 1) := by decide +kernel
theorem dX4_join_183 : decode cX4_join 183 = .ok (.ireturn, 1) := by decide +kernel
theorem dX4_join_184 : decode cX4_join 184 = .ok (.iload_n 2, 1) := by decide +kernel
theorem dX4_join_185 : decode cX4_join 185 = .ok (.ifCond .ne 7, 3) := by decide +kernel
theorem dX4_join_188 : decode cX4_join 188 = .ok (.iconst 0, 1) := by decide +kernel
theorem dX4_join_189 : decode cX4_join 189 = .ok (.goto 6, 3) := by decide +kernel
theorem dX4_join_192 : decode cX4_join 192 = .ok (.iload_n 1, 1) := by decide +kernel
theorem dX4_join_193 : decode cX4_join 193 = .ok (.iload_n 2, 1) := by decide +kernel
theorem dX4_join_194 : decode cX4_join 194 = .ok (.irem, 1) := by decide +kernel
theorem dX4_join_195 : decode cX4_join 195 = .ok (.ireturn, 1) := by decide +kernel
theorem dX5_init_0 : decode cX5_init 0 = .ok (.aload_n 0, 1) := by decide +kernel
theorem dX5_init_1 : decode cX5_init 1 = .ok (.invokespecial 3, 3) := by decide +kernel
theorem dX5_init_4 : decode cX5_init 4 = .ok (.aload_n 0, 1) := by decide +kernel
theorem dX5_init_5 : decode cX5_init 5 = .ok (.bipush 60, 2) := by decide +kernel
theorem dX5_init_7 : decode cX5_init 7 = .ok (.newarray .long, 2) := by decide +kernel
theorem dX5_init_9 : decode cX5_init 9 = .ok (.putfield 11, 3) := by decide +kernel
theorem dX5_init_12 : decode cX5_init 12 = .ok (.return_, 1) := by decide +kernel
theorem dX5_holdKey_0 : decode cX5_holdKey 0 = .ok (.aload_n 0, 1) := by decide +kernel
theorem dX5_holdKey_1 : decode cX5_holdKey 1 = .ok (.iload_n 1, 1) := by decide +kernel
theorem dX5_holdKey_2 : decode cX5_holdKey 2 = .ok (.ifCond .ge 7, 3) := by decide +kernel
theorem dX5_holdKey_5 : decode cX5_holdKey 5 = .ok (.iconst 0, 1) := by decide +kernel
theorem dX5_holdKey_6 : decode cX5_holdKey 6 = .ok (.goto 4, 3) := by decide +kernel
theorem dX5_holdKey_9 : decode cX5_holdKey 9 = .ok (.iconst 1, 1) := by decide +kernel
theorem dX5_holdKey_10 : decode cX5_holdKey 10 = .ok (.putfield 15, 3) := by decide +kernel
theorem dX5_holdKey_13 : decode cX5_holdKey 13 = .ok (.aload_n 0, 1) := by decide +kernel
theorem dX5_holdKey_14 : decode cX5_holdKey 14 = .ok (.iload_n 1, 1) := by decide +kernel
theorem dX5_holdKey_15 : decode cX5_holdKey 15 = .ok (.putfield 19, 3) := by decide +kernel
theorem dX5_holdKey_18 : decode cX5_holdKey 18 = .ok (.aload_n 0, 1) := by decide +kernel
theorem dX5_holdKey_19 : decode cX5_holdKey 19 = .ok (.iconst 0, 1) := by decide +kernel
theorem dX5_holdKey_20 : decode cX5_holdKey 20 = .ok (.putfield 22, 3) := by decide +kernel
theorem dX5_holdKey_23 : decode cX5_holdKey 23 = .ok (.return_, 1) := by decide +kernel
theorem dX5_holdRow_0 : decode cX5_holdRow 0 = .ok (.aload_n 0, 1) := by decide +kernel
theorem dX5_holdRow_1 : decode cX5_holdRow 1 = .ok (.iconst 2, 1) := by decide +kernel
theorem dX5_holdRow_2 : decode cX5_holdRow 2 = .ok (.putfield 15, 3) := by decide +kernel
theorem dX5_holdRow_5 : decode cX5_holdRow 5 = .ok (.aload_n 0, 1) := by decide +kernel
theorem dX5_holdRow_6 : decode cX5_holdRow 6 = .ok (.iload_n 1, 1) := by decide +kernel
theorem dX5_holdRow_7 : decode cX5_holdRow 7 = .ok (.putfield 25, 3) := by decide +kernel
theorem dX5_holdRow_10 : decode cX5_holdRow 10 = .ok (.aload_n 0, 1) := by decide +kernel
theorem dX5_holdRow_11 : decode cX5_holdRow 11 = .ok (.iload_n 2, 1) := by decide +kernel
theorem dX5_holdRow_12 : decode cX5_holdRow 12 = .ok (.putfield 22, 3) := by decide +kernel
theorem dX5_holdRow_15 : decode cX5_holdRow 15 = .ok (.iconst 0, 1) := by decide +kernel
theorem dX5_holdRow_16 : decode cX5_holdRow 16 = .ok (.istore_n 3, 1) := by decide +kernel
theorem dX5_holdRow_17 : decode cX5_holdRow 17 = .ok (.iload_n 3, 1) := by decide +kernel
theorem dX5_holdRow_18 : decode cX5_holdRow 18 = .ok (.bipush 60, 2) := by decide +kernel
theorem dX5_holdRow_20 : decode cX5_holdRow 20 = .ok (.if_icmp .ge 16, 3) := by decide +kernel
theorem dX5_holdRow_23 : decode cX5_holdRow 23 = .ok (.aload_n 0, 1) := by decide +kernel
theorem dX5_holdRow_24 : decode cX5_holdRow 24 = .ok (.getfield 11, 3) := by decide +kernel
theorem dX5_holdRow_27 : decode cX5_holdRow 27 = .ok (.iload_n 3, 1) := by decide +kernel
theorem dX5_holdRow_28 : decode cX5_holdRow 28 = .ok (.lconst 0, 1) := by decide +kernel
theorem dX5_holdRow_29 : decode cX5_holdRow 29 = .ok (.lastore, 1) := by decide +kernel
theorem dX5_holdRow_30 : decode cX5_holdRow 30 = .ok (.iinc 3 1, 3) := by decide +kernel
theorem dX5_holdRow_33 : decode cX5_holdRow 33 = .ok (.goto (-16), 3) := by decide +kernel
theorem dX5_holdRow_36 : decode cX5_holdRow 36 = .ok (.return_, 1) := by decide +kernel
theorem dX5_refusalFor_0 : decode cX5_refusalFor 0 = .ok (.aload_n 0, 1) := by decide +kernel
theorem dX5_refusalFor_1 : decode cX5_refusalFor 1 = .ok (.getfield 15, 3) := by decide +kernel
theorem dX5_refusalFor_4 : decode cX5_refusalFor 4 = .ok (.ifCond .ne 6, 3) := by decide +kernel
theorem dX5_refusalFor_7 : decode cX5_refusalFor 7 = .ok (.bipush (-11), 2) := by decide +kernel
theorem dX5_refusalFor_9 : decode cX5_refusalFor 9 = .ok (.ireturn, 1) := by decide +kernel
theorem dX5_refusalFor_10 : decode cX5_refusalFor 10 = .ok (.aload_n 0, 1) := by decide +kernel
theorem dX5_refusalFor_11 : decode cX5_refusalFor 11 = .ok (.getfield 15, 3) := by decide +kernel
theorem dX5_refusalFor_14 : decode cX5_refusalFor 14 = .ok (.iconst 2, 1) := by decide +kernel
theorem dX5_refusalFor_15 : decode cX5_refusalFor 15 = .ok (.if_icmp .ne 15, 3) := by decide +kernel
theorem dX5_refusalFor_18 : decode cX5_refusalFor 18 = .ok (.aload_n 0, 1) := by decide +kernel
theorem dX5_refusalFor_19 : decode cX5_refusalFor 19 = .ok (.getfield 25, 3) := by decide +kernel
theorem dX5_refusalFor_22 : decode cX5_refusalFor 22 = .ok (.iload_n 1, 1) := by decide +kernel
theorem dX5_refusalFor_23 : decode cX5_refusalFor 23 = .ok (.if_icmp .ne 7, 3) := by decide +kernel
theorem dX5_refusalFor_26 : decode cX5_refusalFor 26 = .ok (.iconst 0, 1) := by decide +kernel
theorem dX5_refusalFor_27 : decode cX5_refusalFor 27 = .ok (.goto 5, 3) := by decide +kernel
theorem dX5_refusalFor_30 : decode cX5_refusalFor 30 = .ok (.bipush (-12), 2) := by decide +kernel
theorem dX5_refusalFor_32 : decode cX5_refusalFor 32 = .ok (.ireturn, 1) := by decide +kernel
set_option maxRecDepth 20000 in
theorem dX5_refusalForPlace_0 : decode cX5_refusalForPlace 0 = .ok (.aload_n 0, 1) := by decide +kernel
theorem dX5_refusalForPlace_1 : decode cX5_refusalForPlace 1 = .ok (.getfield 15, 3) := by decide +kernel
theorem dX5_refusalForPlace_4 : decode cX5_refusalForPlace 4 = .ok (.iconst 2, 1) := by decide +kernel
theorem dX5_refusalForPlace_5 : decode cX5_refusalForPlace 5 = .ok (.if_icmp .eq 18, 3) := by decide +kernel
theorem dX5_refusalForPlace_8 : decode cX5_refusalForPlace 8 = .ok (.aload_n 0, 1) := by decide +kernel
theorem dX5_refusalForPlace_9 : decode cX5_refusalForPlace 9 = .ok (.getfield 15, 3) := by decide +kernel
theorem dX5_refusalForPlace_12 : decode cX5_refusalForPlace 12 = .ok (.ifCond .ne 8, 3) := by decide +kernel
theorem dX5_refusalForPlace_15 : decode cX5_refusalForPlace 15 = .ok (.bipush (-11), 2) := by decide +kernel
theorem dX5_refusalForPlace_17 : decode cX5_refusalForPlace 17 = .ok (.goto 5, 3) := by decide +kernel
theorem dX5_refusalForPlace_20 : decode cX5_refusalForPlace 20 = .ok (.bipush (-12), 2) := by decide +kernel
theorem dX5_refusalForPlace_22 : decode cX5_refusalForPlace 22 = .ok (.ireturn, 1) := by decide +kernel
theorem dX5_refusalForPlace_23 : decode cX5_refusalForPlace 23 = .ok (.aload_n 0, 1) := by decide +kernel
theorem dX5_refusalForPlace_24 : decode cX5_refusalForPlace 24 = .ok (.iload_n 1, 1) := by decide +kernel
theorem dX5_refusalForPlace_25 : decode cX5_refusalForPlace 25 = .ok (.iconst 1, 1) := by decide +kernel
theorem dX5_refusalForPlace_26 : decode cX5_refusalForPlace 26 = .ok (.invokevirtual 28, 3) := by decide +kernel
theorem dX5_refusalForPlace_29 : decode cX5_refusalForPlace 29 = .ok (.ifCond .eq 7, 3) := by decide +kernel
theorem dX5_refusalForPlace_32 : decode cX5_refusalForPlace 32 = .ok (.iconst 0, 1) := by decide +kernel
theorem dX5_refusalForPlace_33 : decode cX5_refusalForPlace 33 = .ok (.goto 5, 3) := by decide +kernel
theorem dX5_refusalForPlace_36 : decode cX5_refusalForPlace 36 = .ok (.bipush (-13), 2) := by decide +kernel
theorem dX5_refusalForPlace_38 : decode cX5_refusalForPlace 38 = .ok (.ireturn, 1) := by decide +kernel
theorem dX5_hasPlaces_0 : decode cX5_hasPlaces 0 = .ok (.iload_n 1, 1) := by decide +kernel
theorem dX5_hasPlaces_1 : decode cX5_hasPlaces 1 = .ok (.ifCond .lt 29, 3) := by decide +kernel
theorem dX5_hasPlaces_4 : decode cX5_hasPlaces 4 = .ok (.iload_n 2, 1) := by decide +kernel
theorem dX5_hasPlaces_5 : decode cX5_hasPlaces 5 = .ok (.ifCond .lt 25, 3) := by decide +kernel
theorem dX5_hasPlaces_8 : decode cX5_hasPlaces 8 = .ok (.iload_n 1, 1) := by decide +kernel
theorem dX5_hasPlaces_9 : decode cX5_hasPlaces 9 = .ok (.aload_n 0, 1) := by decide +kernel
theorem dX5_hasPlaces_10 : decode cX5_hasPlaces 10 = .ok (.getfield 22, 3) := by decide +kernel
theorem dX5_hasPlaces_13 : decode cX5_hasPlaces 13 = .ok (.if_icmp .gt 17, 3) := by decide +kernel
theorem dX5_hasPlaces_16 : decode cX5_hasPlaces 16 = .ok (.iload_n 2, 1) := by decide +kernel
theorem dX5_hasPlaces_17 : decode cX5_hasPlaces 17 = .ok (.aload_n 0, 1) := by decide +kernel
theorem dX5_hasPlaces_18 : decode cX5_hasPlaces 18 = .ok (.getfield 22, 3) := by decide +kernel
theorem dX5_hasPlaces_21 : decode cX5_hasPlaces 21 = .ok (.iload_n 1, 1) := by decide +kernel
theorem dX5_hasPlaces_22 : decode cX5_hasPlaces 22 = .ok (.isub, 1) := by decide +kernel
theorem dX5_hasPlaces_23 : decode cX5_hasPlaces 23 = .ok (.if_icmp .gt 7, 3) := by decide +kernel
theorem dX5_hasPlaces_26 : decode cX5_hasPlaces 26 = .ok (.iconst 1, 1) := by decide +kernel
theorem dX5_hasPlaces_27 : decode cX5_hasPlaces 27 = .ok (.goto 4, 3) := by decide +kernel
theorem dX5_hasPlaces_30 : decode cX5_hasPlaces 30 = .ok (.iconst 0, 1) := by decide +kernel
theorem dX5_hasPlaces_31 : decode cX5_hasPlaces 31 = .ok (.ireturn, 1) := by decide +kernel
theorem dX5_cellAt_0 : decode cX5_cellAt 0 = .ok (.iload_n 1, 1) := by decide +kernel
theorem dX5_cellAt_1 : decode cX5_cellAt 1 = .ok (.ifCond .lt 20, 3) := by decide +kernel
theorem dX5_cellAt_4 : decode cX5_cellAt 4 = .ok (.iload_n 1, 1) := by decide +kernel
theorem dX5_cellAt_5 : decode cX5_cellAt 5 = .ok (.aload_n 0, 1) := by decide +kernel
theorem dX5_cellAt_6 : decode cX5_cellAt 6 = .ok (.getfield 22, 3) := by decide +kernel
theorem dX5_cellAt_9 : decode cX5_cellAt 9 = .ok (.if_icmp .ge 12, 3) := by decide +kernel
theorem dX5_cellAt_12 : decode cX5_cellAt 12 = .ok (.aload_n 0, 1) := by decide +kernel
theorem dX5_cellAt_13 : decode cX5_cellAt 13 = .ok (.getfield 11, 3) := by decide +kernel
theorem dX5_cellAt_16 : decode cX5_cellAt 16 = .ok (.iload_n 1, 1) := by decide +kernel
theorem dX5_cellAt_17 : decode cX5_cellAt 17 = .ok (.laload, 1) := by decide +kernel
theorem dX5_cellAt_18 : decode cX5_cellAt 18 = .ok (.goto 4, 3) := by decide +kernel
theorem dX5_cellAt_21 : decode cX5_cellAt 21 = .ok (.lconst 0, 1) := by decide +kernel
theorem dX5_cellAt_22 : decode cX5_cellAt 22 = .ok (.lreturn, 1) := by decide +kernel
theorem dX5_setCell_0 : decode cX5_setCell 0 = .ok (.iload_n 1, 1) := by decide +kernel
theorem dX5_setCell_1 : decode cX5_setCell 1 = .ok (.ifCond .lt 11, 3) := by decide +kernel
theorem dX5_setCell_4 : decode cX5_setCell 4 = .ok (.iload_n 1, 1) := by decide +kernel
theorem dX5_setCell_5 : decode cX5_setCell 5 = .ok (.aload_n 0, 1) := by decide +kernel
theorem dX5_setCell_6 : decode cX5_setCell 6 = .ok (.getfield 22, 3) := by decide +kernel
theorem dX5_setCell_9 : decode cX5_setCell 9 = .ok (.if_icmp .lt 4, 3) := by decide +kernel
theorem dX5_setCell_12 : decode cX5_setCell 12 = .ok (.return_, 1) := by decide +kernel
theorem dX5_setCell_13 : decode cX5_setCell 13 = .ok (.aload_n 0, 1) := by decide +kernel
theorem dX5_setCell_14 : decode cX5_setCell 14 = .ok (.getfield 25, 3) := by decide +kernel
theorem dX5_setCell_17 : decode cX5_setCell 17 = .ok (.tableswitch 93 0 4 #[35, 48, 61, 93, 73], 35) := by decide +kernel
theorem dX5_setCell_52 : decode cX5_setCell 52 = .ok (.aload_n 0, 1) := by decide +kernel
theorem dX5_setCell_53 : decode cX5_setCell 53 = .ok (.getfield 11, 3) := by decide +kernel
theorem dX5_setCell_56 : decode cX5_setCell 56 = .ok (.iload_n 1, 1) := by decide +kernel
theorem dX5_setCell_57 : decode cX5_setCell 57 = .ok (.lload_n 2, 1) := by decide +kernel
theorem dX5_setCell_58 : decode cX5_setCell 58 = .ok (.l2i, 1) := by decide +kernel
theorem dX5_setCell_59 : decode cX5_setCell 59 = .ok (.i2b, 1) := by decide +kernel
theorem dX5_setCell_60 : decode cX5_setCell 60 = .ok (.i2l, 1) := by decide +kernel
theorem dX5_setCell_61 : decode cX5_setCell 61 = .ok (.lastore, 1) := by decide +kernel
theorem dX5_setCell_62 : decode cX5_setCell 62 = .ok (.goto 55, 3) := by decide +kernel
theorem dX5_setCell_65 : decode cX5_setCell 65 = .ok (.aload_n 0, 1) := by decide +kernel
theorem dX5_setCell_66 : decode cX5_setCell 66 = .ok (.getfield 11, 3) := by decide +kernel
theorem dX5_setCell_69 : decode cX5_setCell 69 = .ok (.iload_n 1, 1) := by decide +kernel
theorem dX5_setCell_70 : decode cX5_setCell 70 = .ok (.lload_n 2, 1) := by decide +kernel
theorem dX5_setCell_71 : decode cX5_setCell 71 = .ok (.l2i, 1) := by decide +kernel
theorem dX5_setCell_72 : decode cX5_setCell 72 = .ok (.i2s, 1) := by decide +kernel
theorem dX5_setCell_73 : decode cX5_setCell 73 = .ok (.i2l, 1) := by decide +kernel
theorem dX5_setCell_74 : decode cX5_setCell 74 = .ok (.lastore, 1) := by decide +kernel
theorem dX5_setCell_75 : decode cX5_setCell 75 = .ok (.goto 42, 3) := by decide +kernel
theorem dX5_setCell_78 : decode cX5_setCell 78 = .ok (.aload_n 0, 1) := by decide +kernel
theorem dX5_setCell_79 : decode cX5_setCell 79 = .ok (.getfield 11, 3) := by decide +kernel
theorem dX5_setCell_82 : decode cX5_setCell 82 = .ok (.iload_n 1, 1) := by decide +kernel
theorem dX5_setCell_83 : decode cX5_setCell 83 = .ok (.lload_n 2, 1) := by decide +kernel
theorem dX5_setCell_84 : decode cX5_setCell 84 = .ok (.l2i, 1) := by decide +kernel
theorem dX5_setCell_85 : decode cX5_setCell 85 = .ok (.i2l, 1) := by decide +kernel
theorem dX5_setCell_86 : decode cX5_setCell 86 = .ok (.lastore, 1) := by decide +kernel
theorem dX5_setCell_87 : decode cX5_setCell 87 = .ok (.goto 30, 3) := by decide +kernel
theorem dX5_setCell_90 : decode cX5_setCell 90 = .ok (.aload_n 0, 1) := by decide +kernel
theorem dX5_setCell_91 : decode cX5_setCell 91 = .ok (.getfield 11, 3) := by decide +kernel
theorem dX5_setCell_94 : decode cX5_setCell 94 = .ok (.iload_n 1, 1) := by decide +kernel
theorem dX5_setCell_95 : decode cX5_setCell 95 = .ok (.lload_n 2, 1) := by decide +kernel
theorem dX5_setCell_96 : decode cX5_setCell 96 = .ok (.lconst 0, 1) := by decide +kernel
theorem dX5_setCell_97 : decode cX5_setCell 97 = .ok (.lcmp, 1) := by decide +kernel
theorem dX5_setCell_98 : decode cX5_setCell 98 = .ok (.ifCond .eq 7, 3) := by decide +kernel
theorem dX5_setCell_101 : decode cX5_setCell 101 = .ok (.lconst 1, 1) := by decide +kernel
theorem dX5_setCell_102 : decode cX5_setCell 102 = .ok (.goto 4, 3) := by decide +kernel
theorem dX5_setCell_105 : decode cX5_setCell 105 = .ok (.lconst 0, 1) := by decide +kernel
theorem dX5_setCell_106 : decode cX5_setCell 106 = .ok (.lastore, 1) := by decide +kernel
theorem dX5_setCell_107 : decode cX5_setCell 107 = .ok (.goto 10, 3) := by decide +kernel
theorem dX5_setCell_110 : decode cX5_setCell 110 = .ok (.aload_n 0, 1) := by decide +kernel
theorem dX5_setCell_111 : decode cX5_setCell 111 = .ok (.getfield 11, 3) := by decide +kernel
theorem dX5_setCell_114 : decode cX5_setCell 114 = .ok (.iload_n 1, 1) := by decide +kernel
theorem dX5_setCell_115 : decode cX5_setCell 115 = .ok (.lload_n 2, 1) := by decide +kernel
theorem dX5_setCell_116 : decode cX5_setCell 116 = .ok (.lastore, 1) := by decide +kernel
theorem dX5_setCell_117 : decode cX5_setCell 117 = .ok (.return_, 1) := by decide +kernel
theorem dX5_twos_0 : decode cX5_twos 0 = .ok (.aload_n 0, 1) := by decide +kernel
theorem dX5_twos_1 : decode cX5_twos 1 = .ok (.getfield 22, 3) := by decide +kernel
theorem dX5_twos_4 : decode cX5_twos 4 = .ok (.iconst 1, 1) := by decide +kernel
theorem dX5_twos_5 : decode cX5_twos 5 = .ok (.iadd, 1) := by decide +kernel
theorem dX5_twos_6 : decode cX5_twos 6 = .ok (.iconst 2, 1) := by decide +kernel
theorem dX5_twos_7 : decode cX5_twos 7 = .ok (.idiv, 1) := by decide +kernel
theorem dX5_twos_8 : decode cX5_twos 8 = .ok (.ireturn, 1) := by decide +kernel
theorem dX6_init_0 : decode cX6_init 0 = .ok (.aload_n 0, 1) := by decide +kernel
theorem dX6_init_1 : decode cX6_init 1 = .ok (.invokespecial 3, 3) := by decide +kernel
theorem dX6_init_4 : decode cX6_init 4 = .ok (.aload_n 0, 1) := by decide +kernel
theorem dX6_init_5 : decode cX6_init 5 = .ok (.sipush 2200, 3) := by decide +kernel
theorem dX6_init_8 : decode cX6_init 8 = .ok (.newarray .int, 2) := by decide +kernel
theorem dX6_init_10 : decode cX6_init 10 = .ok (.putfield 11, 3) := by decide +kernel
theorem dX6_init_13 : decode cX6_init 13 = .ok (.return_, 1) := by decide +kernel
set_option maxRecDepth 20000 in
theorem dX6_gather_0 : decode cX6_gather 0 = .ok (.aload_n 0, 1) := by decide +kernel
theorem dX6_gather_1 : decode cX6_gather 1 = .ok (.iconst 0, 1) := by decide +kernel
theorem dX6_gather_2 : decode cX6_gather 2 = .ok (.putfield 15, 3) := by decide +kernel
theorem dX6_gather_5 : decode cX6_gather 5 = .ok (.aload_n 0, 1) := by decide +kernel
theorem dX6_gather_6 : decode cX6_gather 6 = .ok (.aload_n 1, 1) := by decide +kernel
theorem dX6_gather_7 : decode cX6_gather 7 = .ok (.invokevirtual 19, 3) := by decide +kernel
theorem dX6_gather_10 : decode cX6_gather 10 = .ok (.putfield 25, 3) := by decide +kernel
theorem dX6_gather_13 : decode cX6_gather 13 = .ok (.aload_n 1, 1) := by decide +kernel
theorem dX6_gather_14 : decode cX6_gather 14 = .ok (.iload_n 2, 1) := by decide +kernel
theorem dX6_gather_15 : decode cX6_gather 15 = .ok (.iload_n 3, 1) := by decide +kernel
theorem dX6_gather_16 : decode cX6_gather 16 = .ok (.aload_n 0, 1) := by decide +kernel
theorem dX6_gather_17 : decode cX6_gather 17 = .ok (.invokevirtual 28, 3) := by decide +kernel
theorem dX6_gather_20 : decode cX6_gather 20 = .ok (.return_, 1) := by decide +kernel
theorem dX6_note_0 : decode cX6_note 0 = .ok (.aload_n 0, 1) := by decide +kernel
theorem dX6_note_1 : decode cX6_note 1 = .ok (.getfield 15, 3) := by decide +kernel
theorem dX6_note_4 : decode cX6_note 4 = .ok (.iconst 2, 1) := by decide +kernel
theorem dX6_note_5 : decode cX6_note 5 = .ok (.if_icmp .lt 22, 3) := by decide +kernel
theorem dX6_note_8 : decode cX6_note 8 = .ok (.aload_n 0, 1) := by decide +kernel
theorem dX6_note_9 : decode cX6_note 9 = .ok (.getfield 11, 3) := by decide +kernel
theorem dX6_note_12 : decode cX6_note 12 = .ok (.aload_n 0, 1) := by decide +kernel
theorem dX6_note_13 : decode cX6_note 13 = .ok (.getfield 15, 3) := by decide +kernel
theorem dX6_note_16 : decode cX6_note 16 = .ok (.iconst 2, 1) := by decide +kernel
theorem dX6_note_17 : decode cX6_note 17 = .ok (.isub, 1) := by decide +kernel
theorem dX6_note_18 : decode cX6_note 18 = .ok (.iaload, 1) := by decide +kernel
theorem dX6_note_19 : decode cX6_note 19 = .ok (.iload_n 1, 1) := by decide +kernel
theorem dX6_note_20 : decode cX6_note 20 = .ok (.if_icmp .ne 7, 3) := by decide +kernel
theorem dX6_note_23 : decode cX6_note 23 = .ok (.iconst 1, 1) := by decide +kernel
theorem dX6_note_24 : decode cX6_note 24 = .ok (.goto 4, 3) := by decide +kernel
theorem dX6_note_27 : decode cX6_note 27 = .ok (.iconst 0, 1) := by decide +kernel
theorem dX6_note_28 : decode cX6_note 28 = .ok (.istore_n 2, 1) := by decide +kernel
theorem dX6_note_29 : decode cX6_note 29 = .ok (.iload_n 2, 1) := by decide +kernel
theorem dX6_note_30 : decode cX6_note 30 = .ok (.ifCond .ne 30, 3) := by decide +kernel
theorem dX6_note_33 : decode cX6_note 33 = .ok (.aload_n 0, 1) := by decide +kernel
theorem dX6_note_34 : decode cX6_note 34 = .ok (.getfield 15, 3) := by decide +kernel
theorem dX6_note_37 : decode cX6_note 37 = .ok (.sipush 2200, 3) := by decide +kernel
theorem dX6_note_40 : decode cX6_note 40 = .ok (.if_icmp .ge 20, 3) := by decide +kernel
theorem dX6_note_43 : decode cX6_note 43 = .ok (.aload_n 0, 1) := by decide +kernel
theorem dX6_note_44 : decode cX6_note 44 = .ok (.getfield 11, 3) := by decide +kernel
theorem dX6_note_47 : decode cX6_note 47 = .ok (.aload_n 0, 1) := by decide +kernel
theorem dX6_note_48 : decode cX6_note 48 = .ok (.dup, 1) := by decide +kernel
theorem dX6_note_49 : decode cX6_note 49 = .ok (.getfield 15, 3) := by decide +kernel
theorem dX6_note_52 : decode cX6_note 52 = .ok (.dup_x1, 1) := by decide +kernel
theorem dX6_note_53 : decode cX6_note 53 = .ok (.iconst 1, 1) := by decide +kernel
theorem dX6_note_54 : decode cX6_note 54 = .ok (.iadd, 1) := by decide +kernel
theorem dX6_note_55 : decode cX6_note 55 = .ok (.putfield 15, 3) := by decide +kernel
theorem dX6_note_58 : decode cX6_note 58 = .ok (.iload_n 1, 1) := by decide +kernel
theorem dX6_note_59 : decode cX6_note 59 = .ok (.iastore, 1) := by decide +kernel
theorem dX6_note_60 : decode cX6_note 60 = .ok (.return_, 1) := by decide +kernel
theorem dX6_countBy_0 : decode cX6_countBy 0 = .ok (.iconst 0, 1) := by decide +kernel
theorem dX6_countBy_1 : decode cX6_countBy 1 = .ok (.iload_n 2, 1) := by decide +kernel
theorem dX6_countBy_2 : decode cX6_countBy 2 = .ok (.invokestatic 32, 3) := by decide +kernel
theorem dX6_countBy_5 : decode cX6_countBy 5 = .ok (.istore_n 3, 1) := by decide +kernel
theorem dX6_countBy_6 : decode cX6_countBy 6 = .ok (.iload_n 3, 1) := by decide +kernel
theorem dX6_countBy_7 : decode cX6_countBy 7 = .ok (.aload_n 0, 1) := by decide +kernel
theorem dX6_countBy_8 : decode cX6_countBy 8 = .ok (.getfield 15, 3) := by decide +kernel
theorem dX6_countBy_11 : decode cX6_countBy 11 = .ok (.if_icmp .ge 19, 3) := by decide +kernel
theorem dX6_countBy_14 : decode cX6_countBy 14 = .ok (.aload_n 0, 1) := by decide +kernel
theorem dX6_countBy_15 : decode cX6_countBy 15 = .ok (.getfield 11, 3) := by decide +kernel
theorem dX6_countBy_18 : decode cX6_countBy 18 = .ok (.iload_n 3, 1) := by decide +kernel
theorem dX6_countBy_19 : decode cX6_countBy 19 = .ok (.iaload, 1) := by decide +kernel
theorem dX6_countBy_20 : decode cX6_countBy 20 = .ok (.iload_n 1, 1) := by decide +kernel
theorem dX6_countBy_21 : decode cX6_countBy 21 = .ok (.if_icmp .gt 9, 3) := by decide +kernel
theorem dX6_countBy_24 : decode cX6_countBy 24 = .ok (.iinc 3 1, 3) := by decide +kernel
theorem dX6_countBy_27 : decode cX6_countBy 27 = .ok (.goto (-21), 3) := by decide +kernel
theorem dX6_countBy_30 : decode cX6_countBy 30 = .ok (.iload_n 3, 1) := by decide +kernel
theorem dX6_countBy_31 : decode cX6_countBy 31 = .ok (.ireturn, 1) := by decide +kernel
theorem dX6_unseenAfter_0 : decode cX6_unseenAfter 0 = .ok (.iload_n 1, 1) := by decide +kernel
theorem dX6_unseenAfter_1 : decode cX6_unseenAfter 1 = .ok (.iconst 1, 1) := by decide +kernel
theorem dX6_unseenAfter_2 : decode cX6_unseenAfter 2 = .ok (.if_icmp .lt 11, 3) := by decide +kernel
theorem dX6_unseenAfter_5 : decode cX6_unseenAfter 5 = .ok (.iload_n 1, 1) := by decide +kernel
theorem dX6_unseenAfter_6 : decode cX6_unseenAfter 6 = .ok (.aload_n 0, 1) := by decide +kernel
theorem dX6_unseenAfter_7 : decode cX6_unseenAfter 7 = .ok (.getfield 15, 3) := by decide +kernel
theorem dX6_unseenAfter_10 : decode cX6_unseenAfter 10 = .ok (.if_icmp .le 9, 3) := by decide +kernel
theorem dX6_unseenAfter_13 : decode cX6_unseenAfter 13 = .ok (.iload_n 2, 1) := by decide +kernel
theorem dX6_unseenAfter_14 : decode cX6_unseenAfter 14 = .ok (.iconst 1, 1) := by decide +kernel
theorem dX6_unseenAfter_15 : decode cX6_unseenAfter 15 = .ok (.iadd, 1) := by decide +kernel
theorem dX6_unseenAfter_16 : decode cX6_unseenAfter 16 = .ok (.goto 13, 3) := by decide +kernel
theorem dX6_unseenAfter_19 : decode cX6_unseenAfter 19 = .ok (.iload_n 2, 1) := by decide +kernel
theorem dX6_unseenAfter_20 : decode cX6_unseenAfter 20 = .ok (.aload_n 0, 1) := by decide +kernel
theorem dX6_unseenAfter_21 : decode cX6_unseenAfter 21 = .ok (.getfield 11, 3) := by decide +kernel
theorem dX6_unseenAfter_24 : decode cX6_unseenAfter 24 = .ok (.iload_n 1, 1) := by decide +kernel
theorem dX6_unseenAfter_25 : decode cX6_unseenAfter 25 = .ok (.iconst 1, 1) := by decide +kernel
theorem dX6_unseenAfter_26 : decode cX6_unseenAfter 26 = .ok (.isub, 1) := by decide +kernel
theorem dX6_unseenAfter_27 : decode cX6_unseenAfter 27 = .ok (.iaload, 1) := by decide +kernel
theorem dX6_unseenAfter_28 : decode cX6_unseenAfter 28 = .ok (.isub, 1) := by decide +kernel
theorem dX6_unseenAfter_29 : decode cX6_unseenAfter 29 = .ok (.ireturn, 1) := by decide +kernel
theorem dX6_seenAfter_0 : decode cX6_seenAfter 0 = .ok (.iload_n 1, 1) := by decide +kernel
theorem dX6_seenAfter_1 : decode cX6_seenAfter 1 = .ok (.iconst 1, 1) := by decide +kernel
theorem dX6_seenAfter_2 : decode cX6_seenAfter 2 = .ok (.if_icmp .lt 32, 3) := by decide +kernel
theorem dX6_seenAfter_5 : decode cX6_seenAfter 5 = .ok (.iload_n 1, 1) := by decide +kernel
theorem dX6_seenAfter_6 : decode cX6_seenAfter 6 = .ok (.aload_n 0, 1) := by decide +kernel
theorem dX6_seenAfter_7 : decode cX6_seenAfter 7 = .ok (.getfield 15, 3) := by decide +kernel
theorem dX6_seenAfter_10 : decode cX6_seenAfter 10 = .ok (.if_icmp .gt 24, 3) := by decide +kernel
theorem dX6_seenAfter_13 : decode cX6_seenAfter 13 = .ok (.iload_n 2, 1) := by decide +kernel
theorem dX6_seenAfter_14 : decode cX6_seenAfter 14 = .ok (.aload_n 0, 1) := by decide +kernel
theorem dX6_seenAfter_15 : decode cX6_seenAfter 15 = .ok (.getfield 11, 3) := by decide +kernel
theorem dX6_seenAfter_18 : decode cX6_seenAfter 18 = .ok (.iload_n 1, 1) := by decide +kernel
theorem dX6_seenAfter_19 : decode cX6_seenAfter 19 = .ok (.iconst 1, 1) := by decide +kernel
theorem dX6_seenAfter_20 : decode cX6_seenAfter 20 = .ok (.isub, 1) := by decide +kernel
theorem dX6_seenAfter_21 : decode cX6_seenAfter 21 = .ok (.iaload, 1) := by decide +kernel
theorem dX6_seenAfter_22 : decode cX6_seenAfter 22 = .ok (.isub, 1) := by decide +kernel
theorem dX6_seenAfter_23 : decode cX6_seenAfter 23 = .ok (.aload_n 0, 1) := by decide +kernel
theorem dX6_seenAfter_24 : decode cX6_seenAfter 24 = .ok (.getfield 25, 3) := by decide +kernel
theorem dX6_seenAfter_27 : decode cX6_seenAfter 27 = .ok (.if_icmp .ge 7, 3) := by decide +kernel
theorem dX6_seenAfter_30 : decode cX6_seenAfter 30 = .ok (.iconst 1, 1) := by decide +kernel
theorem dX6_seenAfter_31 : decode cX6_seenAfter 31 = .ok (.goto 4, 3) := by decide +kernel
theorem dX6_seenAfter_34 : decode cX6_seenAfter 34 = .ok (.iconst 0, 1) := by decide +kernel
theorem dX6_seenAfter_35 : decode cX6_seenAfter 35 = .ok (.ireturn, 1) := by decide +kernel
set_option maxRecDepth 20000 in
theorem dX6_unseenAtEnd_0 : decode cX6_unseenAtEnd 0 = .ok (.aload_n 0, 1) := by decide +kernel
theorem dX6_unseenAtEnd_1 : decode cX6_unseenAtEnd 1 = .ok (.aload_n 0, 1) := by decide +kernel
theorem dX6_unseenAtEnd_2 : decode cX6_unseenAtEnd 2 = .ok (.getfield 15, 3) := by decide +kernel
theorem dX6_unseenAtEnd_5 : decode cX6_unseenAtEnd 5 = .ok (.iload_n 1, 1) := by decide +kernel
theorem dX6_unseenAtEnd_6 : decode cX6_unseenAtEnd 6 = .ok (.invokevirtual 38, 3) := by decide +kernel
theorem dX6_unseenAtEnd_9 : decode cX6_unseenAtEnd 9 = .ok (.ireturn, 1) := by decide +kernel
set_option maxRecDepth 20000 in
theorem dX6_seenAtEnd_0 : decode cX6_seenAtEnd 0 = .ok (.aload_n 0, 1) := by decide +kernel
theorem dX6_seenAtEnd_1 : decode cX6_seenAtEnd 1 = .ok (.aload_n 0, 1) := by decide +kernel
theorem dX6_seenAtEnd_2 : decode cX6_seenAtEnd 2 = .ok (.getfield 15, 3) := by decide +kernel
theorem dX6_seenAtEnd_5 : decode cX6_seenAtEnd 5 = .ok (.iload_n 1, 1) := by decide +kernel
theorem dX6_seenAtEnd_6 : decode cX6_seenAtEnd 6 = .ok (.invokevirtual 41, 3) := by decide +kernel
theorem dX6_seenAtEnd_9 : decode cX6_seenAtEnd 9 = .ok (.ireturn, 1) := by decide +kernel
theorem dX6_freeFrom_0 : decode cX6_freeFrom 0 = .ok (.iload_n 1, 1) := by decide +kernel
theorem dX6_freeFrom_1 : decode cX6_freeFrom 1 = .ok (.istore_n 3, 1) := by decide +kernel
theorem dX6_freeFrom_2 : decode cX6_freeFrom 2 = .ok (.iconst 0, 1) := by decide +kernel
theorem dX6_freeFrom_3 : decode cX6_freeFrom 3 = .ok (.istore 4, 2) := by decide +kernel
theorem dX6_freeFrom_5 : decode cX6_freeFrom 5 = .ok (.iload 4, 2) := by decide +kernel
theorem dX6_freeFrom_7 : decode cX6_freeFrom 7 = .ok (.aload_n 0, 1) := by decide +kernel
theorem dX6_freeFrom_8 : decode cX6_freeFrom 8 = .ok (.getfield 15, 3) := by decide +kernel
theorem dX6_freeFrom_11 : decode cX6_freeFrom 11 = .ok (.if_icmp .ge 39, 3) := by decide +kernel
theorem dX6_freeFrom_14 : decode cX6_freeFrom 14 = .ok (.aload_n 0, 1) := by decide +kernel
theorem dX6_freeFrom_15 : decode cX6_freeFrom 15 = .ok (.getfield 11, 3) := by decide +kernel
theorem dX6_freeFrom_18 : decode cX6_freeFrom 18 = .ok (.iload 4, 2) := by decide +kernel
theorem dX6_freeFrom_20 : decode cX6_freeFrom 20 = .ok (.iaload, 1) := by decide +kernel
theorem dX6_freeFrom_21 : decode cX6_freeFrom 21 = .ok (.iload_n 3, 1) := by decide +kernel
theorem dX6_freeFrom_22 : decode cX6_freeFrom 22 = .ok (.iload_n 2, 1) := by decide +kernel
theorem dX6_freeFrom_23 : decode cX6_freeFrom 23 = .ok (.iadd, 1) := by decide +kernel
theorem dX6_freeFrom_24 : decode cX6_freeFrom 24 = .ok (.if_icmp .ge 26, 3) := by decide +kernel
theorem dX6_freeFrom_27 : decode cX6_freeFrom 27 = .ok (.iload_n 3, 1) := by decide +kernel
theorem dX6_freeFrom_28 : decode cX6_freeFrom 28 = .ok (.aload_n 0, 1) := by decide +kernel
theorem dX6_freeFrom_29 : decode cX6_freeFrom 29 = .ok (.getfield 11, 3) := by decide +kernel
theorem dX6_freeFrom_32 : decode cX6_freeFrom 32 = .ok (.iload 4, 2) := by decide +kernel
theorem dX6_freeFrom_34 : decode cX6_freeFrom 34 = .ok (.iaload, 1) := by decide +kernel
theorem dX6_freeFrom_35 : decode cX6_freeFrom 35 = .ok (.aload_n 0, 1) := by decide +kernel
theorem dX6_freeFrom_36 : decode cX6_freeFrom 36 = .ok (.getfield 25, 3) := by decide +kernel
theorem dX6_freeFrom_39 : decode cX6_freeFrom 39 = .ok (.iadd, 1) := by decide +kernel
theorem dX6_freeFrom_40 : decode cX6_freeFrom 40 = .ok (.invokestatic 32, 3) := by decide +kernel
theorem dX6_freeFrom_43 : decode cX6_freeFrom 43 = .ok (.istore_n 3, 1) := by decide +kernel
theorem dX6_freeFrom_44 : decode cX6_freeFrom 44 = .ok (.iinc 4 1, 3) := by decide +kernel
theorem dX6_freeFrom_47 : decode cX6_freeFrom 47 = .ok (.goto (-42), 3) := by decide +kernel
theorem dX6_freeFrom_50 : decode cX6_freeFrom 50 = .ok (.iload_n 3, 1) := by decide +kernel
theorem dX6_freeFrom_51 : decode cX6_freeFrom 51 = .ok (.ireturn, 1) := by decide +kernel
theorem dX6_strikeOut_0 : decode cX6_strikeOut 0 = .ok (.iconst 0, 1) := by decide +kernel
theorem dX6_strikeOut_1 : decode cX6_strikeOut 1 = .ok (.istore 4, 2) := by decide +kernel
theorem dX6_strikeOut_3 : decode cX6_strikeOut 3 = .ok (.iconst 0, 1) := by decide +kernel
theorem dX6_strikeOut_4 : decode cX6_strikeOut 4 = .ok (.istore 5, 2) := by decide +kernel
theorem dX6_strikeOut_6 : decode cX6_strikeOut 6 = .ok (.iload 5, 2) := by decide +kernel
theorem dX6_strikeOut_8 : decode cX6_strikeOut 8 = .ok (.aload_n 0, 1) := by decide +kernel
theorem dX6_strikeOut_9 : decode cX6_strikeOut 9 = .ok (.getfield 15, 3) := by decide +kernel
theorem dX6_strikeOut_12 : decode cX6_strikeOut 12 = .ok (.if_icmp .ge 69, 3) := by decide +kernel
theorem dX6_strikeOut_15 : decode cX6_strikeOut 15 = .ok (.aload_n 1, 1) := by decide +kernel
theorem dX6_strikeOut_16 : decode cX6_strikeOut 16 = .ok (.arraylength, 1) := by decide +kernel
theorem dX6_strikeOut_17 : decode cX6_strikeOut 17 = .ok (.aload_n 0, 1) := by decide +kernel
theorem dX6_strikeOut_18 : decode cX6_strikeOut 18 = .ok (.getfield 11, 3) := by decide +kernel
theorem dX6_strikeOut_21 : decode cX6_strikeOut 21 = .ok (.iload 5, 2) := by decide +kernel
theorem dX6_strikeOut_23 : decode cX6_strikeOut 23 = .ok (.iaload, 1) := by decide +kernel
theorem dX6_strikeOut_24 : decode cX6_strikeOut 24 = .ok (.aload_n 0, 1) := by decide +kernel
theorem dX6_strikeOut_25 : decode cX6_strikeOut 25 = .ok (.getfield 25, 3) := by decide +kernel
theorem dX6_strikeOut_28 : decode cX6_strikeOut 28 = .ok (.iadd, 1) := by decide +kernel
theorem dX6_strikeOut_29 : decode cX6_strikeOut 29 = .ok (.invokestatic 45, 3) := by decide +kernel
theorem dX6_strikeOut_32 : decode cX6_strikeOut 32 = .ok (.istore 6, 2) := by decide +kernel
theorem dX6_strikeOut_34 : decode cX6_strikeOut 34 = .ok (.iload 4, 2) := by decide +kernel
theorem dX6_strikeOut_36 : decode cX6_strikeOut 36 = .ok (.aload_n 0, 1) := by decide +kernel
theorem dX6_strikeOut_37 : decode cX6_strikeOut 37 = .ok (.getfield 11, 3) := by decide +kernel
theorem dX6_strikeOut_40 : decode cX6_strikeOut 40 = .ok (.iload 5, 2) := by decide +kernel
theorem dX6_strikeOut_42 : decode cX6_strikeOut 42 = .ok (.iaload, 1) := by decide +kernel
theorem dX6_strikeOut_43 : decode cX6_strikeOut 43 = .ok (.iload_n 2, 1) := by decide +kernel
theorem dX6_strikeOut_44 : decode cX6_strikeOut 44 = .ok (.isub, 1) := by decide +kernel
theorem dX6_strikeOut_45 : decode cX6_strikeOut 45 = .ok (.iconst 1, 1) := by decide +kernel
theorem dX6_strikeOut_46 : decode cX6_strikeOut 46 = .ok (.iadd, 1) := by decide +kernel
theorem dX6_strikeOut_47 : decode cX6_strikeOut 47 = .ok (.invokestatic 32, 3) := by decide +kernel
theorem dX6_strikeOut_50 : decode cX6_strikeOut 50 = .ok (.istore 4, 2) := by decide +kernel
theorem dX6_strikeOut_52 : decode cX6_strikeOut 52 = .ok (.iload 4, 2) := by decide +kernel
theorem dX6_strikeOut_54 : decode cX6_strikeOut 54 = .ok (.iload 6, 2) := by decide +kernel
theorem dX6_strikeOut_56 : decode cX6_strikeOut 56 = .ok (.if_icmp .ge 19, 3) := by decide +kernel
theorem dX6_strikeOut_59 : decode cX6_strikeOut 59 = .ok (.aload_n 1, 1) := by decide +kernel
theorem dX6_strikeOut_60 : decode cX6_strikeOut 60 = .ok (.iload 4, 2) := by decide +kernel
theorem dX6_strikeOut_62 : decode cX6_strikeOut 62 = .ok (.dup2, 1) := by decide +kernel
theorem dX6_strikeOut_63 : decode cX6_strikeOut 63 = .ok (.iaload, 1) := by decide +kernel
theorem dX6_strikeOut_64 : decode cX6_strikeOut 64 = .ok (.iload_n 3, 1) := by decide +kernel
theorem dX6_strikeOut_65 : decode cX6_strikeOut 65 = .ok (.iconst (-1), 1) := by decide +kernel
theorem dX6_strikeOut_66 : decode cX6_strikeOut 66 = .ok (.ixor, 1) := by decide +kernel
theorem dX6_strikeOut_67 : decode cX6_strikeOut 67 = .ok (.iand, 1) := by decide +kernel
theorem dX6_strikeOut_68 : decode cX6_strikeOut 68 = .ok (.iastore, 1) := by decide +kernel
theorem dX6_strikeOut_69 : decode cX6_strikeOut 69 = .ok (.iinc 4 1, 3) := by decide +kernel
theorem dX6_strikeOut_72 : decode cX6_strikeOut 72 = .ok (.goto (-20), 3) := by decide +kernel
theorem dX6_strikeOut_75 : decode cX6_strikeOut 75 = .ok (.iinc 5 1, 3) := by decide +kernel
theorem dX6_strikeOut_78 : decode cX6_strikeOut 78 = .ok (.goto (-72), 3) := by decide +kernel
theorem dX6_strikeOut_81 : decode cX6_strikeOut 81 = .ok (.return_, 1) := by decide +kernel
set_option maxRecDepth 20000 in
theorem dX6_widestOfTwo_0 : decode cX6_widestOfTwo 0 = .ok (.aload_n 0, 1) := by decide +kernel
theorem dX6_widestOfTwo_1 : decode cX6_widestOfTwo 1 = .ok (.iload_n 1, 1) := by decide +kernel
theorem dX6_widestOfTwo_2 : decode cX6_widestOfTwo 2 = .ok (.iconst 1, 1) := by decide +kernel
theorem dX6_widestOfTwo_3 : decode cX6_widestOfTwo 3 = .ok (.isub, 1) := by decide +kernel
theorem dX6_widestOfTwo_4 : decode cX6_widestOfTwo 4 = .ok (.iconst 0, 1) := by decide +kernel
theorem dX6_widestOfTwo_5 : decode cX6_widestOfTwo 5 = .ok (.invokevirtual 48, 3) := by decide +kernel
theorem dX6_widestOfTwo_8 : decode cX6_widestOfTwo 8 = .ok (.istore_n 3, 1) := by decide +kernel
theorem dX6_widestOfTwo_9 : decode cX6_widestOfTwo 9 = .ok (.iconst 0, 1) := by decide +kernel
theorem dX6_widestOfTwo_10 : decode cX6_widestOfTwo 10 = .ok (.istore 4, 2) := by decide +kernel
theorem dX6_widestOfTwo_12 : decode cX6_widestOfTwo 12 = .ok (.bipush (-2), 2) := by decide +kernel
theorem dX6_widestOfTwo_14 : decode cX6_widestOfTwo 14 = .ok (.istore 5, 2) := by decide +kernel
theorem dX6_widestOfTwo_16 : decode cX6_widestOfTwo 16 = .ok (.bipush (-2), 2) := by decide +kernel
theorem dX6_widestOfTwo_18 : decode cX6_widestOfTwo 18 = .ok (.istore 6, 2) := by decide +kernel
theorem dX6_widestOfTwo_20 : decode cX6_widestOfTwo 20 = .ok (.iconst 0, 1) := by decide +kernel
theorem dX6_widestOfTwo_21 : decode cX6_widestOfTwo 21 = .ok (.istore 7, 2) := by decide +kernel
theorem dX6_widestOfTwo_23 : decode cX6_widestOfTwo 23 = .ok (.iload 7, 2) := by decide +kernel
theorem dX6_widestOfTwo_25 : decode cX6_widestOfTwo 25 = .ok (.iconst 2, 1) := by decide +kernel
theorem dX6_widestOfTwo_26 : decode cX6_widestOfTwo 26 = .ok (.aload_n 0, 1) := by decide +kernel
theorem dX6_widestOfTwo_27 : decode cX6_widestOfTwo 27 = .ok (.getfield 15, 3) := by decide +kernel
theorem dX6_widestOfTwo_30 : decode cX6_widestOfTwo 30 = .ok (.imul, 1) := by decide +kernel
theorem dX6_widestOfTwo_31 : decode cX6_widestOfTwo 31 = .ok (.if_icmp .ge 117, 3) := by decide +kernel
theorem dX6_widestOfTwo_34 : decode cX6_widestOfTwo 34 = .ok (.iload_n 3, 1) := by decide +kernel
theorem dX6_widestOfTwo_35 : decode cX6_widestOfTwo 35 = .ok (.aload_n 0, 1) := by decide +kernel
theorem dX6_widestOfTwo_36 : decode cX6_widestOfTwo 36 = .ok (.getfield 15, 3) := by decide +kernel
theorem dX6_widestOfTwo_39 : decode cX6_widestOfTwo 39 = .ok (.if_icmp .ge 12, 3) := by decide +kernel
theorem dX6_widestOfTwo_42 : decode cX6_widestOfTwo 42 = .ok (.aload_n 0, 1) := by decide +kernel
theorem dX6_widestOfTwo_43 : decode cX6_widestOfTwo 43 = .ok (.getfield 11, 3) := by decide +kernel
theorem dX6_widestOfTwo_46 : decode cX6_widestOfTwo 46 = .ok (.iload_n 3, 1) := by decide +kernel
theorem dX6_widestOfTwo_47 : decode cX6_widestOfTwo 47 = .ok (.iaload, 1) := by decide +kernel
theorem dX6_widestOfTwo_48 : decode cX6_widestOfTwo 48 = .ok (.goto 5, 3) := by decide +kernel
theorem dX6_widestOfTwo_51 : decode cX6_widestOfTwo 51 = .ok (.ldc 51, 2) := by decide +kernel
theorem dX6_widestOfTwo_53 : decode cX6_widestOfTwo 53 = .ok (.istore 8, 2) := by decide +kernel
theorem dX6_widestOfTwo_55 : decode cX6_widestOfTwo 55 = .ok (.iload 4, 2) := by decide +kernel
theorem dX6_widestOfTwo_57 : decode cX6_widestOfTwo 57 = .ok (.aload_n 0, 1) := by decide +kernel
theorem dX6_widestOfTwo_58 : decode cX6_widestOfTwo 58 = .ok (.getfield 15, 3) := by decide +kernel
theorem dX6_widestOfTwo_61 : decode cX6_widestOfTwo 61 = .ok (.if_icmp .ge 15, 3) := by decide +kernel
theorem dX6_widestOfTwo_64 : decode cX6_widestOfTwo 64 = .ok (.aload_n 0, 1) := by decide +kernel
theorem dX6_widestOfTwo_65 : decode cX6_widestOfTwo 65 = .ok (.getfield 11, 3) := by decide +kernel
theorem dX6_widestOfTwo_68 : decode cX6_widestOfTwo 68 = .ok (.iload 4, 2) := by decide +kernel
theorem dX6_widestOfTwo_70 : decode cX6_widestOfTwo 70 = .ok (.iaload, 1) := by decide +kernel
theorem dX6_widestOfTwo_71 : decode cX6_widestOfTwo 71 = .ok (.iload_n 1, 1) := by decide +kernel
theorem dX6_widestOfTwo_72 : decode cX6_widestOfTwo 72 = .ok (.iadd, 1) := by decide +kernel
theorem dX6_widestOfTwo_73 : decode cX6_widestOfTwo 73 = .ok (.goto 5, 3) := by decide +kernel
theorem dX6_widestOfTwo_76 : decode cX6_widestOfTwo 76 = .ok (.ldc 51, 2) := by decide +kernel
theorem dX6_widestOfTwo_78 : decode cX6_widestOfTwo 78 = .ok (.istore 9, 2) := by decide +kernel
theorem dX6_widestOfTwo_80 : decode cX6_widestOfTwo 80 = .ok (.iload 8, 2) := by decide +kernel
theorem dX6_widestOfTwo_82 : decode cX6_widestOfTwo 82 = .ok (.iload 9, 2) := by decide +kernel
theorem dX6_widestOfTwo_84 : decode cX6_widestOfTwo 84 = .ok (.invokestatic 45, 3) := by decide +kernel
theorem dX6_widestOfTwo_87 : decode cX6_widestOfTwo 87 = .ok (.istore 10, 2) := by decide +kernel
theorem dX6_widestOfTwo_89 : decode cX6_widestOfTwo 89 = .ok (.iload 10, 2) := by decide +kernel
theorem dX6_widestOfTwo_91 : decode cX6_widestOfTwo 91 = .ok (.iload_n 2, 1) := by decide +kernel
theorem dX6_widestOfTwo_92 : decode cX6_widestOfTwo 92 = .ok (.if_icmp .le 6, 3) := by decide +kernel
theorem dX6_widestOfTwo_95 : decode cX6_widestOfTwo 95 = .ok (.goto 53, 3) := by decide +kernel
theorem dX6_widestOfTwo_98 : decode cX6_widestOfTwo 98 = .ok (.iload 8, 2) := by decide +kernel
theorem dX6_widestOfTwo_100 : decode cX6_widestOfTwo 100 = .ok (.iload 9, 2) := by decide +kernel
theorem dX6_widestOfTwo_102 : decode cX6_widestOfTwo 102 = .ok (.if_icmp .gt 9, 3) := by decide +kernel
theorem dX6_widestOfTwo_105 : decode cX6_widestOfTwo 105 = .ok (.iinc 3 1, 3) := by decide +kernel
theorem dX6_widestOfTwo_108 : decode cX6_widestOfTwo 108 = .ok (.goto 6, 3) := by decide +kernel
theorem dX6_widestOfTwo_111 : decode cX6_widestOfTwo 111 = .ok (.iinc 4 1, 3) := by decide +kernel
theorem dX6_widestOfTwo_114 : decode cX6_widestOfTwo 114 = .ok (.iload 6, 2) := by decide +kernel
theorem dX6_widestOfTwo_116 : decode cX6_widestOfTwo 116 = .ok (.bipush (-2), 2) := by decide +kernel
theorem dX6_widestOfTwo_118 : decode cX6_widestOfTwo 118 = .ok (.if_icmp .ne 8, 3) := by decide +kernel
theorem dX6_widestOfTwo_121 : decode cX6_widestOfTwo 121 = .ok (.bipush (-2), 2) := by decide +kernel
theorem dX6_widestOfTwo_123 : decode cX6_widestOfTwo 123 = .ok (.goto 13, 3) := by decide +kernel
theorem dX6_widestOfTwo_126 : decode cX6_widestOfTwo 126 = .ok (.iload 5, 2) := by decide +kernel
theorem dX6_widestOfTwo_128 : decode cX6_widestOfTwo 128 = .ok (.iload 10, 2) := by decide +kernel
theorem dX6_widestOfTwo_130 : decode cX6_widestOfTwo 130 = .ok (.iload 6, 2) := by decide +kernel
theorem dX6_widestOfTwo_132 : decode cX6_widestOfTwo 132 = .ok (.isub, 1) := by decide +kernel
theorem dX6_widestOfTwo_133 : decode cX6_widestOfTwo 133 = .ok (.invokestatic 32, 3) := by decide +kernel
theorem dX6_widestOfTwo_136 : decode cX6_widestOfTwo 136 = .ok (.istore 5, 2) := by decide +kernel
theorem dX6_widestOfTwo_138 : decode cX6_widestOfTwo 138 = .ok (.iload 10, 2) := by decide +kernel
theorem dX6_widestOfTwo_140 : decode cX6_widestOfTwo 140 = .ok (.istore 6, 2) := by decide +kernel
theorem dX6_widestOfTwo_142 : decode cX6_widestOfTwo 142 = .ok (.iinc 7 1, 3) := by decide +kernel
theorem dX6_widestOfTwo_145 : decode cX6_widestOfTwo 145 = .ok (.goto (-122), 3) := by decide +kernel
theorem dX6_widestOfTwo_148 : decode cX6_widestOfTwo 148 = .ok (.iload 5, 2) := by decide +kernel
theorem dX6_widestOfTwo_150 : decode cX6_widestOfTwo 150 = .ok (.ireturn, 1) := by decide +kernel
theorem dX7_init_0 : decode cX7_init 0 = .ok (.aload_n 0, 1) := by decide +kernel
theorem dX7_init_1 : decode cX7_init 1 = .ok (.invokespecial 3, 3) := by decide +kernel
theorem dX7_init_4 : decode cX7_init 4 = .ok (.aload_n 0, 1) := by decide +kernel
theorem dX7_init_5 : decode cX7_init 5 = .ok (.bipush 7, 2) := by decide +kernel
theorem dX7_init_7 : decode cX7_init 7 = .ok (.newarray .int, 2) := by decide +kernel
theorem dX7_init_9 : decode cX7_init 9 = .ok (.putfield 9, 3) := by decide +kernel
theorem dX7_init_12 : decode cX7_init 12 = .ok (.aload_n 0, 1) := by decide +kernel
theorem dX7_init_13 : decode cX7_init 13 = .ok (.sipush 896, 3) := by decide +kernel
theorem dX7_init_16 : decode cX7_init 16 = .ok (.newarray .int, 2) := by decide +kernel
theorem dX7_init_18 : decode cX7_init 18 = .ok (.putfield 15, 3) := by decide +kernel
theorem dX7_init_21 : decode cX7_init 21 = .ok (.aload_n 0, 1) := by decide +kernel
theorem dX7_init_22 : decode cX7_init 22 = .ok (.aload_n 1, 1) := by decide +kernel
theorem dX7_init_23 : decode cX7_init 23 = .ok (.putfield 18, 3) := by decide +kernel
theorem dX7_init_26 : decode cX7_init 26 = .ok (.return_, 1) := by decide +kernel
set_option maxRecDepth 20000 in
theorem dX7_reckon_0 : decode cX7_reckon 0 = .ok (.aload_n 0, 1) := by decide +kernel
theorem dX7_reckon_1 : decode cX7_reckon 1 = .ok (.iconst 0, 1) := by decide +kernel
theorem dX7_reckon_2 : decode cX7_reckon 2 = .ok (.putfield 22, 3) := by decide +kernel
theorem dX7_reckon_5 : decode cX7_reckon 5 = .ok (.iconst 0, 1) := by decide +kernel
theorem dX7_reckon_6 : decode cX7_reckon 6 = .ok (.istore_n 2, 1) := by decide +kernel
theorem dX7_reckon_7 : decode cX7_reckon 7 = .ok (.iload_n 2, 1) := by decide +kernel
theorem dX7_reckon_8 : decode cX7_reckon 8 = .ok (.aload_n 0, 1) := by decide +kernel
theorem dX7_reckon_9 : decode cX7_reckon 9 = .ok (.getfield 18, 3) := by decide +kernel
theorem dX7_reckon_12 : decode cX7_reckon 12 = .ok (.getfield 26, 3) := by decide +kernel
theorem dX7_reckon_15 : decode cX7_reckon 15 = .ok (.if_icmp .ge 43, 3) := by decide +kernel
theorem dX7_reckon_18 : decode cX7_reckon 18 = .ok (.aload_n 0, 1) := by decide +kernel
theorem dX7_reckon_19 : decode cX7_reckon 19 = .ok (.getfield 22, 3) := by decide +kernel
theorem dX7_reckon_22 : decode cX7_reckon 22 = .ok (.bipush 7, 2) := by decide +kernel
theorem dX7_reckon_24 : decode cX7_reckon 24 = .ok (.if_icmp .ge 34, 3) := by decide +kernel
theorem dX7_reckon_27 : decode cX7_reckon 27 = .ok (.iload_n 1, 1) := by decide +kernel
theorem dX7_reckon_28 : decode cX7_reckon 28 = .ok (.iload_n 2, 1) := by decide +kernel
theorem dX7_reckon_29 : decode cX7_reckon 29 = .ok (.ishr, 1) := by decide +kernel
theorem dX7_reckon_30 : decode cX7_reckon 30 = .ok (.iconst 1, 1) := by decide +kernel
theorem dX7_reckon_31 : decode cX7_reckon 31 = .ok (.iand, 1) := by decide +kernel
theorem dX7_reckon_32 : decode cX7_reckon 32 = .ok (.ifCond .eq 20, 3) := by decide +kernel
theorem dX7_reckon_35 : decode cX7_reckon 35 = .ok (.aload_n 0, 1) := by decide +kernel
theorem dX7_reckon_36 : decode cX7_reckon 36 = .ok (.getfield 9, 3) := by decide +kernel
theorem dX7_reckon_39 : decode cX7_reckon 39 = .ok (.aload_n 0, 1) := by decide +kernel
theorem dX7_reckon_40 : decode cX7_reckon 40 = .ok (.dup, 1) := by decide +kernel
theorem dX7_reckon_41 : decode cX7_reckon 41 = .ok (.getfield 22, 3) := by decide +kernel
theorem dX7_reckon_44 : decode cX7_reckon 44 = .ok (.dup_x1, 1) := by decide +kernel
theorem dX7_reckon_45 : decode cX7_reckon 45 = .ok (.iconst 1, 1) := by decide +kernel
theorem dX7_reckon_46 : decode cX7_reckon 46 = .ok (.iadd, 1) := by decide +kernel
theorem dX7_reckon_47 : decode cX7_reckon 47 = .ok (.putfield 22, 3) := by decide +kernel
theorem dX7_reckon_50 : decode cX7_reckon 50 = .ok (.iload_n 2, 1) := by decide +kernel
theorem dX7_reckon_51 : decode cX7_reckon 51 = .ok (.iastore, 1) := by decide +kernel
theorem dX7_reckon_52 : decode cX7_reckon 52 = .ok (.iinc 2 1, 3) := by decide +kernel
theorem dX7_reckon_55 : decode cX7_reckon 55 = .ok (.goto (-48), 3) := by decide +kernel
theorem dX7_reckon_58 : decode cX7_reckon 58 = .ok (.iconst 0, 1) := by decide +kernel
theorem dX7_reckon_59 : decode cX7_reckon 59 = .ok (.istore_n 2, 1) := by decide +kernel
theorem dX7_reckon_60 : decode cX7_reckon 60 = .ok (.iload_n 2, 1) := by decide +kernel
theorem dX7_reckon_61 : decode cX7_reckon 61 = .ok (.iconst 1, 1) := by decide +kernel
theorem dX7_reckon_62 : decode cX7_reckon 62 = .ok (.aload_n 0, 1) := by decide +kernel
theorem dX7_reckon_63 : decode cX7_reckon 63 = .ok (.getfield 22, 3) := by decide +kernel
theorem dX7_reckon_66 : decode cX7_reckon 66 = .ok (.ishl, 1) := by decide +kernel
theorem dX7_reckon_67 : decode cX7_reckon 67 = .ok (.if_icmp .ge 55, 3) := by decide +kernel
theorem dX7_reckon_70 : decode cX7_reckon 70 = .ok (.iconst 0, 1) := by decide +kernel
theorem dX7_reckon_71 : decode cX7_reckon 71 = .ok (.istore_n 3, 1) := by decide +kernel
theorem dX7_reckon_72 : decode cX7_reckon 72 = .ok (.iload_n 3, 1) := by decide +kernel
theorem dX7_reckon_73 : decode cX7_reckon 73 = .ok (.aload_n 0, 1) := by decide +kernel
theorem dX7_reckon_74 : decode cX7_reckon 74 = .ok (.getfield 22, 3) := by decide +kernel
theorem dX7_reckon_77 : decode cX7_reckon 77 = .ok (.if_icmp .ge 39, 3) := by decide +kernel
theorem dX7_reckon_80 : decode cX7_reckon 80 = .ok (.iload_n 2, 1) := by decide +kernel
theorem dX7_reckon_81 : decode cX7_reckon 81 = .ok (.iload_n 3, 1) := by decide +kernel
theorem dX7_reckon_82 : decode cX7_reckon 82 = .ok (.ishr, 1) := by decide +kernel
theorem dX7_reckon_83 : decode cX7_reckon 83 = .ok (.iconst 1, 1) := by decide +kernel
theorem dX7_reckon_84 : decode cX7_reckon 84 = .ok (.iand, 1) := by decide +kernel
theorem dX7_reckon_85 : decode cX7_reckon 85 = .ok (.ifCond .ne 25, 3) := by decide +kernel
theorem dX7_reckon_88 : decode cX7_reckon 88 = .ok (.aload_n 0, 1) := by decide +kernel
theorem dX7_reckon_89 : decode cX7_reckon 89 = .ok (.getfield 15, 3) := by decide +kernel
theorem dX7_reckon_92 : decode cX7_reckon 92 = .ok (.iload_n 2, 1) := by decide +kernel
theorem dX7_reckon_93 : decode cX7_reckon 93 = .ok (.bipush 7, 2) := by decide +kernel
theorem dX7_reckon_95 : decode cX7_reckon 95 = .ok (.imul, 1) := by decide +kernel
theorem dX7_reckon_96 : decode cX7_reckon 96 = .ok (.iload_n 3, 1) := by decide +kernel
theorem dX7_reckon_97 : decode cX7_reckon 97 = .ok (.iadd, 1) := by decide +kernel
theorem dX7_reckon_98 : decode cX7_reckon 98 = .ok (.aload_n 0, 1) := by decide +kernel
theorem dX7_reckon_99 : decode cX7_reckon 99 = .ok (.aload_n 0, 1) := by decide +kernel
theorem dX7_reckon_100 : decode cX7_reckon 100 = .ok (.getfield 9, 3) := by decide +kernel
theorem dX7_reckon_103 : decode cX7_reckon 103 = .ok (.iload_n 3, 1) := by decide +kernel
theorem dX7_reckon_104 : decode cX7_reckon 104 = .ok (.iaload, 1) := by decide +kernel
theorem dX7_reckon_105 : decode cX7_reckon 105 = .ok (.iload_n 2, 1) := by decide +kernel
theorem dX7_reckon_106 : decode cX7_reckon 106 = .ok (.invokevirtual 29, 3) := by decide +kernel
theorem dX7_reckon_109 : decode cX7_reckon 109 = .ok (.iastore, 1) := by decide +kernel
theorem dX7_reckon_110 : decode cX7_reckon 110 = .ok (.iinc 3 1, 3) := by decide +kernel
theorem dX7_reckon_113 : decode cX7_reckon 113 = .ok (.goto (-41), 3) := by decide +kernel
theorem dX7_reckon_116 : decode cX7_reckon 116 = .ok (.iinc 2 1, 3) := by decide +kernel
theorem dX7_reckon_119 : decode cX7_reckon 119 = .ok (.goto (-59), 3) := by decide +kernel
theorem dX7_reckon_122 : decode cX7_reckon 122 = .ok (.aload_n 0, 1) := by decide +kernel
theorem dX7_reckon_123 : decode cX7_reckon 123 = .ok (.bipush 9, 2) := by decide +kernel
theorem dX7_reckon_125 : decode cX7_reckon 125 = .ok (.iconst 1, 1) := by decide +kernel
theorem dX7_reckon_126 : decode cX7_reckon 126 = .ok (.aload_n 0, 1) := by decide +kernel
theorem dX7_reckon_127 : decode cX7_reckon 127 = .ok (.getfield 22, 3) := by decide +kernel
theorem dX7_reckon_130 : decode cX7_reckon 130 = .ok (.ishl, 1) := by decide +kernel
theorem dX7_reckon_131 : decode cX7_reckon 131 = .ok (.iconst 1, 1) := by decide +kernel
theorem dX7_reckon_132 : decode cX7_reckon 132 = .ok (.isub, 1) := by decide +kernel
theorem dX7_reckon_133 : decode cX7_reckon 133 = .ok (.invokevirtual 29, 3) := by decide +kernel
theorem dX7_reckon_136 : decode cX7_reckon 136 = .ok (.ireturn, 1) := by decide +kernel
set_option maxRecDepth 20000 in
theorem dX7_minutesWithout_0 : decode cX7_minutesWithout 0 = .ok (.aload_n 0, 1) := by decide +kernel
theorem dX7_minutesWithout_1 : decode cX7_minutesWithout 1 = .ok (.bipush 9, 2) := by decide +kernel
theorem dX7_minutesWithout_3 : decode cX7_minutesWithout 3 = .ok (.iconst 1, 1) := by decide +kernel
theorem dX7_minutesWithout_4 : decode cX7_minutesWithout 4 = .ok (.aload_n 0, 1) := by decide +kernel
theorem dX7_minutesWithout_5 : decode cX7_minutesWithout 5 = .ok (.getfield 22, 3) := by decide +kernel
theorem dX7_minutesWithout_8 : decode cX7_minutesWithout 8 = .ok (.ishl, 1) := by decide +kernel
theorem dX7_minutesWithout_9 : decode cX7_minutesWithout 9 = .ok (.iconst 1, 1) := by decide +kernel
theorem dX7_minutesWithout_10 : decode cX7_minutesWithout 10 = .ok (.isub, 1) := by decide +kernel
theorem dX7_minutesWithout_11 : decode cX7_minutesWithout 11 = .ok (.iconst 1, 1) := by decide +kernel
theorem dX7_minutesWithout_12 : decode cX7_minutesWithout 12 = .ok (.iload_n 1, 1) := by decide +kernel
theorem dX7_minutesWithout_13 : decode cX7_minutesWithout 13 = .ok (.ishl, 1) := by decide +kernel
theorem dX7_minutesWithout_14 : decode cX7_minutesWithout 14 = .ok (.iconst (-1), 1) := by decide +kernel
theorem dX7_minutesWithout_15 : decode cX7_minutesWithout 15 = .ok (.ixor, 1) := by decide +kernel
theorem dX7_minutesWithout_16 : decode cX7_minutesWithout 16 = .ok (.iand, 1) := by decide +kernel
theorem dX7_minutesWithout_17 : decode cX7_minutesWithout 17 = .ok (.invokevirtual 29, 3) := by decide +kernel
theorem dX7_minutesWithout_20 : decode cX7_minutesWithout 20 = .ok (.ireturn, 1) := by decide +kernel
set_option maxRecDepth 20000 in
theorem dX7_leastFrom_0 : decode cX7_leastFrom 0 = .ok (.iload_n 2, 1) := by decide +kernel
theorem dX7_leastFrom_1 : decode cX7_leastFrom 1 = .ok (.ifCond .ne 14, 3) := by decide +kernel
theorem dX7_leastFrom_4 : decode cX7_leastFrom 4 = .ok (.aload_n 0, 1) := by decide +kernel
theorem dX7_leastFrom_5 : decode cX7_leastFrom 5 = .ok (.getfield 18, 3) := by decide +kernel
theorem dX7_leastFrom_8 : decode cX7_leastFrom 8 = .ok (.iload_n 1, 1) := by decide +kernel
theorem dX7_leastFrom_9 : decode cX7_leastFrom 9 = .ok (.bipush 9, 2) := by decide +kernel
theorem dX7_leastFrom_11 : decode cX7_leastFrom 11 = .ok (.invokevirtual 33, 3) := by decide +kernel
theorem dX7_leastFrom_14 : decode cX7_leastFrom 14 = .ok (.ireturn, 1) := by decide +kernel
theorem dX7_leastFrom_15 : decode cX7_leastFrom 15 = .ok (.ldc 36, 2) := by decide +kernel
theorem dX7_leastFrom_17 : decode cX7_leastFrom 17 = .ok (.istore_n 3, 1) := by decide +kernel
theorem dX7_leastFrom_18 : decode cX7_leastFrom 18 = .ok (.iconst 0, 1) := by decide +kernel
theorem dX7_leastFrom_19 : decode cX7_leastFrom 19 = .ok (.istore 4, 2) := by decide +kernel
theorem dX7_leastFrom_21 : decode cX7_leastFrom 21 = .ok (.iload 4, 2) := by decide +kernel
theorem dX7_leastFrom_23 : decode cX7_leastFrom 23 = .ok (.aload_n 0, 1) := by decide +kernel
theorem dX7_leastFrom_24 : decode cX7_leastFrom 24 = .ok (.getfield 22, 3) := by decide +kernel
theorem dX7_leastFrom_27 : decode cX7_leastFrom 27 = .ok (.if_icmp .ge 31, 3) := by decide +kernel
theorem dX7_leastFrom_30 : decode cX7_leastFrom 30 = .ok (.iload_n 2, 1) := by decide +kernel
theorem dX7_leastFrom_31 : decode cX7_leastFrom 31 = .ok (.iload 4, 2) := by decide +kernel
theorem dX7_leastFrom_33 : decode cX7_leastFrom 33 = .ok (.ishr, 1) := by decide +kernel
theorem dX7_leastFrom_34 : decode cX7_leastFrom 34 = .ok (.iconst 1, 1) := by decide +kernel
theorem dX7_leastFrom_35 : decode cX7_leastFrom 35 = .ok (.iand, 1) := by decide +kernel
theorem dX7_leastFrom_36 : decode cX7_leastFrom 36 = .ok (.ifCond .eq 16, 3) := by decide +kernel
theorem dX7_leastFrom_39 : decode cX7_leastFrom 39 = .ok (.iload_n 3, 1) := by decide +kernel
theorem dX7_leastFrom_40 : decode cX7_leastFrom 40 = .ok (.aload_n 0, 1) := by decide +kernel
theorem dX7_leastFrom_41 : decode cX7_leastFrom 41 = .ok (.iload_n 1, 1) := by decide +kernel
theorem dX7_leastFrom_42 : decode cX7_leastFrom 42 = .ok (.iload_n 2, 1) := by decide +kernel
theorem dX7_leastFrom_43 : decode cX7_leastFrom 43 = .ok (.iload 4, 2) := by decide +kernel
theorem dX7_leastFrom_45 : decode cX7_leastFrom 45 = .ok (.invokevirtual 37, 3) := by decide +kernel
theorem dX7_leastFrom_48 : decode cX7_leastFrom 48 = .ok (.invokestatic 41, 3) := by decide +kernel
theorem dX7_leastFrom_51 : decode cX7_leastFrom 51 = .ok (.istore_n 3, 1) := by decide +kernel
theorem dX7_leastFrom_52 : decode cX7_leastFrom 52 = .ok (.iinc 4 1, 3) := by decide +kernel
theorem dX7_leastFrom_55 : decode cX7_leastFrom 55 = .ok (.goto (-34), 3) := by decide +kernel
theorem dX7_leastFrom_58 : decode cX7_leastFrom 58 = .ok (.iload_n 3, 1) := by decide +kernel
theorem dX7_leastFrom_59 : decode cX7_leastFrom 59 = .ok (.ireturn, 1) := by decide +kernel
set_option maxRecDepth 20000 in
theorem dX7_throughFirst_0 : decode cX7_throughFirst 0 = .ok (.iload_n 2, 1) := by decide +kernel
theorem dX7_throughFirst_1 : decode cX7_throughFirst 1 = .ok (.iconst 1, 1) := by decide +kernel
theorem dX7_throughFirst_2 : decode cX7_throughFirst 2 = .ok (.iload_n 3, 1) := by decide +kernel
theorem dX7_throughFirst_3 : decode cX7_throughFirst 3 = .ok (.ishl, 1) := by decide +kernel
theorem dX7_throughFirst_4 : decode cX7_throughFirst 4 = .ok (.iconst (-1), 1) := by decide +kernel
theorem dX7_throughFirst_5 : decode cX7_throughFirst 5 = .ok (.ixor, 1) := by decide +kernel
theorem dX7_throughFirst_6 : decode cX7_throughFirst 6 = .ok (.iand, 1) := by decide +kernel
theorem dX7_throughFirst_7 : decode cX7_throughFirst 7 = .ok (.istore 4, 2) := by decide +kernel
theorem dX7_throughFirst_9 : decode cX7_throughFirst 9 = .ok (.aload_n 0, 1) := by decide +kernel
theorem dX7_throughFirst_10 : decode cX7_throughFirst 10 = .ok (.getfield 18, 3) := by decide +kernel
theorem dX7_throughFirst_13 : decode cX7_throughFirst 13 = .ok (.iload_n 1, 1) := by decide +kernel
theorem dX7_throughFirst_14 : decode cX7_throughFirst 14 = .ok (.aload_n 0, 1) := by decide +kernel
theorem dX7_throughFirst_15 : decode cX7_throughFirst 15 = .ok (.getfield 9, 3) := by decide +kernel
theorem dX7_throughFirst_18 : decode cX7_throughFirst 18 = .ok (.iload_n 3, 1) := by decide +kernel
theorem dX7_throughFirst_19 : decode cX7_throughFirst 19 = .ok (.iaload, 1) := by decide +kernel
theorem dX7_throughFirst_20 : decode cX7_throughFirst 20 = .ok (.invokevirtual 33, 3) := by decide +kernel
theorem dX7_throughFirst_23 : decode cX7_throughFirst 23 = .ok (.aload_n 0, 1) := by decide +kernel
theorem dX7_throughFirst_24 : decode cX7_throughFirst 24 = .ok (.getfield 18, 3) := by decide +kernel
theorem dX7_throughFirst_27 : decode cX7_throughFirst 27 = .ok (.invokevirtual 46, 3) := by decide +kernel
theorem dX7_throughFirst_30 : decode cX7_throughFirst 30 = .ok (.iadd, 1) := by decide +kernel
theorem dX7_throughFirst_31 : decode cX7_throughFirst 31 = .ok (.aload_n 0, 1) := by decide +kernel
theorem dX7_throughFirst_32 : decode cX7_throughFirst 32 = .ok (.getfield 15, 3) := by decide +kernel
theorem dX7_throughFirst_35 : decode cX7_throughFirst 35 = .ok (.iload 4, 2) := by decide +kernel
theorem dX7_throughFirst_37 : decode cX7_throughFirst 37 = .ok (.bipush 7, 2) := by decide +kernel
theorem dX7_throughFirst_39 : decode cX7_throughFirst 39 = .ok (.imul, 1) := by decide +kernel
theorem dX7_throughFirst_40 : decode cX7_throughFirst 40 = .ok (.iload_n 3, 1) := by decide +kernel
theorem dX7_throughFirst_41 : decode cX7_throughFirst 41 = .ok (.iadd, 1) := by decide +kernel
theorem dX7_throughFirst_42 : decode cX7_throughFirst 42 = .ok (.iaload, 1) := by decide +kernel
theorem dX7_throughFirst_43 : decode cX7_throughFirst 43 = .ok (.iadd, 1) := by decide +kernel
theorem dX7_throughFirst_44 : decode cX7_throughFirst 44 = .ok (.ireturn, 1) := by decide +kernel
set_option maxRecDepth 20000 in
theorem dX7_stopAt_0 : decode cX7_stopAt 0 = .ok (.bipush 9, 2) := by decide +kernel
theorem dX7_stopAt_2 : decode cX7_stopAt 2 = .ok (.istore_n 2, 1) := by decide +kernel
theorem dX7_stopAt_3 : decode cX7_stopAt 3 = .ok (.iconst 1, 1) := by decide +kernel
theorem dX7_stopAt_4 : decode cX7_stopAt 4 = .ok (.aload_n 0, 1) := by decide +kernel
theorem dX7_stopAt_5 : decode cX7_stopAt 5 = .ok (.getfield 22, 3) := by decide +kernel
theorem dX7_stopAt_8 : decode cX7_stopAt 8 = .ok (.ishl, 1) := by decide +kernel
theorem dX7_stopAt_9 : decode cX7_stopAt 9 = .ok (.iconst 1, 1) := by decide +kernel
theorem dX7_stopAt_10 : decode cX7_stopAt 10 = .ok (.isub, 1) := by decide +kernel
theorem dX7_stopAt_11 : decode cX7_stopAt 11 = .ok (.istore_n 3, 1) := by decide +kernel
theorem dX7_stopAt_12 : decode cX7_stopAt 12 = .ok (.iconst 0, 1) := by decide +kernel
theorem dX7_stopAt_13 : decode cX7_stopAt 13 = .ok (.istore 4, 2) := by decide +kernel
theorem dX7_stopAt_15 : decode cX7_stopAt 15 = .ok (.iload 4, 2) := by decide +kernel
theorem dX7_stopAt_17 : decode cX7_stopAt 17 = .ok (.iload_n 1, 1) := by decide +kernel
theorem dX7_stopAt_18 : decode cX7_stopAt 18 = .ok (.if_icmp .gt 38, 3) := by decide +kernel
theorem dX7_stopAt_21 : decode cX7_stopAt 21 = .ok (.iload_n 3, 1) := by decide +kernel
theorem dX7_stopAt_22 : decode cX7_stopAt 22 = .ok (.ifCond .eq 34, 3) := by decide +kernel
theorem dX7_stopAt_25 : decode cX7_stopAt 25 = .ok (.aload_n 0, 1) := by decide +kernel
theorem dX7_stopAt_26 : decode cX7_stopAt 26 = .ok (.iload_n 2, 1) := by decide +kernel
theorem dX7_stopAt_27 : decode cX7_stopAt 27 = .ok (.iload_n 3, 1) := by decide +kernel
theorem dX7_stopAt_28 : decode cX7_stopAt 28 = .ok (.invokevirtual 50, 3) := by decide +kernel
theorem dX7_stopAt_31 : decode cX7_stopAt 31 = .ok (.istore 5, 2) := by decide +kernel
theorem dX7_stopAt_33 : decode cX7_stopAt 33 = .ok (.iload_n 3, 1) := by decide +kernel
theorem dX7_stopAt_34 : decode cX7_stopAt 34 = .ok (.iconst 1, 1) := by decide +kernel
theorem dX7_stopAt_35 : decode cX7_stopAt 35 = .ok (.iload 5, 2) := by decide +kernel
theorem dX7_stopAt_37 : decode cX7_stopAt 37 = .ok (.ishl, 1) := by decide +kernel
theorem dX7_stopAt_38 : decode cX7_stopAt 38 = .ok (.iconst (-1), 1) := by decide +kernel
theorem dX7_stopAt_39 : decode cX7_stopAt 39 = .ok (.ixor, 1) := by decide +kernel
theorem dX7_stopAt_40 : decode cX7_stopAt 40 = .ok (.iand, 1) := by decide +kernel
theorem dX7_stopAt_41 : decode cX7_stopAt 41 = .ok (.istore_n 3, 1) := by decide +kernel
theorem dX7_stopAt_42 : decode cX7_stopAt 42 = .ok (.aload_n 0, 1) := by decide +kernel
theorem dX7_stopAt_43 : decode cX7_stopAt 43 = .ok (.getfield 9, 3) := by decide +kernel
theorem dX7_stopAt_46 : decode cX7_stopAt 46 = .ok (.iload 5, 2) := by decide +kernel
theorem dX7_stopAt_48 : decode cX7_stopAt 48 = .ok (.iaload, 1) := by decide +kernel
theorem dX7_stopAt_49 : decode cX7_stopAt 49 = .ok (.istore_n 2, 1) := by decide +kernel
theorem dX7_stopAt_50 : decode cX7_stopAt 50 = .ok (.iinc 4 1, 3) := by decide +kernel
theorem dX7_stopAt_53 : decode cX7_stopAt 53 = .ok (.goto (-38), 3) := by decide +kernel
theorem dX7_stopAt_56 : decode cX7_stopAt 56 = .ok (.iload_n 2, 1) := by decide +kernel
theorem dX7_stopAt_57 : decode cX7_stopAt 57 = .ok (.ireturn, 1) := by decide +kernel
set_option maxRecDepth 20000 in
theorem dX7_firstOfLeast_0 : decode cX7_firstOfLeast 0 = .ok (.aload_n 0, 1) := by decide +kernel
theorem dX7_firstOfLeast_1 : decode cX7_firstOfLeast 1 = .ok (.iload_n 1, 1) := by decide +kernel
theorem dX7_firstOfLeast_2 : decode cX7_firstOfLeast 2 = .ok (.iload_n 2, 1) := by decide +kernel
theorem dX7_firstOfLeast_3 : decode cX7_firstOfLeast 3 = .ok (.invokevirtual 29, 3) := by decide +kernel
theorem dX7_firstOfLeast_6 : decode cX7_firstOfLeast 6 = .ok (.istore_n 3, 1) := by decide +kernel
theorem dX7_firstOfLeast_7 : decode cX7_firstOfLeast 7 = .ok (.iconst 0, 1) := by decide +kernel
theorem dX7_firstOfLeast_8 : decode cX7_firstOfLeast 8 = .ok (.istore 4, 2) := by decide +kernel
theorem dX7_firstOfLeast_10 : decode cX7_firstOfLeast 10 = .ok (.iload 4, 2) := by decide +kernel
theorem dX7_firstOfLeast_12 : decode cX7_firstOfLeast 12 = .ok (.aload_n 0, 1) := by decide +kernel
theorem dX7_firstOfLeast_13 : decode cX7_firstOfLeast 13 = .ok (.getfield 22, 3) := by decide +kernel
theorem dX7_firstOfLeast_16 : decode cX7_firstOfLeast 16 = .ok (.if_icmp .ge 33, 3) := by decide +kernel
theorem dX7_firstOfLeast_19 : decode cX7_firstOfLeast 19 = .ok (.iload_n 2, 1) := by decide +kernel
theorem dX7_firstOfLeast_20 : decode cX7_firstOfLeast 20 = .ok (.iload 4, 2) := by decide +kernel
theorem dX7_firstOfLeast_22 : decode cX7_firstOfLeast 22 = .ok (.ishr, 1) := by decide +kernel
theorem dX7_firstOfLeast_23 : decode cX7_firstOfLeast 23 = .ok (.iconst 1, 1) := by decide +kernel
theorem dX7_firstOfLeast_24 : decode cX7_firstOfLeast 24 = .ok (.iand, 1) := by decide +kernel
theorem dX7_firstOfLeast_25 : decode cX7_firstOfLeast 25 = .ok (.ifCond .eq 18, 3) := by decide +kernel
theorem dX7_firstOfLeast_28 : decode cX7_firstOfLeast 28 = .ok (.aload_n 0, 1) := by decide +kernel
theorem dX7_firstOfLeast_29 : decode cX7_firstOfLeast 29 = .ok (.iload_n 1, 1) := by decide +kernel
theorem dX7_firstOfLeast_30 : decode cX7_firstOfLeast 30 = .ok (.iload_n 2, 1) := by decide +kernel
theorem dX7_firstOfLeast_31 : decode cX7_firstOfLeast 31 = .ok (.iload 4, 2) := by decide +kernel
theorem dX7_firstOfLeast_33 : decode cX7_firstOfLeast 33 = .ok (.invokevirtual 37, 3) := by decide +kernel
theorem dX7_firstOfLeast_36 : decode cX7_firstOfLeast 36 = .ok (.iload_n 3, 1) := by decide +kernel
theorem dX7_firstOfLeast_37 : decode cX7_firstOfLeast 37 = .ok (.if_icmp .ne 6, 3) := by decide +kernel
theorem dX7_firstOfLeast_40 : decode cX7_firstOfLeast 40 = .ok (.iload 4, 2) := by decide +kernel
theorem dX7_firstOfLeast_42 : decode cX7_firstOfLeast 42 = .ok (.ireturn, 1) := by decide +kernel
theorem dX7_firstOfLeast_43 : decode cX7_firstOfLeast 43 = .ok (.iinc 4 1, 3) := by decide +kernel
theorem dX7_firstOfLeast_46 : decode cX7_firstOfLeast 46 = .ok (.goto (-36), 3) := by decide +kernel
theorem dX7_firstOfLeast_49 : decode cX7_firstOfLeast 49 = .ok (.iconst 0, 1) := by decide +kernel
theorem dX7_firstOfLeast_50 : decode cX7_firstOfLeast 50 = .ok (.ireturn, 1) := by decide +kernel
theorem dX8_init_0 : decode cX8_init 0 = .ok (.aload_n 0, 1) := by decide +kernel
theorem dX8_init_1 : decode cX8_init 1 = .ok (.invokespecial 3, 3) := by decide +kernel
theorem dX8_init_4 : decode cX8_init 4 = .ok (.aload_n 0, 1) := by decide +kernel
theorem dX8_init_5 : decode cX8_init 5 = .ok (.bipush 40, 2) := by decide +kernel
theorem dX8_init_7 : decode cX8_init 7 = .ok (.newarray .int, 2) := by decide +kernel
theorem dX8_init_9 : decode cX8_init 9 = .ok (.putfield 9, 3) := by decide +kernel
theorem dX8_init_12 : decode cX8_init 12 = .ok (.aload_n 0, 1) := by decide +kernel
theorem dX8_init_13 : decode cX8_init 13 = .ok (.getfield 9, 3) := by decide +kernel
theorem dX8_init_16 : decode cX8_init 16 = .ok (.bipush 38, 2) := by decide +kernel
theorem dX8_init_18 : decode cX8_init 18 = .ok (.iconst 1, 1) := by decide +kernel
theorem dX8_init_19 : decode cX8_init 19 = .ok (.iastore, 1) := by decide +kernel
theorem dX8_init_20 : decode cX8_init 20 = .ok (.aload_n 0, 1) := by decide +kernel
theorem dX8_init_21 : decode cX8_init 21 = .ok (.getfield 9, 3) := by decide +kernel
theorem dX8_init_24 : decode cX8_init 24 = .ok (.bipush 39, 2) := by decide +kernel
theorem dX8_init_26 : decode cX8_init 26 = .ok (.iconst 1, 1) := by decide +kernel
theorem dX8_init_27 : decode cX8_init 27 = .ok (.iastore, 1) := by decide +kernel
theorem dX8_init_28 : decode cX8_init 28 = .ok (.return_, 1) := by decide +kernel
theorem dX8_fits_0 : decode cX8_fits 0 = .ok (.iload_n 0, 1) := by decide +kernel
theorem dX8_fits_1 : decode cX8_fits 1 = .ok (.ifCond .lt 33, 3) := by decide +kernel
theorem dX8_fits_4 : decode cX8_fits 4 = .ok (.iload_n 0, 1) := by decide +kernel
theorem dX8_fits_5 : decode cX8_fits 5 = .ok (.getstatic 15, 3) := by decide +kernel
theorem dX8_fits_8 : decode cX8_fits 8 = .ok (.arraylength, 1) := by decide +kernel
theorem dX8_fits_9 : decode cX8_fits 9 = .ok (.if_icmp .ge 25, 3) := by decide +kernel
theorem dX8_fits_12 : decode cX8_fits 12 = .ok (.iload_n 1, 1) := by decide +kernel
theorem dX8_fits_13 : decode cX8_fits 13 = .ok (.getstatic 15, 3) := by decide +kernel
theorem dX8_fits_16 : decode cX8_fits 16 = .ok (.iload_n 0, 1) := by decide +kernel
theorem dX8_fits_17 : decode cX8_fits 17 = .ok (.iaload, 1) := by decide +kernel
theorem dX8_fits_18 : decode cX8_fits 18 = .ok (.if_icmp .lt 16, 3) := by decide +kernel
theorem dX8_fits_21 : decode cX8_fits 21 = .ok (.iload_n 1, 1) := by decide +kernel
theorem dX8_fits_22 : decode cX8_fits 22 = .ok (.getstatic 18, 3) := by decide +kernel
theorem dX8_fits_25 : decode cX8_fits 25 = .ok (.iload_n 0, 1) := by decide +kernel
theorem dX8_fits_26 : decode cX8_fits 26 = .ok (.iaload, 1) := by decide +kernel
theorem dX8_fits_27 : decode cX8_fits 27 = .ok (.if_icmp .gt 7, 3) := by decide +kernel
theorem dX8_fits_30 : decode cX8_fits 30 = .ok (.iconst 1, 1) := by decide +kernel
theorem dX8_fits_31 : decode cX8_fits 31 = .ok (.goto 4, 3) := by decide +kernel
theorem dX8_fits_34 : decode cX8_fits 34 = .ok (.iconst 0, 1) := by decide +kernel
theorem dX8_fits_35 : decode cX8_fits 35 = .ok (.ireturn, 1) := by decide +kernel
theorem dX8_add_0 : decode cX8_add 0 = .ok (.aload_n 0, 1) := by decide +kernel
theorem dX8_add_1 : decode cX8_add 1 = .ok (.getfield 21, 3) := by decide +kernel
theorem dX8_add_4 : decode cX8_add 4 = .ok (.bipush 9, 2) := by decide +kernel
theorem dX8_add_6 : decode cX8_add 6 = .ok (.if_icmp .lt 6, 3) := by decide +kernel
theorem dX8_add_9 : decode cX8_add 9 = .ok (.bipush (-3), 2) := by decide +kernel
theorem dX8_add_11 : decode cX8_add 11 = .ok (.ireturn, 1) := by decide +kernel
theorem dX8_add_12 : decode cX8_add 12 = .ok (.aload_n 0, 1) := by decide +kernel
theorem dX8_add_13 : decode cX8_add 13 = .ok (.getfield 9, 3) := by decide +kernel
theorem dX8_add_16 : decode cX8_add 16 = .ok (.iconst 4, 1) := by decide +kernel
theorem dX8_add_17 : decode cX8_add 17 = .ok (.aload_n 0, 1) := by decide +kernel
theorem dX8_add_18 : decode cX8_add 18 = .ok (.getfield 21, 3) := by decide +kernel
theorem dX8_add_21 : decode cX8_add 21 = .ok (.imul, 1) := by decide +kernel
theorem dX8_add_22 : decode cX8_add 22 = .ok (.iconst 0, 1) := by decide +kernel
theorem dX8_add_23 : decode cX8_add 23 = .ok (.iadd, 1) := by decide +kernel
theorem dX8_add_24 : decode cX8_add 24 = .ok (.iload_n 1, 1) := by decide +kernel
theorem dX8_add_25 : decode cX8_add 25 = .ok (.iastore, 1) := by decide +kernel
theorem dX8_add_26 : decode cX8_add 26 = .ok (.aload_n 0, 1) := by decide +kernel
theorem dX8_add_27 : decode cX8_add 27 = .ok (.getfield 9, 3) := by decide +kernel
theorem dX8_add_30 : decode cX8_add 30 = .ok (.iconst 4, 1) := by decide +kernel
theorem dX8_add_31 : decode cX8_add 31 = .ok (.aload_n 0, 1) := by decide +kernel
theorem dX8_add_32 : decode cX8_add 32 = .ok (.getfield 21, 3) := by decide +kernel
theorem dX8_add_35 : decode cX8_add 35 = .ok (.imul, 1) := by decide +kernel
theorem dX8_add_36 : decode cX8_add 36 = .ok (.iconst 1, 1) := by decide +kernel
theorem dX8_add_37 : decode cX8_add 37 = .ok (.iadd, 1) := by decide +kernel
theorem dX8_add_38 : decode cX8_add 38 = .ok (.iload_n 2, 1) := by decide +kernel
theorem dX8_add_39 : decode cX8_add 39 = .ok (.iastore, 1) := by decide +kernel
theorem dX8_add_40 : decode cX8_add 40 = .ok (.aload_n 0, 1) := by decide +kernel
theorem dX8_add_41 : decode cX8_add 41 = .ok (.getfield 9, 3) := by decide +kernel
theorem dX8_add_44 : decode cX8_add 44 = .ok (.iconst 4, 1) := by decide +kernel
theorem dX8_add_45 : decode cX8_add 45 = .ok (.aload_n 0, 1) := by decide +kernel
theorem dX8_add_46 : decode cX8_add 46 = .ok (.getfield 21, 3) := by decide +kernel
theorem dX8_add_49 : decode cX8_add 49 = .ok (.imul, 1) := by decide +kernel
theorem dX8_add_50 : decode cX8_add 50 = .ok (.iconst 2, 1) := by decide +kernel
theorem dX8_add_51 : decode cX8_add 51 = .ok (.iadd, 1) := by decide +kernel
theorem dX8_add_52 : decode cX8_add 52 = .ok (.iload_n 3, 1) := by decide +kernel
theorem dX8_add_53 : decode cX8_add 53 = .ok (.iastore, 1) := by decide +kernel
theorem dX8_add_54 : decode cX8_add 54 = .ok (.aload_n 0, 1) := by decide +kernel
theorem dX8_add_55 : decode cX8_add 55 = .ok (.getfield 9, 3) := by decide +kernel
theorem dX8_add_58 : decode cX8_add 58 = .ok (.iconst 4, 1) := by decide +kernel
theorem dX8_add_59 : decode cX8_add 59 = .ok (.aload_n 0, 1) := by decide +kernel
theorem dX8_add_60 : decode cX8_add 60 = .ok (.getfield 21, 3) := by decide +kernel
theorem dX8_add_63 : decode cX8_add 63 = .ok (.imul, 1) := by decide +kernel
theorem dX8_add_64 : decode cX8_add 64 = .ok (.iconst 3, 1) := by decide +kernel
theorem dX8_add_65 : decode cX8_add 65 = .ok (.iadd, 1) := by decide +kernel
theorem dX8_add_66 : decode cX8_add 66 = .ok (.bipush 60, 2) := by decide +kernel
theorem dX8_add_68 : decode cX8_add 68 = .ok (.iastore, 1) := by decide +kernel
theorem dX8_add_69 : decode cX8_add 69 = .ok (.aload_n 0, 1) := by decide +kernel
theorem dX8_add_70 : decode cX8_add 70 = .ok (.dup, 1) := by decide +kernel
theorem dX8_add_71 : decode cX8_add 71 = .ok (.getfield 21, 3) := by decide +kernel
theorem dX8_add_74 : decode cX8_add 74 = .ok (.dup_x1, 1) := by decide +kernel
theorem dX8_add_75 : decode cX8_add 75 = .ok (.iconst 1, 1) := by decide +kernel
theorem dX8_add_76 : decode cX8_add 76 = .ok (.iadd, 1) := by decide +kernel
theorem dX8_add_77 : decode cX8_add 77 = .ok (.putfield 21, 3) := by decide +kernel
theorem dX8_add_80 : decode cX8_add 80 = .ok (.ireturn, 1) := by decide +kernel
theorem dX8_isPost_0 : decode cX8_isPost 0 = .ok (.iload_n 1, 1) := by decide +kernel
theorem dX8_isPost_1 : decode cX8_isPost 1 = .ok (.ifCond .lt 15, 3) := by decide +kernel
theorem dX8_isPost_4 : decode cX8_isPost 4 = .ok (.iload_n 1, 1) := by decide +kernel
theorem dX8_isPost_5 : decode cX8_isPost 5 = .ok (.aload_n 0, 1) := by decide +kernel
theorem dX8_isPost_6 : decode cX8_isPost 6 = .ok (.getfield 21, 3) := by decide +kernel
theorem dX8_isPost_9 : decode cX8_isPost 9 = .ok (.if_icmp .ge 7, 3) := by decide +kernel
theorem dX8_isPost_12 : decode cX8_isPost 12 = .ok (.iconst 1, 1) := by decide +kernel
theorem dX8_isPost_13 : decode cX8_isPost 13 = .ok (.goto 4, 3) := by decide +kernel
theorem dX8_isPost_16 : decode cX8_isPost 16 = .ok (.iconst 0, 1) := by decide +kernel
theorem dX8_isPost_17 : decode cX8_isPost 17 = .ok (.ireturn, 1) := by decide +kernel
theorem dX8_all_0 : decode cX8_all 0 = .ok (.iconst 1, 1) := by decide +kernel
theorem dX8_all_1 : decode cX8_all 1 = .ok (.aload_n 0, 1) := by decide +kernel
theorem dX8_all_2 : decode cX8_all 2 = .ok (.getfield 21, 3) := by decide +kernel
theorem dX8_all_5 : decode cX8_all 5 = .ok (.ishl, 1) := by decide +kernel
theorem dX8_all_6 : decode cX8_all 6 = .ok (.iconst 1, 1) := by decide +kernel
theorem dX8_all_7 : decode cX8_all 7 = .ok (.isub, 1) := by decide +kernel
theorem dX8_all_8 : decode cX8_all 8 = .ok (.ireturn, 1) := by decide +kernel
set_option maxRecDepth 20000 in
theorem dX8_isSet_0 : decode cX8_isSet 0 = .ok (.iload_n 1, 1) := by decide +kernel
theorem dX8_isSet_1 : decode cX8_isSet 1 = .ok (.ifCond .lt 15, 3) := by decide +kernel
theorem dX8_isSet_4 : decode cX8_isSet 4 = .ok (.iload_n 1, 1) := by decide +kernel
theorem dX8_isSet_5 : decode cX8_isSet 5 = .ok (.aload_n 0, 1) := by decide +kernel
theorem dX8_isSet_6 : decode cX8_isSet 6 = .ok (.invokevirtual 25, 3) := by decide +kernel
theorem dX8_isSet_9 : decode cX8_isSet 9 = .ok (.if_icmp .gt 7, 3) := by decide +kernel
theorem dX8_isSet_12 : decode cX8_isSet 12 = .ok (.iconst 1, 1) := by decide +kernel
theorem dX8_isSet_13 : decode cX8_isSet 13 = .ok (.goto 4, 3) := by decide +kernel
theorem dX8_isSet_16 : decode cX8_isSet 16 = .ok (.iconst 0, 1) := by decide +kernel
theorem dX8_isSet_17 : decode cX8_isSet 17 = .ok (.ireturn, 1) := by decide +kernel
set_option maxRecDepth 20000 in
theorem dX8_placeOf_0 : decode cX8_placeOf 0 = .ok (.iload_n 2, 1) := by decide +kernel
theorem dX8_placeOf_1 : decode cX8_placeOf 1 = .ok (.ifCond .lt 26, 3) := by decide +kernel
theorem dX8_placeOf_4 : decode cX8_placeOf 4 = .ok (.iload_n 2, 1) := by decide +kernel
theorem dX8_placeOf_5 : decode cX8_placeOf 5 = .ok (.iconst 3, 1) := by decide +kernel
theorem dX8_placeOf_6 : decode cX8_placeOf 6 = .ok (.if_icmp .gt 21, 3) := by decide +kernel
theorem dX8_placeOf_9 : decode cX8_placeOf 9 = .ok (.aload_n 0, 1) := by decide +kernel
theorem dX8_placeOf_10 : decode cX8_placeOf 10 = .ok (.iload_n 1, 1) := by decide +kernel
theorem dX8_placeOf_11 : decode cX8_placeOf 11 = .ok (.invokevirtual 29, 3) := by decide +kernel
theorem dX8_placeOf_14 : decode cX8_placeOf 14 = .ok (.ifCond .eq 11, 3) := by decide +kernel
theorem dX8_placeOf_17 : decode cX8_placeOf 17 = .ok (.iconst 4, 1) := by decide +kernel
theorem dX8_placeOf_18 : decode cX8_placeOf 18 = .ok (.iload_n 1, 1) := by decide +kernel
theorem dX8_placeOf_19 : decode cX8_placeOf 19 = .ok (.imul, 1) := by decide +kernel
theorem dX8_placeOf_20 : decode cX8_placeOf 20 = .ok (.iload_n 2, 1) := by decide +kernel
theorem dX8_placeOf_21 : decode cX8_placeOf 21 = .ok (.iadd, 1) := by decide +kernel
theorem dX8_placeOf_22 : decode cX8_placeOf 22 = .ok (.goto 4, 3) := by decide +kernel
theorem dX8_placeOf_25 : decode cX8_placeOf 25 = .ok (.iconst (-1), 1) := by decide +kernel
theorem dX8_placeOf_26 : decode cX8_placeOf 26 = .ok (.ireturn, 1) := by decide +kernel
theorem dX8_placeOf_27 : decode cX8_placeOf 27 = .ok (.iload_n 2, 1) := by decide +kernel
theorem dX8_placeOf_28 : decode cX8_placeOf 28 = .ok (.iconst 4, 1) := by decide +kernel
theorem dX8_placeOf_29 : decode cX8_placeOf 29 = .ok (.if_icmp .lt 22, 3) := by decide +kernel
theorem dX8_placeOf_32 : decode cX8_placeOf 32 = .ok (.iload_n 2, 1) := by decide +kernel
theorem dX8_placeOf_33 : decode cX8_placeOf 33 = .ok (.bipush 7, 2) := by decide +kernel
theorem dX8_placeOf_35 : decode cX8_placeOf 35 = .ok (.if_icmp .gt 16, 3) := by decide +kernel
theorem dX8_placeOf_38 : decode cX8_placeOf 38 = .ok (.iload_n 1, 1) := by decide +kernel
theorem dX8_placeOf_39 : decode cX8_placeOf 39 = .ok (.ifCond .ne 12, 3) := by decide +kernel
theorem dX8_placeOf_42 : decode cX8_placeOf 42 = .ok (.bipush 36, 2) := by decide +kernel
theorem dX8_placeOf_44 : decode cX8_placeOf 44 = .ok (.iload_n 2, 1) := by decide +kernel
theorem dX8_placeOf_45 : decode cX8_placeOf 45 = .ok (.iadd, 1) := by decide +kernel
theorem dX8_placeOf_46 : decode cX8_placeOf 46 = .ok (.iconst 4, 1) := by decide +kernel
theorem dX8_placeOf_47 : decode cX8_placeOf 47 = .ok (.isub, 1) := by decide +kernel
theorem dX8_placeOf_48 : decode cX8_placeOf 48 = .ok (.goto 4, 3) := by decide +kernel
theorem dX8_placeOf_51 : decode cX8_placeOf 51 = .ok (.iconst (-1), 1) := by decide +kernel
theorem dX8_placeOf_52 : decode cX8_placeOf 52 = .ok (.ireturn, 1) := by decide +kernel
set_option maxRecDepth 20000 in
theorem dX8_numberOf_0 : decode cX8_numberOf 0 = .ok (.aload_n 0, 1) := by decide +kernel
theorem dX8_numberOf_1 : decode cX8_numberOf 1 = .ok (.iload_n 1, 1) := by decide +kernel
theorem dX8_numberOf_2 : decode cX8_numberOf 2 = .ok (.iload_n 2, 1) := by decide +kernel
theorem dX8_numberOf_3 : decode cX8_numberOf 3 = .ok (.invokevirtual 33, 3) := by decide +kernel
theorem dX8_numberOf_6 : decode cX8_numberOf 6 = .ok (.istore_n 3, 1) := by decide +kernel
theorem dX8_numberOf_7 : decode cX8_numberOf 7 = .ok (.iload_n 3, 1) := by decide +kernel
theorem dX8_numberOf_8 : decode cX8_numberOf 8 = .ok (.ifCond .ge 7, 3) := by decide +kernel
theorem dX8_numberOf_11 : decode cX8_numberOf 11 = .ok (.iconst 0, 1) := by decide +kernel
theorem dX8_numberOf_12 : decode cX8_numberOf 12 = .ok (.goto 9, 3) := by decide +kernel
theorem dX8_numberOf_15 : decode cX8_numberOf 15 = .ok (.aload_n 0, 1) := by decide +kernel
theorem dX8_numberOf_16 : decode cX8_numberOf 16 = .ok (.getfield 9, 3) := by decide +kernel
theorem dX8_numberOf_19 : decode cX8_numberOf 19 = .ok (.iload_n 3, 1) := by decide +kernel
theorem dX8_numberOf_20 : decode cX8_numberOf 20 = .ok (.iaload, 1) := by decide +kernel
theorem dX8_numberOf_21 : decode cX8_numberOf 21 = .ok (.ireturn, 1) := by decide +kernel
theorem dX8_stand_0 : decode cX8_stand 0 = .ok (.aload_n 0, 1) := by decide +kernel
theorem dX8_stand_1 : decode cX8_stand 1 = .ok (.getfield 9, 3) := by decide +kernel
theorem dX8_stand_4 : decode cX8_stand 4 = .ok (.bipush 39, 2) := by decide +kernel
theorem dX8_stand_6 : decode cX8_stand 6 = .ok (.iaload, 1) := by decide +kernel
theorem dX8_stand_7 : decode cX8_stand 7 = .ok (.ireturn, 1) := by decide +kernel
theorem dX8_cellsTo_0 : decode cX8_cellsTo 0 = .ok (.iload_n 1, 1) := by decide +kernel
theorem dX8_cellsTo_1 : decode cX8_cellsTo 1 = .ok (.ifCond .lt 9, 3) := by decide +kernel
theorem dX8_cellsTo_4 : decode cX8_cellsTo 4 = .ok (.iload_n 1, 1) := by decide +kernel
theorem dX8_cellsTo_5 : decode cX8_cellsTo 5 = .ok (.bipush 9, 2) := by decide +kernel
theorem dX8_cellsTo_7 : decode cX8_cellsTo 7 = .ok (.if_icmp .le 5, 3) := by decide +kernel
theorem dX8_cellsTo_10 : decode cX8_cellsTo 10 = .ok (.iconst 0, 1) := by decide +kernel
theorem dX8_cellsTo_11 : decode cX8_cellsTo 11 = .ok (.ireturn, 1) := by decide +kernel
theorem dX8_cellsTo_12 : decode cX8_cellsTo 12 = .ok (.aload_n 0, 1) := by decide +kernel
theorem dX8_cellsTo_13 : decode cX8_cellsTo 13 = .ok (.getfield 9, 3) := by decide +kernel
theorem dX8_cellsTo_16 : decode cX8_cellsTo 16 = .ok (.iconst 4, 1) := by decide +kernel
theorem dX8_cellsTo_17 : decode cX8_cellsTo 17 = .ok (.iload_n 1, 1) := by decide +kernel
theorem dX8_cellsTo_18 : decode cX8_cellsTo 18 = .ok (.imul, 1) := by decide +kernel
theorem dX8_cellsTo_19 : decode cX8_cellsTo 19 = .ok (.iconst 0, 1) := by decide +kernel
theorem dX8_cellsTo_20 : decode cX8_cellsTo 20 = .ok (.iadd, 1) := by decide +kernel
theorem dX8_cellsTo_21 : decode cX8_cellsTo 21 = .ok (.iaload, 1) := by decide +kernel
theorem dX8_cellsTo_22 : decode cX8_cellsTo 22 = .ok (.iload_n 2, 1) := by decide +kernel
theorem dX8_cellsTo_23 : decode cX8_cellsTo 23 = .ok (.isub, 1) := by decide +kernel
theorem dX8_cellsTo_24 : decode cX8_cellsTo 24 = .ok (.invokestatic 37, 3) := by decide +kernel
theorem dX8_cellsTo_27 : decode cX8_cellsTo 27 = .ok (.aload_n 0, 1) := by decide +kernel
theorem dX8_cellsTo_28 : decode cX8_cellsTo 28 = .ok (.getfield 9, 3) := by decide +kernel
theorem dX8_cellsTo_31 : decode cX8_cellsTo 31 = .ok (.iconst 4, 1) := by decide +kernel
theorem dX8_cellsTo_32 : decode cX8_cellsTo 32 = .ok (.iload_n 1, 1) := by decide +kernel
theorem dX8_cellsTo_33 : decode cX8_cellsTo 33 = .ok (.imul, 1) := by decide +kernel
theorem dX8_cellsTo_34 : decode cX8_cellsTo 34 = .ok (.iconst 1, 1) := by decide +kernel
theorem dX8_cellsTo_35 : decode cX8_cellsTo 35 = .ok (.iadd, 1) := by decide +kernel
theorem dX8_cellsTo_36 : decode cX8_cellsTo 36 = .ok (.iaload, 1) := by decide +kernel
theorem dX8_cellsTo_37 : decode cX8_cellsTo 37 = .ok (.iload_n 3, 1) := by decide +kernel
theorem dX8_cellsTo_38 : decode cX8_cellsTo 38 = .ok (.isub, 1) := by decide +kernel
theorem dX8_cellsTo_39 : decode cX8_cellsTo 39 = .ok (.invokestatic 37, 3) := by decide +kernel
theorem dX8_cellsTo_42 : decode cX8_cellsTo 42 = .ok (.iadd, 1) := by decide +kernel
theorem dX8_cellsTo_43 : decode cX8_cellsTo 43 = .ok (.ireturn, 1) := by decide +kernel
set_option maxRecDepth 20000 in
theorem dX8_cellsToNearestPost_0 : decode cX8_cellsToNearestPost 0 = .ok (.aload_n 0, 1) := by decide +kernel
theorem dX8_cellsToNearestPost_1 : decode cX8_cellsToNearestPost 1 = .ok (.getfield 21, 3) := by decide +kernel
theorem dX8_cellsToNearestPost_4 : decode cX8_cellsToNearestPost 4 = .ok (.ifCond .ne 7, 3) := by decide +kernel
theorem dX8_cellsToNearestPost_7 : decode cX8_cellsToNearestPost 7 = .ok (.iconst 0, 1) := by decide +kernel
theorem dX8_cellsToNearestPost_8 : decode cX8_cellsToNearestPost 8 = .ok (.goto 5, 3) := by decide +kernel
theorem dX8_cellsToNearestPost_11 : decode cX8_cellsToNearestPost 11 = .ok (.bipush 30, 2) := by decide +kernel
theorem dX8_cellsToNearestPost_13 : decode cX8_cellsToNearestPost 13 = .ok (.istore_n 3, 1) := by decide +kernel
theorem dX8_cellsToNearestPost_14 : decode cX8_cellsToNearestPost 14 = .ok (.iconst 0, 1) := by decide +kernel
theorem dX8_cellsToNearestPost_15 : decode cX8_cellsToNearestPost 15 = .ok (.istore 4, 2) := by decide +kernel
theorem dX8_cellsToNearestPost_17 : decode cX8_cellsToNearestPost 17 = .ok (.iload 4, 2) := by decide +kernel
theorem dX8_cellsToNearestPost_19 : decode cX8_cellsToNearestPost 19 = .ok (.aload_n 0, 1) := by decide +kernel
theorem dX8_cellsToNearestPost_20 : decode cX8_cellsToNearestPost 20 = .ok (.getfield 21, 3) := by decide +kernel
theorem dX8_cellsToNearestPost_23 : decode cX8_cellsToNearestPost 23 = .ok (.if_icmp .ge 22, 3) := by decide +kernel
theorem dX8_cellsToNearestPost_26 : decode cX8_cellsToNearestPost 26 = .ok (.iload_n 3, 1) := by decide +kernel
theorem dX8_cellsToNearestPost_27 : decode cX8_cellsToNearestPost 27 = .ok (.aload_n 0, 1) := by decide +kernel
theorem dX8_cellsToNearestPost_28 : decode cX8_cellsToNearestPost 28 = .ok (.iload 4, 2) := by decide +kernel
theorem dX8_cellsToNearestPost_30 : decode cX8_cellsToNearestPost 30 = .ok (.iload_n 1, 1) := by decide +kernel
theorem dX8_cellsToNearestPost_31 : decode cX8_cellsToNearestPost 31 = .ok (.iload_n 2, 1) := by decide +kernel
theorem dX8_cellsToNearestPost_32 : decode cX8_cellsToNearestPost 32 = .ok (.invokevirtual 43, 3) := by decide +kernel
theorem dX8_cellsToNearestPost_35 : decode cX8_cellsToNearestPost 35 = .ok (.invokestatic 47, 3) := by decide +kernel
theorem dX8_cellsToNearestPost_38 : decode cX8_cellsToNearestPost 38 = .ok (.istore_n 3, 1) := by decide +kernel
theorem dX8_cellsToNearestPost_39 : decode cX8_cellsToNearestPost 39 = .ok (.iinc 4 1, 3) := by decide +kernel
theorem dX8_cellsToNearestPost_42 : decode cX8_cellsToNearestPost 42 = .ok (.goto (-25), 3) := by decide +kernel
theorem dX8_cellsToNearestPost_45 : decode cX8_cellsToNearestPost 45 = .ok (.iload_n 3, 1) := by decide +kernel
theorem dX8_cellsToNearestPost_46 : decode cX8_cellsToNearestPost 46 = .ok (.ireturn, 1) := by decide +kernel
set_option maxRecDepth 20000 in
theorem dX8_way_0 : decode cX8_way 0 = .ok (.iload_n 2, 1) := by decide +kernel
theorem dX8_way_1 : decode cX8_way 1 = .ok (.ifCond .lt 9, 3) := by decide +kernel
theorem dX8_way_4 : decode cX8_way 4 = .ok (.iload_n 2, 1) := by decide +kernel
theorem dX8_way_5 : decode cX8_way 5 = .ok (.bipush 9, 2) := by decide +kernel
theorem dX8_way_7 : decode cX8_way 7 = .ok (.if_icmp .le 5, 3) := by decide +kernel
theorem dX8_way_10 : decode cX8_way 10 = .ok (.iconst 0, 1) := by decide +kernel
theorem dX8_way_11 : decode cX8_way 11 = .ok (.ireturn, 1) := by decide +kernel
theorem dX8_way_12 : decode cX8_way 12 = .ok (.aload_n 0, 1) := by decide +kernel
theorem dX8_way_13 : decode cX8_way 13 = .ok (.iload_n 1, 1) := by decide +kernel
theorem dX8_way_14 : decode cX8_way 14 = .ok (.aload_n 0, 1) := by decide +kernel
theorem dX8_way_15 : decode cX8_way 15 = .ok (.getfield 9, 3) := by decide +kernel
theorem dX8_way_18 : decode cX8_way 18 = .ok (.iconst 4, 1) := by decide +kernel
theorem dX8_way_19 : decode cX8_way 19 = .ok (.iload_n 2, 1) := by decide +kernel
theorem dX8_way_20 : decode cX8_way 20 = .ok (.imul, 1) := by decide +kernel
theorem dX8_way_21 : decode cX8_way 21 = .ok (.iconst 0, 1) := by decide +kernel
theorem dX8_way_22 : decode cX8_way 22 = .ok (.iadd, 1) := by decide +kernel
theorem dX8_way_23 : decode cX8_way 23 = .ok (.iaload, 1) := by decide +kernel
theorem dX8_way_24 : decode cX8_way 24 = .ok (.aload_n 0, 1) := by decide +kernel
theorem dX8_way_25 : decode cX8_way 25 = .ok (.getfield 9, 3) := by decide +kernel
theorem dX8_way_28 : decode cX8_way 28 = .ok (.iconst 4, 1) := by decide +kernel
theorem dX8_way_29 : decode cX8_way 29 = .ok (.iload_n 2, 1) := by decide +kernel
theorem dX8_way_30 : decode cX8_way 30 = .ok (.imul, 1) := by decide +kernel
theorem dX8_way_31 : decode cX8_way 31 = .ok (.iconst 1, 1) := by decide +kernel
theorem dX8_way_32 : decode cX8_way 32 = .ok (.iadd, 1) := by decide +kernel
theorem dX8_way_33 : decode cX8_way 33 = .ok (.iaload, 1) := by decide +kernel
theorem dX8_way_34 : decode cX8_way 34 = .ok (.invokevirtual 43, 3) := by decide +kernel
theorem dX8_way_37 : decode cX8_way 37 = .ok (.aload_n 0, 1) := by decide +kernel
theorem dX8_way_38 : decode cX8_way 38 = .ok (.getfield 9, 3) := by decide +kernel
theorem dX8_way_41 : decode cX8_way 41 = .ok (.bipush 38, 2) := by decide +kernel
theorem dX8_way_43 : decode cX8_way 43 = .ok (.iaload, 1) := by decide +kernel
theorem dX8_way_44 : decode cX8_way 44 = .ok (.imul, 1) := by decide +kernel
theorem dX8_way_45 : decode cX8_way 45 = .ok (.ireturn, 1) := by decide +kernel
set_option maxRecDepth 20000 in
theorem dX8_wholeTurn_0 : decode cX8_wholeTurn 0 = .ok (.aload_n 0, 1) := by decide +kernel
theorem dX8_wholeTurn_1 : decode cX8_wholeTurn 1 = .ok (.getfield 21, 3) := by decide +kernel
theorem dX8_wholeTurn_4 : decode cX8_wholeTurn 4 = .ok (.ifCond .ne 5, 3) := by decide +kernel
theorem dX8_wholeTurn_7 : decode cX8_wholeTurn 7 = .ok (.iconst 0, 1) := by decide +kernel
theorem dX8_wholeTurn_8 : decode cX8_wholeTurn 8 = .ok (.ireturn, 1) := by decide +kernel
theorem dX8_wholeTurn_9 : decode cX8_wholeTurn 9 = .ok (.aload_n 0, 1) := by decide +kernel
theorem dX8_wholeTurn_10 : decode cX8_wholeTurn 10 = .ok (.invokevirtual 50, 3) := by decide +kernel
theorem dX8_wholeTurn_13 : decode cX8_wholeTurn 13 = .ok (.istore_n 3, 1) := by decide +kernel
theorem dX8_wholeTurn_14 : decode cX8_wholeTurn 14 = .ok (.iload_n 1, 1) := by decide +kernel
theorem dX8_wholeTurn_15 : decode cX8_wholeTurn 15 = .ok (.istore 4, 2) := by decide +kernel
theorem dX8_wholeTurn_17 : decode cX8_wholeTurn 17 = .ok (.iconst 1, 1) := by decide +kernel
theorem dX8_wholeTurn_18 : decode cX8_wholeTurn 18 = .ok (.istore 5, 2) := by decide +kernel
theorem dX8_wholeTurn_20 : decode cX8_wholeTurn 20 = .ok (.iload 5, 2) := by decide +kernel
theorem dX8_wholeTurn_22 : decode cX8_wholeTurn 22 = .ok (.aload_n 0, 1) := by decide +kernel
theorem dX8_wholeTurn_23 : decode cX8_wholeTurn 23 = .ok (.getfield 21, 3) := by decide +kernel
theorem dX8_wholeTurn_26 : decode cX8_wholeTurn 26 = .ok (.if_icmp .ge 40, 3) := by decide +kernel
theorem dX8_wholeTurn_29 : decode cX8_wholeTurn 29 = .ok (.iload 4, 2) := by decide +kernel
theorem dX8_wholeTurn_31 : decode cX8_wholeTurn 31 = .ok (.iload_n 2, 1) := by decide +kernel
theorem dX8_wholeTurn_32 : decode cX8_wholeTurn 32 = .ok (.iadd, 1) := by decide +kernel
theorem dX8_wholeTurn_33 : decode cX8_wholeTurn 33 = .ok (.aload_n 0, 1) := by decide +kernel
theorem dX8_wholeTurn_34 : decode cX8_wholeTurn 34 = .ok (.getfield 21, 3) := by decide +kernel
theorem dX8_wholeTurn_37 : decode cX8_wholeTurn 37 = .ok (.irem, 1) := by decide +kernel
theorem dX8_wholeTurn_38 : decode cX8_wholeTurn 38 = .ok (.istore 6, 2) := by decide +kernel
theorem dX8_wholeTurn_40 : decode cX8_wholeTurn 40 = .ok (.iload_n 3, 1) := by decide +kernel
theorem dX8_wholeTurn_41 : decode cX8_wholeTurn 41 = .ok (.aload_n 0, 1) := by decide +kernel
theorem dX8_wholeTurn_42 : decode cX8_wholeTurn 42 = .ok (.iload 4, 2) := by decide +kernel
theorem dX8_wholeTurn_44 : decode cX8_wholeTurn 44 = .ok (.iload 6, 2) := by decide +kernel
theorem dX8_wholeTurn_46 : decode cX8_wholeTurn 46 = .ok (.invokevirtual 53, 3) := by decide +kernel
theorem dX8_wholeTurn_49 : decode cX8_wholeTurn 49 = .ok (.aload_n 0, 1) := by decide +kernel
theorem dX8_wholeTurn_50 : decode cX8_wholeTurn 50 = .ok (.invokevirtual 50, 3) := by decide +kernel
theorem dX8_wholeTurn_53 : decode cX8_wholeTurn 53 = .ok (.iadd, 1) := by decide +kernel
theorem dX8_wholeTurn_54 : decode cX8_wholeTurn 54 = .ok (.iadd, 1) := by decide +kernel
theorem dX8_wholeTurn_55 : decode cX8_wholeTurn 55 = .ok (.istore_n 3, 1) := by decide +kernel
theorem dX8_wholeTurn_56 : decode cX8_wholeTurn 56 = .ok (.iload 6, 2) := by decide +kernel
theorem dX8_wholeTurn_58 : decode cX8_wholeTurn 58 = .ok (.istore 4, 2) := by decide +kernel
theorem dX8_wholeTurn_60 : decode cX8_wholeTurn 60 = .ok (.iinc 5 1, 3) := by decide +kernel
theorem dX8_wholeTurn_63 : decode cX8_wholeTurn 63 = .ok (.goto (-43), 3) := by decide +kernel
theorem dX8_wholeTurn_66 : decode cX8_wholeTurn 66 = .ok (.iload_n 3, 1) := by decide +kernel
theorem dX8_wholeTurn_67 : decode cX8_wholeTurn 67 = .ok (.ireturn, 1) := by decide +kernel
set_option maxRecDepth 20000 in
theorem dX9_init_0 : decode cX9_init 0 = .ok (.aload_n 0, 1) := by decide +kernel
theorem dX9_init_1 : decode cX9_init 1 = .ok (.invokespecial 1, 3) := by decide +kernel
theorem dX9_init_4 : decode cX9_init 4 = .ok (.aload_n 0, 1) := by decide +kernel
theorem dX9_init_5 : decode cX9_init 5 = .ok (.new 7, 3) := by decide +kernel
theorem dX9_init_8 : decode cX9_init 8 = .ok (.dup, 1) := by decide +kernel
theorem dX9_init_9 : decode cX9_init 9 = .ok (.invokespecial 9, 3) := by decide +kernel
theorem dX9_init_12 : decode cX9_init 12 = .ok (.putfield 10, 3) := by decide +kernel
theorem dX9_init_15 : decode cX9_init 15 = .ok (.aload_n 0, 1) := by decide +kernel
theorem dX9_init_16 : decode cX9_init 16 = .ok (.new 16, 3) := by decide +kernel
theorem dX9_init_19 : decode cX9_init 19 = .ok (.dup, 1) := by decide +kernel
theorem dX9_init_20 : decode cX9_init 20 = .ok (.invokespecial 18, 3) := by decide +kernel
theorem dX9_init_23 : decode cX9_init 23 = .ok (.putfield 19, 3) := by decide +kernel
theorem dX9_init_26 : decode cX9_init 26 = .ok (.aload_n 0, 1) := by decide +kernel
theorem dX9_init_27 : decode cX9_init 27 = .ok (.new 23, 3) := by decide +kernel
theorem dX9_init_30 : decode cX9_init 30 = .ok (.dup, 1) := by decide +kernel
theorem dX9_init_31 : decode cX9_init 31 = .ok (.invokespecial 25, 3) := by decide +kernel
theorem dX9_init_34 : decode cX9_init 34 = .ok (.putfield 26, 3) := by decide +kernel
theorem dX9_init_37 : decode cX9_init 37 = .ok (.aload_n 0, 1) := by decide +kernel
theorem dX9_init_38 : decode cX9_init 38 = .ok (.bipush 6, 2) := by decide +kernel
theorem dX9_init_40 : decode cX9_init 40 = .ok (.anewarray 30, 3) := by decide +kernel
theorem dX9_init_43 : decode cX9_init 43 = .ok (.putfield 32, 3) := by decide +kernel
theorem dX9_init_46 : decode cX9_init 46 = .ok (.aload_n 0, 1) := by decide +kernel
theorem dX9_init_47 : decode cX9_init 47 = .ok (.new 36, 3) := by decide +kernel
theorem dX9_init_50 : decode cX9_init 50 = .ok (.dup, 1) := by decide +kernel
theorem dX9_init_51 : decode cX9_init 51 = .ok (.aload_n 0, 1) := by decide +kernel
theorem dX9_init_52 : decode cX9_init 52 = .ok (.getfield 10, 3) := by decide +kernel
theorem dX9_init_55 : decode cX9_init 55 = .ok (.invokespecial 38, 3) := by decide +kernel
theorem dX9_init_58 : decode cX9_init 58 = .ok (.putfield 41, 3) := by decide +kernel
theorem dX9_init_61 : decode cX9_init 61 = .ok (.aload_n 0, 1) := by decide +kernel
theorem dX9_init_62 : decode cX9_init 62 = .ok (.new 36, 3) := by decide +kernel
theorem dX9_init_65 : decode cX9_init 65 = .ok (.dup, 1) := by decide +kernel
theorem dX9_init_66 : decode cX9_init 66 = .ok (.aload_n 0, 1) := by decide +kernel
theorem dX9_init_67 : decode cX9_init 67 = .ok (.getfield 10, 3) := by decide +kernel
theorem dX9_init_70 : decode cX9_init 70 = .ok (.invokespecial 38, 3) := by decide +kernel
theorem dX9_init_73 : decode cX9_init 73 = .ok (.putfield 45, 3) := by decide +kernel
theorem dX9_init_76 : decode cX9_init 76 = .ok (.aload_n 0, 1) := by decide +kernel
theorem dX9_init_77 : decode cX9_init 77 = .ok (.new 48, 3) := by decide +kernel
theorem dX9_init_80 : decode cX9_init 80 = .ok (.dup, 1) := by decide +kernel
theorem dX9_init_81 : decode cX9_init 81 = .ok (.invokespecial 50, 3) := by decide +kernel
theorem dX9_init_84 : decode cX9_init 84 = .ok (.putfield 51, 3) := by decide +kernel
theorem dX9_init_87 : decode cX9_init 87 = .ok (.aload_n 0, 1) := by decide +kernel
theorem dX9_init_88 : decode cX9_init 88 = .ok (.new 55, 3) := by decide +kernel
theorem dX9_init_91 : decode cX9_init 91 = .ok (.dup, 1) := by decide +kernel
theorem dX9_init_92 : decode cX9_init 92 = .ok (.aload_n 0, 1) := by decide +kernel
theorem dX9_init_93 : decode cX9_init 93 = .ok (.getfield 10, 3) := by decide +kernel
theorem dX9_init_96 : decode cX9_init 96 = .ok (.invokespecial 57, 3) := by decide +kernel
theorem dX9_init_99 : decode cX9_init 99 = .ok (.putfield 58, 3) := by decide +kernel
theorem dX9_init_102 : decode cX9_init 102 = .ok (.aload_n 0, 1) := by decide +kernel
theorem dX9_init_103 : decode cX9_init 103 = .ok (.new 62, 3) := by decide +kernel
theorem dX9_init_106 : decode cX9_init 106 = .ok (.dup, 1) := by decide +kernel
theorem dX9_init_107 : decode cX9_init 107 = .ok (.invokespecial 64, 3) := by decide +kernel
theorem dX9_init_110 : decode cX9_init 110 = .ok (.putfield 65, 3) := by decide +kernel
theorem dX9_init_113 : decode cX9_init 113 = .ok (.aload_n 0, 1) := by decide +kernel
theorem dX9_init_114 : decode cX9_init 114 = .ok (.new 62, 3) := by decide +kernel
theorem dX9_init_117 : decode cX9_init 117 = .ok (.dup, 1) := by decide +kernel
theorem dX9_init_118 : decode cX9_init 118 = .ok (.invokespecial 64, 3) := by decide +kernel
theorem dX9_init_121 : decode cX9_init 121 = .ok (.putfield 69, 3) := by decide +kernel
theorem dX9_init_124 : decode cX9_init 124 = .ok (.aload_n 0, 1) := by decide +kernel
theorem dX9_init_125 : decode cX9_init 125 = .ok (.new 72, 3) := by decide +kernel
theorem dX9_init_128 : decode cX9_init 128 = .ok (.dup, 1) := by decide +kernel
theorem dX9_init_129 : decode cX9_init 129 = .ok (.invokespecial 74, 3) := by decide +kernel
theorem dX9_init_132 : decode cX9_init 132 = .ok (.putfield 75, 3) := by decide +kernel
theorem dX9_init_135 : decode cX9_init 135 = .ok (.aload_n 0, 1) := by decide +kernel
theorem dX9_init_136 : decode cX9_init 136 = .ok (.sipush 600, 3) := by decide +kernel
theorem dX9_init_139 : decode cX9_init 139 = .ok (.newarray .int, 2) := by decide +kernel
theorem dX9_init_141 : decode cX9_init 141 = .ok (.putfield 79, 3) := by decide +kernel
theorem dX9_init_144 : decode cX9_init 144 = .ok (.aload_n 0, 1) := by decide +kernel
theorem dX9_init_145 : decode cX9_init 145 = .ok (.bipush 100, 2) := by decide +kernel
theorem dX9_init_147 : decode cX9_init 147 = .ok (.newarray .int, 2) := by decide +kernel
theorem dX9_init_149 : decode cX9_init 149 = .ok (.putfield 83, 3) := by decide +kernel
theorem dX9_init_152 : decode cX9_init 152 = .ok (.aload_n 0, 1) := by decide +kernel
theorem dX9_init_153 : decode cX9_init 153 = .ok (.bipush 6, 2) := by decide +kernel
theorem dX9_init_155 : decode cX9_init 155 = .ok (.newarray .int, 2) := by decide +kernel
theorem dX9_init_157 : decode cX9_init 157 = .ok (.putfield 86, 3) := by decide +kernel
theorem dX9_init_160 : decode cX9_init 160 = .ok (.iconst 0, 1) := by decide +kernel
theorem dX9_init_161 : decode cX9_init 161 = .ok (.istore_n 1, 1) := by decide +kernel
theorem dX9_init_162 : decode cX9_init 162 = .ok (.iload_n 1, 1) := by decide +kernel
theorem dX9_init_163 : decode cX9_init 163 = .ok (.bipush 6, 2) := by decide +kernel
theorem dX9_init_165 : decode cX9_init 165 = .ok (.if_icmp .ge 22, 3) := by decide +kernel
theorem dX9_init_168 : decode cX9_init 168 = .ok (.aload_n 0, 1) := by decide +kernel
theorem dX9_init_169 : decode cX9_init 169 = .ok (.getfield 32, 3) := by decide +kernel
theorem dX9_init_172 : decode cX9_init 172 = .ok (.iload_n 1, 1) := by decide +kernel
theorem dX9_init_173 : decode cX9_init 173 = .ok (.new 30, 3) := by decide +kernel
theorem dX9_init_176 : decode cX9_init 176 = .ok (.dup, 1) := by decide +kernel
theorem dX9_init_177 : decode cX9_init 177 = .ok (.invokespecial 89, 3) := by decide +kernel
theorem dX9_init_180 : decode cX9_init 180 = .ok (.aastore, 1) := by decide +kernel
theorem dX9_init_181 : decode cX9_init 181 = .ok (.iinc 1 1, 3) := by decide +kernel
theorem dX9_init_184 : decode cX9_init 184 = .ok (.goto (-22), 3) := by decide +kernel
theorem dX9_init_187 : decode cX9_init 187 = .ok (.return_, 1) := by decide +kernel
set_option maxRecDepth 20000 in
theorem dX9_post_0 : decode cX9_post 0 = .ok (.iload_n 1, 1) := by decide +kernel
theorem dX9_post_1 : decode cX9_post 1 = .ok (.ifCond .lt 25, 3) := by decide +kernel
theorem dX9_post_4 : decode cX9_post 4 = .ok (.iconst 0, 1) := by decide +kernel
theorem dX9_post_5 : decode cX9_post 5 = .ok (.iload_n 1, 1) := by decide +kernel
theorem dX9_post_6 : decode cX9_post 6 = .ok (.bipush 100, 2) := by decide +kernel
theorem dX9_post_8 : decode cX9_post 8 = .ok (.irem, 1) := by decide +kernel
theorem dX9_post_9 : decode cX9_post 9 = .ok (.invokestatic 90, 3) := by decide +kernel
theorem dX9_post_12 : decode cX9_post 12 = .ok (.ifCond .eq 14, 3) := by decide +kernel
theorem dX9_post_15 : decode cX9_post 15 = .ok (.iconst 1, 1) := by decide +kernel
theorem dX9_post_16 : decode cX9_post 16 = .ok (.iload_n 1, 1) := by decide +kernel
theorem dX9_post_17 : decode cX9_post 17 = .ok (.bipush 100, 2) := by decide +kernel
theorem dX9_post_19 : decode cX9_post 19 = .ok (.idiv, 1) := by decide +kernel
theorem dX9_post_20 : decode cX9_post 20 = .ok (.invokestatic 90, 3) := by decide +kernel
theorem dX9_post_23 : decode cX9_post 23 = .ok (.ifCond .ne 5, 3) := by decide +kernel
theorem dX9_post_26 : decode cX9_post 26 = .ok (.iconst (-1), 1) := by decide +kernel
theorem dX9_post_27 : decode cX9_post 27 = .ok (.ireturn, 1) := by decide +kernel
theorem dX9_post_28 : decode cX9_post 28 = .ok (.aload_n 0, 1) := by decide +kernel
theorem dX9_post_29 : decode cX9_post 29 = .ok (.getfield 10, 3) := by decide +kernel
theorem dX9_post_32 : decode cX9_post 32 = .ok (.getfield 94, 3) := by decide +kernel
theorem dX9_post_35 : decode cX9_post 35 = .ok (.bipush 9, 2) := by decide +kernel
theorem dX9_post_37 : decode cX9_post 37 = .ok (.if_icmp .lt 6, 3) := by decide +kernel
theorem dX9_post_40 : decode cX9_post 40 = .ok (.bipush (-3), 2) := by decide +kernel
theorem dX9_post_42 : decode cX9_post 42 = .ok (.ireturn, 1) := by decide +kernel
theorem dX9_post_43 : decode cX9_post 43 = .ok (.aload_n 0, 1) := by decide +kernel
theorem dX9_post_44 : decode cX9_post 44 = .ok (.getfield 10, 3) := by decide +kernel
theorem dX9_post_47 : decode cX9_post 47 = .ok (.iload_n 1, 1) := by decide +kernel
theorem dX9_post_48 : decode cX9_post 48 = .ok (.bipush 100, 2) := by decide +kernel
theorem dX9_post_50 : decode cX9_post 50 = .ok (.irem, 1) := by decide +kernel
theorem dX9_post_51 : decode cX9_post 51 = .ok (.iload_n 1, 1) := by decide +kernel
theorem dX9_post_52 : decode cX9_post 52 = .ok (.bipush 100, 2) := by decide +kernel
theorem dX9_post_54 : decode cX9_post 54 = .ok (.idiv, 1) := by decide +kernel
theorem dX9_post_55 : decode cX9_post 55 = .ok (.iconst 1, 1) := by decide +kernel
theorem dX9_post_56 : decode cX9_post 56 = .ok (.invokevirtual 98, 3) := by decide +kernel
theorem dX9_post_59 : decode cX9_post 59 = .ok (.ireturn, 1) := by decide +kernel
set_option maxRecDepth 20000 in
theorem dX9_posts_0 : decode cX9_posts 0 = .ok (.iload_n 1, 1) := by decide +kernel
theorem dX9_posts_1 : decode cX9_posts 1 = .ok (.invokestatic 102, 3) := by decide +kernel
theorem dX9_posts_4 : decode cX9_posts 4 = .ok (.ifCond .eq 14, 3) := by decide +kernel
theorem dX9_posts_7 : decode cX9_posts 7 = .ok (.iload_n 3, 1) := by decide +kernel
theorem dX9_posts_8 : decode cX9_posts 8 = .ok (.iconst 1, 1) := by decide +kernel
theorem dX9_posts_9 : decode cX9_posts 9 = .ok (.if_icmp .lt 9, 3) := by decide +kernel
theorem dX9_posts_12 : decode cX9_posts 12 = .ok (.iload_n 3, 1) := by decide +kernel
theorem dX9_posts_13 : decode cX9_posts 13 = .ok (.bipush 9, 2) := by decide +kernel
theorem dX9_posts_15 : decode cX9_posts 15 = .ok (.if_icmp .le 5, 3) := by decide +kernel
theorem dX9_posts_18 : decode cX9_posts 18 = .ok (.iconst (-1), 1) := by decide +kernel
theorem dX9_posts_19 : decode cX9_posts 19 = .ok (.ireturn, 1) := by decide +kernel
theorem dX9_posts_20 : decode cX9_posts 20 = .ok (.aload_n 0, 1) := by decide +kernel
theorem dX9_posts_21 : decode cX9_posts 21 = .ok (.getfield 32, 3) := by decide +kernel
theorem dX9_posts_24 : decode cX9_posts 24 = .ok (.iload_n 1, 1) := by decide +kernel
theorem dX9_posts_25 : decode cX9_posts 25 = .ok (.aaload, 1) := by decide +kernel
theorem dX9_posts_26 : decode cX9_posts 26 = .ok (.astore 4, 2) := by decide +kernel
theorem dX9_posts_28 : decode cX9_posts 28 = .ok (.aload 4, 2) := by decide +kernel
theorem dX9_posts_30 : decode cX9_posts 30 = .ok (.iconst 0, 1) := by decide +kernel
theorem dX9_posts_31 : decode cX9_posts 31 = .ok (.invokevirtual 106, 3) := by decide +kernel
theorem dX9_posts_34 : decode cX9_posts 34 = .ok (.istore 5, 2) := by decide +kernel
theorem dX9_posts_36 : decode cX9_posts 36 = .ok (.iload 5, 2) := by decide +kernel
theorem dX9_posts_38 : decode cX9_posts 38 = .ok (.bipush (-11), 2) := by decide +kernel
theorem dX9_posts_40 : decode cX9_posts 40 = .ok (.if_icmp .ne 5, 3) := by decide +kernel
theorem dX9_posts_43 : decode cX9_posts 43 = .ok (.iconst 0, 1) := by decide +kernel
theorem dX9_posts_44 : decode cX9_posts 44 = .ok (.ireturn, 1) := by decide +kernel
theorem dX9_posts_45 : decode cX9_posts 45 = .ok (.iload 5, 2) := by decide +kernel
theorem dX9_posts_47 : decode cX9_posts 47 = .ok (.ifCond .ge 8, 3) := by decide +kernel
theorem dX9_posts_50 : decode cX9_posts 50 = .ok (.iload 5, 2) := by decide +kernel
theorem dX9_posts_52 : decode cX9_posts 52 = .ok (.goto 11, 3) := by decide +kernel
theorem dX9_posts_55 : decode cX9_posts 55 = .ok (.aload_n 0, 1) := by decide +kernel
theorem dX9_posts_56 : decode cX9_posts 56 = .ok (.aload 4, 2) := by decide +kernel
theorem dX9_posts_58 : decode cX9_posts 58 = .ok (.iload_n 2, 1) := by decide +kernel
theorem dX9_posts_59 : decode cX9_posts 59 = .ok (.iload_n 3, 1) := by decide +kernel
theorem dX9_posts_60 : decode cX9_posts 60 = .ok (.invokevirtual 110, 3) := by decide +kernel
theorem dX9_posts_63 : decode cX9_posts 63 = .ok (.ireturn, 1) := by decide +kernel
set_option maxRecDepth 20000 in
theorem dX9_addPostsFrom_0 : decode cX9_addPostsFrom 0 = .ok (.iconst 0, 1) := by decide +kernel
theorem dX9_addPostsFrom_1 : decode cX9_addPostsFrom 1 = .ok (.istore 4, 2) := by decide +kernel
theorem dX9_addPostsFrom_3 : decode cX9_addPostsFrom 3 = .ok (.iload 4, 2) := by decide +kernel
theorem dX9_addPostsFrom_5 : decode cX9_addPostsFrom 5 = .ok (.iload_n 3, 1) := by decide +kernel
theorem dX9_addPostsFrom_6 : decode cX9_addPostsFrom 6 = .ok (.if_icmp .ge 136, 3) := by decide +kernel
theorem dX9_addPostsFrom_9 : decode cX9_addPostsFrom 9 = .ok (.iload_n 2, 1) := by decide +kernel
theorem dX9_addPostsFrom_10 : decode cX9_addPostsFrom 10 = .ok (.i2l, 1) := by decide +kernel
theorem dX9_addPostsFrom_11 : decode cX9_addPostsFrom 11 = .ok (.ldc2_w 114, 3) := by decide +kernel
theorem dX9_addPostsFrom_14 : decode cX9_addPostsFrom 14 = .ok (.iload 4, 2) := by decide +kernel
theorem dX9_addPostsFrom_16 : decode cX9_addPostsFrom 16 = .ok (.i2l, 1) := by decide +kernel
theorem dX9_addPostsFrom_17 : decode cX9_addPostsFrom 17 = .ok (.lmul, 1) := by decide +kernel
theorem dX9_addPostsFrom_18 : decode cX9_addPostsFrom 18 = .ok (.ladd, 1) := by decide +kernel
theorem dX9_addPostsFrom_19 : decode cX9_addPostsFrom 19 = .ok (.lstore 5, 2) := by decide +kernel
theorem dX9_addPostsFrom_21 : decode cX9_addPostsFrom 21 = .ok (.lload 5, 2) := by decide +kernel
theorem dX9_addPostsFrom_23 : decode cX9_addPostsFrom 23 = .ok (.lconst 0, 1) := by decide +kernel
theorem dX9_addPostsFrom_24 : decode cX9_addPostsFrom 24 = .ok (.lcmp, 1) := by decide +kernel
theorem dX9_addPostsFrom_25 : decode cX9_addPostsFrom 25 = .ok (.ifCond .lt 30, 3) := by decide +kernel
theorem dX9_addPostsFrom_28 : decode cX9_addPostsFrom 28 = .ok (.lload 5, 2) := by decide +kernel
theorem dX9_addPostsFrom_30 : decode cX9_addPostsFrom 30 = .ok (.ldc2_w 116, 3) := by decide +kernel
theorem dX9_addPostsFrom_33 : decode cX9_addPostsFrom 33 = .ok (.ladd, 1) := by decide +kernel
theorem dX9_addPostsFrom_34 : decode cX9_addPostsFrom 34 = .ok (.aload_n 1, 1) := by decide +kernel
theorem dX9_addPostsFrom_35 : decode cX9_addPostsFrom 35 = .ok (.getfield 118, 3) := by decide +kernel
theorem dX9_addPostsFrom_38 : decode cX9_addPostsFrom 38 = .ok (.i2l, 1) := by decide +kernel
theorem dX9_addPostsFrom_39 : decode cX9_addPostsFrom 39 = .ok (.lcmp, 1) := by decide +kernel
theorem dX9_addPostsFrom_40 : decode cX9_addPostsFrom 40 = .ok (.ifCond .ge 15, 3) := by decide +kernel
theorem dX9_addPostsFrom_43 : decode cX9_addPostsFrom 43 = .ok (.aload_n 0, 1) := by decide +kernel
theorem dX9_addPostsFrom_44 : decode cX9_addPostsFrom 44 = .ok (.getfield 10, 3) := by decide +kernel
theorem dX9_addPostsFrom_47 : decode cX9_addPostsFrom 47 = .ok (.getfield 94, 3) := by decide +kernel
theorem dX9_addPostsFrom_50 : decode cX9_addPostsFrom 50 = .ok (.bipush 9, 2) := by decide +kernel
theorem dX9_addPostsFrom_52 : decode cX9_addPostsFrom 52 = .ok (.if_icmp .lt 6, 3) := by decide +kernel
theorem dX9_addPostsFrom_55 : decode cX9_addPostsFrom 55 = .ok (.iload 4, 2) := by decide +kernel
theorem dX9_addPostsFrom_57 : decode cX9_addPostsFrom 57 = .ok (.ireturn, 1) := by decide +kernel
theorem dX9_addPostsFrom_58 : decode cX9_addPostsFrom 58 = .ok (.aload_n 1, 1) := by decide +kernel
theorem dX9_addPostsFrom_59 : decode cX9_addPostsFrom 59 = .ok (.lload 5, 2) := by decide +kernel
theorem dX9_addPostsFrom_61 : decode cX9_addPostsFrom 61 = .ok (.l2i, 1) := by decide +kernel
theorem dX9_addPostsFrom_62 : decode cX9_addPostsFrom 62 = .ok (.invokevirtual 119, 3) := by decide +kernel
theorem dX9_addPostsFrom_65 : decode cX9_addPostsFrom 65 = .ok (.l2i, 1) := by decide +kernel
theorem dX9_addPostsFrom_66 : decode cX9_addPostsFrom 66 = .ok (.istore 7, 2) := by decide +kernel
theorem dX9_addPostsFrom_68 : decode cX9_addPostsFrom 68 = .ok (.aload_n 1, 1) := by decide +kernel
theorem dX9_addPostsFrom_69 : decode cX9_addPostsFrom 69 = .ok (.lload 5, 2) := by decide +kernel
theorem dX9_addPostsFrom_71 : decode cX9_addPostsFrom 71 = .ok (.l2i, 1) := by decide +kernel
theorem dX9_addPostsFrom_72 : decode cX9_addPostsFrom 72 = .ok (.iconst 1, 1) := by decide +kernel
theorem dX9_addPostsFrom_73 : decode cX9_addPostsFrom 73 = .ok (.iadd, 1) := by decide +kernel
theorem dX9_addPostsFrom_74 : decode cX9_addPostsFrom 74 = .ok (.invokevirtual 119, 3) := by decide +kernel
theorem dX9_addPostsFrom_77 : decode cX9_addPostsFrom 77 = .ok (.l2i, 1) := by decide +kernel
theorem dX9_addPostsFrom_78 : decode cX9_addPostsFrom 78 = .ok (.istore 8, 2) := by decide +kernel
theorem dX9_addPostsFrom_80 : decode cX9_addPostsFrom 80 = .ok (.aload_n 1, 1) := by decide +kernel
theorem dX9_addPostsFrom_81 : decode cX9_addPostsFrom 81 = .ok (.lload 5, 2) := by decide +kernel
theorem dX9_addPostsFrom_83 : decode cX9_addPostsFrom 83 = .ok (.l2i, 1) := by decide +kernel
theorem dX9_addPostsFrom_84 : decode cX9_addPostsFrom 84 = .ok (.iconst 2, 1) := by decide +kernel
theorem dX9_addPostsFrom_85 : decode cX9_addPostsFrom 85 = .ok (.iadd, 1) := by decide +kernel
theorem dX9_addPostsFrom_86 : decode cX9_addPostsFrom 86 = .ok (.invokevirtual 119, 3) := by decide +kernel
theorem dX9_addPostsFrom_89 : decode cX9_addPostsFrom 89 = .ok (.l2i, 1) := by decide +kernel
theorem dX9_addPostsFrom_90 : decode cX9_addPostsFrom 90 = .ok (.istore 9, 2) := by decide +kernel
theorem dX9_addPostsFrom_92 : decode cX9_addPostsFrom 92 = .ok (.iconst 0, 1) := by decide +kernel
theorem dX9_addPostsFrom_93 : decode cX9_addPostsFrom 93 = .ok (.iload 7, 2) := by decide +kernel
theorem dX9_addPostsFrom_95 : decode cX9_addPostsFrom 95 = .ok (.invokestatic 90, 3) := by decide +kernel
theorem dX9_addPostsFrom_98 : decode cX9_addPostsFrom 98 = .ok (.ifCond .eq 21, 3) := by decide +kernel
theorem dX9_addPostsFrom_101 : decode cX9_addPostsFrom 101 = .ok (.iconst 1, 1) := by decide +kernel
theorem dX9_addPostsFrom_102 : decode cX9_addPostsFrom 102 = .ok (.iload 8, 2) := by decide +kernel
theorem dX9_addPostsFrom_104 : decode cX9_addPostsFrom 104 = .ok (.invokestatic 90, 3) := by decide +kernel
theorem dX9_addPostsFrom_107 : decode cX9_addPostsFrom 107 = .ok (.ifCond .eq 12, 3) := by decide +kernel
theorem dX9_addPostsFrom_110 : decode cX9_addPostsFrom 110 = .ok (.iconst 2, 1) := by decide +kernel
theorem dX9_addPostsFrom_111 : decode cX9_addPostsFrom 111 = .ok (.iload 9, 2) := by decide +kernel
theorem dX9_addPostsFrom_113 : decode cX9_addPostsFrom 113 = .ok (.invokestatic 90, 3) := by decide +kernel
theorem dX9_addPostsFrom_116 : decode cX9_addPostsFrom 116 = .ok (.ifCond .ne 6, 3) := by decide +kernel
theorem dX9_addPostsFrom_119 : decode cX9_addPostsFrom 119 = .ok (.iload 4, 2) := by decide +kernel
theorem dX9_addPostsFrom_121 : decode cX9_addPostsFrom 121 = .ok (.ireturn, 1) := by decide +kernel
theorem dX9_addPostsFrom_122 : decode cX9_addPostsFrom 122 = .ok (.aload_n 0, 1) := by decide +kernel
theorem dX9_addPostsFrom_123 : decode cX9_addPostsFrom 123 = .ok (.getfield 10, 3) := by decide +kernel
theorem dX9_addPostsFrom_126 : decode cX9_addPostsFrom 126 = .ok (.iload 7, 2) := by decide +kernel
theorem dX9_addPostsFrom_128 : decode cX9_addPostsFrom 128 = .ok (.iload 8, 2) := by decide +kernel
theorem dX9_addPostsFrom_130 : decode cX9_addPostsFrom 130 = .ok (.iload 9, 2) := by decide +kernel
theorem dX9_addPostsFrom_132 : decode cX9_addPostsFrom 132 = .ok (.invokevirtual 98, 3) := by decide +kernel
theorem dX9_addPostsFrom_135 : decode cX9_addPostsFrom 135 = .ok (.pop, 1) := by decide +kernel
theorem dX9_addPostsFrom_136 : decode cX9_addPostsFrom 136 = .ok (.iinc 4 1, 3) := by decide +kernel
theorem dX9_addPostsFrom_139 : decode cX9_addPostsFrom 139 = .ok (.goto (-136), 3) := by decide +kernel
theorem dX9_addPostsFrom_142 : decode cX9_addPostsFrom 142 = .ok (.iload_n 3, 1) := by decide +kernel
theorem dX9_addPostsFrom_143 : decode cX9_addPostsFrom 143 = .ok (.ireturn, 1) := by decide +kernel
set_option maxRecDepth 20000 in
theorem dX9_mend_0 : decode cX9_mend 0 = .ok (.aload_n 0, 1) := by decide +kernel
theorem dX9_mend_1 : decode cX9_mend 1 = .ok (.getfield 10, 3) := by decide +kernel
theorem dX9_mend_4 : decode cX9_mend 4 = .ok (.iload_n 1, 1) := by decide +kernel
theorem dX9_mend_5 : decode cX9_mend 5 = .ok (.iload_n 2, 1) := by decide +kernel
theorem dX9_mend_6 : decode cX9_mend 6 = .ok (.invokevirtual 123, 3) := by decide +kernel
theorem dX9_mend_9 : decode cX9_mend 9 = .ok (.istore 4, 2) := by decide +kernel
theorem dX9_mend_11 : decode cX9_mend 11 = .ok (.iload 4, 2) := by decide +kernel
theorem dX9_mend_13 : decode cX9_mend 13 = .ok (.ifCond .lt 11, 3) := by decide +kernel
theorem dX9_mend_16 : decode cX9_mend 16 = .ok (.iload_n 2, 1) := by decide +kernel
theorem dX9_mend_17 : decode cX9_mend 17 = .ok (.iload_n 3, 1) := by decide +kernel
theorem dX9_mend_18 : decode cX9_mend 18 = .ok (.invokestatic 90, 3) := by decide +kernel
theorem dX9_mend_21 : decode cX9_mend 21 = .ok (.ifCond .ne 5, 3) := by decide +kernel
theorem dX9_mend_24 : decode cX9_mend 24 = .ok (.iconst (-1), 1) := by decide +kernel
theorem dX9_mend_25 : decode cX9_mend 25 = .ok (.ireturn, 1) := by decide +kernel
theorem dX9_mend_26 : decode cX9_mend 26 = .ok (.aload_n 0, 1) := by decide +kernel
theorem dX9_mend_27 : decode cX9_mend 27 = .ok (.getfield 10, 3) := by decide +kernel
theorem dX9_mend_30 : decode cX9_mend 30 = .ok (.getfield 127, 3) := by decide +kernel
theorem dX9_mend_33 : decode cX9_mend 33 = .ok (.iload 4, 2) := by decide +kernel
theorem dX9_mend_35 : decode cX9_mend 35 = .ok (.iaload, 1) := by decide +kernel
theorem dX9_mend_36 : decode cX9_mend 36 = .ok (.istore 5, 2) := by decide +kernel
theorem dX9_mend_38 : decode cX9_mend 38 = .ok (.iload 5, 2) := by decide +kernel
theorem dX9_mend_40 : decode cX9_mend 40 = .ok (.iload_n 3, 1) := by decide +kernel
theorem dX9_mend_41 : decode cX9_mend 41 = .ok (.if_icmp .eq 26, 3) := by decide +kernel
theorem dX9_mend_44 : decode cX9_mend 44 = .ok (.aload_n 0, 1) := by decide +kernel
theorem dX9_mend_45 : decode cX9_mend 45 = .ok (.getfield 10, 3) := by decide +kernel
theorem dX9_mend_48 : decode cX9_mend 48 = .ok (.getfield 127, 3) := by decide +kernel
theorem dX9_mend_51 : decode cX9_mend 51 = .ok (.iload 4, 2) := by decide +kernel
theorem dX9_mend_53 : decode cX9_mend 53 = .ok (.iload_n 3, 1) := by decide +kernel
theorem dX9_mend_54 : decode cX9_mend 54 = .ok (.iastore, 1) := by decide +kernel
theorem dX9_mend_55 : decode cX9_mend 55 = .ok (.aload_n 0, 1) := by decide +kernel
theorem dX9_mend_56 : decode cX9_mend 56 = .ok (.getfield 19, 3) := by decide +kernel
theorem dX9_mend_59 : decode cX9_mend 59 = .ok (.iload 4, 2) := by decide +kernel
theorem dX9_mend_61 : decode cX9_mend 61 = .ok (.iload 5, 2) := by decide +kernel
theorem dX9_mend_63 : decode cX9_mend 63 = .ok (.iload_n 3, 1) := by decide +kernel
theorem dX9_mend_64 : decode cX9_mend 64 = .ok (.invokevirtual 130, 3) := by decide +kernel
theorem dX9_mend_67 : decode cX9_mend 67 = .ok (.iload 5, 2) := by decide +kernel
theorem dX9_mend_69 : decode cX9_mend 69 = .ok (.ireturn, 1) := by decide +kernel
set_option maxRecDepth 20000 in
theorem dX9_of_0 : decode cX9_of 0 = .ok (.iload_n 2, 1) := by decide +kernel
theorem dX9_of_1 : decode cX9_of 1 = .ok (.bipush 8, 2) := by decide +kernel
theorem dX9_of_3 : decode cX9_of 3 = .ok (.if_icmp .ne 28, 3) := by decide +kernel
theorem dX9_of_6 : decode cX9_of 6 = .ok (.aload_n 0, 1) := by decide +kernel
theorem dX9_of_7 : decode cX9_of 7 = .ok (.getfield 10, 3) := by decide +kernel
theorem dX9_of_10 : decode cX9_of 10 = .ok (.iload_n 1, 1) := by decide +kernel
theorem dX9_of_11 : decode cX9_of 11 = .ok (.invokevirtual 134, 3) := by decide +kernel
theorem dX9_of_14 : decode cX9_of 14 = .ok (.ifCond .eq 15, 3) := by decide +kernel
theorem dX9_of_17 : decode cX9_of 17 = .ok (.aload_n 0, 1) := by decide +kernel
theorem dX9_of_18 : decode cX9_of 18 = .ok (.getfield 65, 3) := by decide +kernel
theorem dX9_of_21 : decode cX9_of 21 = .ok (.getfield 137, 3) := by decide +kernel
theorem dX9_of_24 : decode cX9_of 24 = .ok (.iload_n 1, 1) := by decide +kernel
theorem dX9_of_25 : decode cX9_of 25 = .ok (.iaload, 1) := by decide +kernel
theorem dX9_of_26 : decode cX9_of 26 = .ok (.goto 4, 3) := by decide +kernel
theorem dX9_of_29 : decode cX9_of 29 = .ok (.iconst (-1), 1) := by decide +kernel
theorem dX9_of_30 : decode cX9_of 30 = .ok (.ireturn, 1) := by decide +kernel
theorem dX9_of_31 : decode cX9_of 31 = .ok (.aload_n 0, 1) := by decide +kernel
theorem dX9_of_32 : decode cX9_of 32 = .ok (.getfield 10, 3) := by decide +kernel
theorem dX9_of_35 : decode cX9_of 35 = .ok (.iload_n 1, 1) := by decide +kernel
theorem dX9_of_36 : decode cX9_of 36 = .ok (.iload_n 2, 1) := by decide +kernel
theorem dX9_of_37 : decode cX9_of 37 = .ok (.invokevirtual 123, 3) := by decide +kernel
theorem dX9_of_40 : decode cX9_of 40 = .ok (.istore_n 3, 1) := by decide +kernel
theorem dX9_of_41 : decode cX9_of 41 = .ok (.iload_n 3, 1) := by decide +kernel
theorem dX9_of_42 : decode cX9_of 42 = .ok (.ifCond .ge 7, 3) := by decide +kernel
theorem dX9_of_45 : decode cX9_of 45 = .ok (.iconst (-1), 1) := by decide +kernel
theorem dX9_of_46 : decode cX9_of 46 = .ok (.goto 12, 3) := by decide +kernel
theorem dX9_of_49 : decode cX9_of 49 = .ok (.aload_n 0, 1) := by decide +kernel
theorem dX9_of_50 : decode cX9_of 50 = .ok (.getfield 10, 3) := by decide +kernel
theorem dX9_of_53 : decode cX9_of 53 = .ok (.getfield 127, 3) := by decide +kernel
theorem dX9_of_56 : decode cX9_of 56 = .ok (.iload_n 3, 1) := by decide +kernel
theorem dX9_of_57 : decode cX9_of 57 = .ok (.iaload, 1) := by decide +kernel
theorem dX9_of_58 : decode cX9_of 58 = .ok (.ireturn, 1) := by decide +kernel
set_option maxRecDepth 20000 in
theorem dX9_feed_0 : decode cX9_feed 0 = .ok (.iload_n 1, 1) := by decide +kernel
theorem dX9_feed_1 : decode cX9_feed 1 = .ok (.ifCond .lt 10, 3) := by decide +kernel
theorem dX9_feed_4 : decode cX9_feed 4 = .ok (.iload_n 1, 1) := by decide +kernel
theorem dX9_feed_5 : decode cX9_feed 5 = .ok (.sipush 255, 3) := by decide +kernel
theorem dX9_feed_8 : decode cX9_feed 8 = .ok (.if_icmp .le 5, 3) := by decide +kernel
theorem dX9_feed_11 : decode cX9_feed 11 = .ok (.iconst (-1), 1) := by decide +kernel
theorem dX9_feed_12 : decode cX9_feed 12 = .ok (.ireturn, 1) := by decide +kernel
theorem dX9_feed_13 : decode cX9_feed 13 = .ok (.aload_n 0, 1) := by decide +kernel
theorem dX9_feed_14 : decode cX9_feed 14 = .ok (.getfield 26, 3) := by decide +kernel
theorem dX9_feed_17 : decode cX9_feed 17 = .ok (.iload_n 1, 1) := by decide +kernel
theorem dX9_feed_18 : decode cX9_feed 18 = .ok (.invokevirtual 140, 3) := by decide +kernel
theorem dX9_feed_21 : decode cX9_feed 21 = .ok (.ifCond .eq 13, 3) := by decide +kernel
theorem dX9_feed_24 : decode cX9_feed 24 = .ok (.aload_n 0, 1) := by decide +kernel
theorem dX9_feed_25 : decode cX9_feed 25 = .ok (.getfield 26, 3) := by decide +kernel
theorem dX9_feed_28 : decode cX9_feed 28 = .ok (.getfield 143, 3) := by decide +kernel
theorem dX9_feed_31 : decode cX9_feed 31 = .ok (.goto 5, 3) := by decide +kernel
theorem dX9_feed_34 : decode cX9_feed 34 = .ok (.bipush (-3), 2) := by decide +kernel
theorem dX9_feed_36 : decode cX9_feed 36 = .ok (.ireturn, 1) := by decide +kernel
set_option maxRecDepth 20000 in
theorem dX9_law_0 : decode cX9_law 0 = .ok (.aload_n 0, 1) := by decide +kernel
theorem dX9_law_1 : decode cX9_law 1 = .ok (.getfield 26, 3) := by decide +kernel
theorem dX9_law_4 : decode cX9_law 4 = .ok (.invokevirtual 146, 3) := by decide +kernel
theorem dX9_law_7 : decode cX9_law 7 = .ok (.istore_n 1, 1) := by decide +kernel
theorem dX9_law_8 : decode cX9_law 8 = .ok (.iload_n 1, 1) := by decide +kernel
theorem dX9_law_9 : decode cX9_law 9 = .ok (.ifCond .ge 7, 3) := by decide +kernel
theorem dX9_law_12 : decode cX9_law 12 = .ok (.iconst 1, 1) := by decide +kernel
theorem dX9_law_13 : decode cX9_law 13 = .ok (.goto 7, 3) := by decide +kernel
theorem dX9_law_16 : decode cX9_law 16 = .ok (.bipush (-100), 2) := by decide +kernel
theorem dX9_law_18 : decode cX9_law 18 = .ok (.iload_n 1, 1) := by decide +kernel
theorem dX9_law_19 : decode cX9_law 19 = .ok (.isub, 1) := by decide +kernel
theorem dX9_law_20 : decode cX9_law 20 = .ok (.ireturn, 1) := by decide +kernel
set_option maxRecDepth 20000 in
theorem dX9_round_0 : decode cX9_round 0 = .ok (.iload_n 1, 1) := by decide +kernel
theorem dX9_round_1 : decode cX9_round 1 = .ok (.invokestatic 102, 3) := by decide +kernel
theorem dX9_round_4 : decode cX9_round 4 = .ok (.ifCond .eq 10, 3) := by decide +kernel
theorem dX9_round_7 : decode cX9_round 7 = .ok (.iload_n 2, 1) := by decide +kernel
theorem dX9_round_8 : decode cX9_round 8 = .ok (.invokestatic 150, 3) := by decide +kernel
theorem dX9_round_11 : decode cX9_round 11 = .ok (.ifCond .ne 5, 3) := by decide +kernel
theorem dX9_round_14 : decode cX9_round 14 = .ok (.iconst (-1), 1) := by decide +kernel
theorem dX9_round_15 : decode cX9_round 15 = .ok (.ireturn, 1) := by decide +kernel
theorem dX9_round_16 : decode cX9_round 16 = .ok (.aload_n 0, 1) := by decide +kernel
theorem dX9_round_17 : decode cX9_round 17 = .ok (.iload_n 1, 1) := by decide +kernel
theorem dX9_round_18 : decode cX9_round 18 = .ok (.invokevirtual 153, 3) := by decide +kernel
theorem dX9_round_21 : decode cX9_round 21 = .ok (.istore_n 3, 1) := by decide +kernel
theorem dX9_round_22 : decode cX9_round 22 = .ok (.iload_n 3, 1) := by decide +kernel
theorem dX9_round_23 : decode cX9_round 23 = .ok (.ifCond .ge 5, 3) := by decide +kernel
theorem dX9_round_26 : decode cX9_round 26 = .ok (.iload_n 3, 1) := by decide +kernel
theorem dX9_round_27 : decode cX9_round 27 = .ok (.ireturn, 1) := by decide +kernel
theorem dX9_round_28 : decode cX9_round 28 = .ok (.iload_n 2, 1) := by decide +kernel
theorem dX9_round_29 : decode cX9_round 29 = .ok (.ifCond .ne 13, 3) := by decide +kernel
theorem dX9_round_32 : decode cX9_round 32 = .ok (.aload_n 0, 1) := by decide +kernel
theorem dX9_round_33 : decode cX9_round 33 = .ok (.getfield 41, 3) := by decide +kernel
theorem dX9_round_36 : decode cX9_round 36 = .ok (.getfield 156, 3) := by decide +kernel
theorem dX9_round_39 : decode cX9_round 39 = .ok (.goto 10, 3) := by decide +kernel
theorem dX9_round_42 : decode cX9_round 42 = .ok (.aload_n 0, 1) := by decide +kernel
theorem dX9_round_43 : decode cX9_round 43 = .ok (.getfield 41, 3) := by decide +kernel
theorem dX9_round_46 : decode cX9_round 46 = .ok (.getfield 157, 3) := by decide +kernel
theorem dX9_round_49 : decode cX9_round 49 = .ok (.ireturn, 1) := by decide +kernel
set_option maxRecDepth 20000 in
theorem dX9_first_0 : decode cX9_first 0 = .ok (.iload_n 1, 1) := by decide +kernel
theorem dX9_first_1 : decode cX9_first 1 = .ok (.invokestatic 102, 3) := by decide +kernel
theorem dX9_first_4 : decode cX9_first 4 = .ok (.ifCond .eq 14, 3) := by decide +kernel
theorem dX9_first_7 : decode cX9_first 7 = .ok (.aload_n 0, 1) := by decide +kernel
theorem dX9_first_8 : decode cX9_first 8 = .ok (.getfield 10, 3) := by decide +kernel
theorem dX9_first_11 : decode cX9_first 11 = .ok (.iload_n 2, 1) := by decide +kernel
theorem dX9_first_12 : decode cX9_first 12 = .ok (.invokevirtual 134, 3) := by decide +kernel
theorem dX9_first_15 : decode cX9_first 15 = .ok (.ifCond .ne 5, 3) := by decide +kernel
theorem dX9_first_18 : decode cX9_first 18 = .ok (.iconst (-1), 1) := by decide +kernel
theorem dX9_first_19 : decode cX9_first 19 = .ok (.ireturn, 1) := by decide +kernel
theorem dX9_first_20 : decode cX9_first 20 = .ok (.aload_n 0, 1) := by decide +kernel
theorem dX9_first_21 : decode cX9_first 21 = .ok (.iload_n 1, 1) := by decide +kernel
theorem dX9_first_22 : decode cX9_first 22 = .ok (.invokevirtual 153, 3) := by decide +kernel
theorem dX9_first_25 : decode cX9_first 25 = .ok (.istore_n 3, 1) := by decide +kernel
theorem dX9_first_26 : decode cX9_first 26 = .ok (.iload_n 3, 1) := by decide +kernel
theorem dX9_first_27 : decode cX9_first 27 = .ok (.ifCond .ge 5, 3) := by decide +kernel
theorem dX9_first_30 : decode cX9_first 30 = .ok (.iload_n 3, 1) := by decide +kernel
theorem dX9_first_31 : decode cX9_first 31 = .ok (.ireturn, 1) := by decide +kernel
theorem dX9_first_32 : decode cX9_first 32 = .ok (.aload_n 0, 1) := by decide +kernel
theorem dX9_first_33 : decode cX9_first 33 = .ok (.getfield 41, 3) := by decide +kernel
theorem dX9_first_36 : decode cX9_first 36 = .ok (.iload_n 2, 1) := by decide +kernel
theorem dX9_first_37 : decode cX9_first 37 = .ok (.invokevirtual 160, 3) := by decide +kernel
theorem dX9_first_40 : decode cX9_first 40 = .ok (.istore 4, 2) := by decide +kernel
theorem dX9_first_42 : decode cX9_first 42 = .ok (.iload 4, 2) := by decide +kernel
theorem dX9_first_44 : decode cX9_first 44 = .ok (.sipush 999, 3) := by decide +kernel
theorem dX9_first_47 : decode cX9_first 47 = .ok (.if_icmp .le 8, 3) := by decide +kernel
theorem dX9_first_50 : decode cX9_first 50 = .ok (.bipush (-2), 2) := by decide +kernel
theorem dX9_first_52 : decode cX9_first 52 = .ok (.goto 5, 3) := by decide +kernel
theorem dX9_first_55 : decode cX9_first 55 = .ok (.iload 4, 2) := by decide +kernel
theorem dX9_first_57 : decode cX9_first 57 = .ok (.ireturn, 1) := by decide +kernel
set_option maxRecDepth 20000 in
theorem dX9_by_0 : decode cX9_by 0 = .ok (.iload_n 1, 1) := by decide +kernel
theorem dX9_by_1 : decode cX9_by 1 = .ok (.invokestatic 102, 3) := by decide +kernel
theorem dX9_by_4 : decode cX9_by 4 = .ok (.ifCond .eq 17, 3) := by decide +kernel
theorem dX9_by_7 : decode cX9_by 7 = .ok (.iload_n 2, 1) := by decide +kernel
theorem dX9_by_8 : decode cX9_by 8 = .ok (.invokestatic 163, 3) := by decide +kernel
theorem dX9_by_11 : decode cX9_by 11 = .ok (.ifCond .eq 10, 3) := by decide +kernel
theorem dX9_by_14 : decode cX9_by 14 = .ok (.iload_n 3, 1) := by decide +kernel
theorem dX9_by_15 : decode cX9_by 15 = .ok (.invokestatic 150, 3) := by decide +kernel
theorem dX9_by_18 : decode cX9_by 18 = .ok (.ifCond .ne 5, 3) := by decide +kernel
theorem dX9_by_21 : decode cX9_by 21 = .ok (.iconst (-1), 1) := by decide +kernel
theorem dX9_by_22 : decode cX9_by 22 = .ok (.ireturn, 1) := by decide +kernel
theorem dX9_by_23 : decode cX9_by 23 = .ok (.aload_n 0, 1) := by decide +kernel
theorem dX9_by_24 : decode cX9_by 24 = .ok (.iload_n 1, 1) := by decide +kernel
theorem dX9_by_25 : decode cX9_by 25 = .ok (.invokevirtual 153, 3) := by decide +kernel
theorem dX9_by_28 : decode cX9_by 28 = .ok (.istore 4, 2) := by decide +kernel
theorem dX9_by_30 : decode cX9_by 30 = .ok (.iload 4, 2) := by decide +kernel
theorem dX9_by_32 : decode cX9_by 32 = .ok (.ifCond .ge 6, 3) := by decide +kernel
theorem dX9_by_35 : decode cX9_by 35 = .ok (.iload 4, 2) := by decide +kernel
theorem dX9_by_37 : decode cX9_by 37 = .ok (.ireturn, 1) := by decide +kernel
theorem dX9_by_38 : decode cX9_by 38 = .ok (.aload_n 0, 1) := by decide +kernel
theorem dX9_by_39 : decode cX9_by 39 = .ok (.getfield 41, 3) := by decide +kernel
theorem dX9_by_42 : decode cX9_by 42 = .ok (.iload_n 2, 1) := by decide +kernel
theorem dX9_by_43 : decode cX9_by 43 = .ok (.invokevirtual 166, 3) := by decide +kernel
theorem dX9_by_46 : decode cX9_by 46 = .ok (.istore 5, 2) := by decide +kernel
theorem dX9_by_48 : decode cX9_by 48 = .ok (.iload_n 3, 1) := by decide +kernel
theorem dX9_by_49 : decode cX9_by 49 = .ok (.iconst 1, 1) := by decide +kernel
theorem dX9_by_50 : decode cX9_by 50 = .ok (.if_icmp .ne 6, 3) := by decide +kernel
theorem dX9_by_53 : decode cX9_by 53 = .ok (.iload 5, 2) := by decide +kernel
theorem dX9_by_55 : decode cX9_by 55 = .ok (.ireturn, 1) := by decide +kernel
theorem dX9_by_56 : decode cX9_by 56 = .ok (.iload 5, 2) := by decide +kernel
theorem dX9_by_58 : decode cX9_by 58 = .ok (.ifCond .ne 8, 3) := by decide +kernel
theorem dX9_by_61 : decode cX9_by 61 = .ok (.bipush (-2), 2) := by decide +kernel
theorem dX9_by_63 : decode cX9_by 63 = .ok (.goto 14, 3) := by decide +kernel
theorem dX9_by_66 : decode cX9_by 66 = .ok (.aload_n 0, 1) := by decide +kernel
theorem dX9_by_67 : decode cX9_by 67 = .ok (.getfield 41, 3) := by decide +kernel
theorem dX9_by_70 : decode cX9_by 70 = .ok (.iload 5, 2) := by decide +kernel
theorem dX9_by_72 : decode cX9_by 72 = .ok (.iconst 1, 1) := by decide +kernel
theorem dX9_by_73 : decode cX9_by 73 = .ok (.isub, 1) := by decide +kernel
theorem dX9_by_74 : decode cX9_by 74 = .ok (.invokevirtual 169, 3) := by decide +kernel
theorem dX9_by_77 : decode cX9_by 77 = .ok (.ireturn, 1) := by decide +kernel
set_option maxRecDepth 20000 in
theorem dX9_unseen_0 : decode cX9_unseen 0 = .ok (.iload_n 1, 1) := by decide +kernel
theorem dX9_unseen_1 : decode cX9_unseen 1 = .ok (.invokestatic 102, 3) := by decide +kernel
theorem dX9_unseen_4 : decode cX9_unseen 4 = .ok (.ifCond .eq 29, 3) := by decide +kernel
theorem dX9_unseen_7 : decode cX9_unseen 7 = .ok (.aload_n 0, 1) := by decide +kernel
theorem dX9_unseen_8 : decode cX9_unseen 8 = .ok (.getfield 10, 3) := by decide +kernel
theorem dX9_unseen_11 : decode cX9_unseen 11 = .ok (.iload_n 2, 1) := by decide +kernel
theorem dX9_unseen_12 : decode cX9_unseen 12 = .ok (.invokevirtual 134, 3) := by decide +kernel
theorem dX9_unseen_15 : decode cX9_unseen 15 = .ok (.ifCond .eq 18, 3) := by decide +kernel
theorem dX9_unseen_18 : decode cX9_unseen 18 = .ok (.iload_n 3, 1) := by decide +kernel
theorem dX9_unseen_19 : decode cX9_unseen 19 = .ok (.invokestatic 163, 3) := by decide +kernel
theorem dX9_unseen_22 : decode cX9_unseen 22 = .ok (.ifCond .eq 11, 3) := by decide +kernel
theorem dX9_unseen_25 : decode cX9_unseen 25 = .ok (.iload 4, 2) := by decide +kernel
theorem dX9_unseen_27 : decode cX9_unseen 27 = .ok (.invokestatic 150, 3) := by decide +kernel
theorem dX9_unseen_30 : decode cX9_unseen 30 = .ok (.ifCond .ne 5, 3) := by decide +kernel
theorem dX9_unseen_33 : decode cX9_unseen 33 = .ok (.iconst (-1), 1) := by decide +kernel
theorem dX9_unseen_34 : decode cX9_unseen 34 = .ok (.ireturn, 1) := by decide +kernel
theorem dX9_unseen_35 : decode cX9_unseen 35 = .ok (.aload_n 0, 1) := by decide +kernel
theorem dX9_unseen_36 : decode cX9_unseen 36 = .ok (.iload_n 1, 1) := by decide +kernel
theorem dX9_unseen_37 : decode cX9_unseen 37 = .ok (.invokevirtual 153, 3) := by decide +kernel
theorem dX9_unseen_40 : decode cX9_unseen 40 = .ok (.istore 5, 2) := by decide +kernel
theorem dX9_unseen_42 : decode cX9_unseen 42 = .ok (.iload 5, 2) := by decide +kernel
theorem dX9_unseen_44 : decode cX9_unseen 44 = .ok (.ifCond .ge 6, 3) := by decide +kernel
theorem dX9_unseen_47 : decode cX9_unseen 47 = .ok (.iload 5, 2) := by decide +kernel
theorem dX9_unseen_49 : decode cX9_unseen 49 = .ok (.ireturn, 1) := by decide +kernel
theorem dX9_unseen_50 : decode cX9_unseen 50 = .ok (.aload_n 0, 1) := by decide +kernel
theorem dX9_unseen_51 : decode cX9_unseen 51 = .ok (.getfield 51, 3) := by decide +kernel
theorem dX9_unseen_54 : decode cX9_unseen 54 = .ok (.aload_n 0, 1) := by decide +kernel
theorem dX9_unseen_55 : decode cX9_unseen 55 = .ok (.getfield 41, 3) := by decide +kernel
theorem dX9_unseen_58 : decode cX9_unseen 58 = .ok (.iload_n 2, 1) := by decide +kernel
theorem dX9_unseen_59 : decode cX9_unseen 59 = .ok (.iload_n 3, 1) := by decide +kernel
theorem dX9_unseen_60 : decode cX9_unseen 60 = .ok (.invokevirtual 172, 3) := by decide +kernel
theorem dX9_unseen_63 : decode cX9_unseen 63 = .ok (.iload 4, 2) := by decide +kernel
theorem dX9_unseen_65 : decode cX9_unseen 65 = .ok (.ifCond .ne 12, 3) := by decide +kernel
theorem dX9_unseen_68 : decode cX9_unseen 68 = .ok (.aload_n 0, 1) := by decide +kernel
theorem dX9_unseen_69 : decode cX9_unseen 69 = .ok (.getfield 51, 3) := by decide +kernel
theorem dX9_unseen_72 : decode cX9_unseen 72 = .ok (.iload_n 3, 1) := by decide +kernel
theorem dX9_unseen_73 : decode cX9_unseen 73 = .ok (.invokevirtual 176, 3) := by decide +kernel
theorem dX9_unseen_76 : decode cX9_unseen 76 = .ok (.ireturn, 1) := by decide +kernel
theorem dX9_unseen_77 : decode cX9_unseen 77 = .ok (.aload_n 0, 1) := by decide +kernel
theorem dX9_unseen_78 : decode cX9_unseen 78 = .ok (.getfield 51, 3) := by decide +kernel
theorem dX9_unseen_81 : decode cX9_unseen 81 = .ok (.iload_n 3, 1) := by decide +kernel
theorem dX9_unseen_82 : decode cX9_unseen 82 = .ok (.invokevirtual 179, 3) := by decide +kernel
theorem dX9_unseen_85 : decode cX9_unseen 85 = .ok (.ifCond .eq 7, 3) := by decide +kernel
theorem dX9_unseen_88 : decode cX9_unseen 88 = .ok (.iconst 1, 1) := by decide +kernel
theorem dX9_unseen_89 : decode cX9_unseen 89 = .ok (.goto 4, 3) := by decide +kernel
theorem dX9_unseen_92 : decode cX9_unseen 92 = .ok (.iconst 0, 1) := by decide +kernel
theorem dX9_unseen_93 : decode cX9_unseen 93 = .ok (.ireturn, 1) := by decide +kernel
set_option maxRecDepth 20000 in
theorem dX9_lost_0 : decode cX9_lost 0 = .ok (.iload_n 2, 1) := by decide +kernel
theorem dX9_lost_1 : decode cX9_lost 1 = .ok (.iconst (-1), 1) := by decide +kernel
theorem dX9_lost_2 : decode cX9_lost 2 = .ok (.if_icmp .ne 7, 3) := by decide +kernel
theorem dX9_lost_5 : decode cX9_lost 5 = .ok (.iconst 1, 1) := by decide +kernel
theorem dX9_lost_6 : decode cX9_lost 6 = .ok (.goto 4, 3) := by decide +kernel
theorem dX9_lost_9 : decode cX9_lost 9 = .ok (.iconst 0, 1) := by decide +kernel
theorem dX9_lost_10 : decode cX9_lost 10 = .ok (.istore 5, 2) := by decide +kernel
theorem dX9_lost_12 : decode cX9_lost 12 = .ok (.iload_n 1, 1) := by decide +kernel
theorem dX9_lost_13 : decode cX9_lost 13 = .ok (.invokestatic 102, 3) := by decide +kernel
theorem dX9_lost_16 : decode cX9_lost 16 = .ok (.ifCond .eq 40, 3) := by decide +kernel
theorem dX9_lost_19 : decode cX9_lost 19 = .ok (.iload 5, 2) := by decide +kernel
theorem dX9_lost_21 : decode cX9_lost 21 = .ok (.ifCond .ne 14, 3) := by decide +kernel
theorem dX9_lost_24 : decode cX9_lost 24 = .ok (.aload_n 0, 1) := by decide +kernel
theorem dX9_lost_25 : decode cX9_lost 25 = .ok (.getfield 10, 3) := by decide +kernel
theorem dX9_lost_28 : decode cX9_lost 28 = .ok (.iload_n 2, 1) := by decide +kernel
theorem dX9_lost_29 : decode cX9_lost 29 = .ok (.invokevirtual 134, 3) := by decide +kernel
theorem dX9_lost_32 : decode cX9_lost 32 = .ok (.ifCond .eq 24, 3) := by decide +kernel
theorem dX9_lost_35 : decode cX9_lost 35 = .ok (.iload_n 3, 1) := by decide +kernel
theorem dX9_lost_36 : decode cX9_lost 36 = .ok (.invokestatic 163, 3) := by decide +kernel
theorem dX9_lost_39 : decode cX9_lost 39 = .ok (.ifCond .eq 17, 3) := by decide +kernel
theorem dX9_lost_42 : decode cX9_lost 42 = .ok (.iload 4, 2) := by decide +kernel
theorem dX9_lost_44 : decode cX9_lost 44 = .ok (.invokestatic 163, 3) := by decide +kernel
theorem dX9_lost_47 : decode cX9_lost 47 = .ok (.ifCond .eq 9, 3) := by decide +kernel
theorem dX9_lost_50 : decode cX9_lost 50 = .ok (.iload 4, 2) := by decide +kernel
theorem dX9_lost_52 : decode cX9_lost 52 = .ok (.iload_n 3, 1) := by decide +kernel
theorem dX9_lost_53 : decode cX9_lost 53 = .ok (.if_icmp .ge 5, 3) := by decide +kernel
theorem dX9_lost_56 : decode cX9_lost 56 = .ok (.iconst (-1), 1) := by decide +kernel
theorem dX9_lost_57 : decode cX9_lost 57 = .ok (.ireturn, 1) := by decide +kernel
theorem dX9_lost_58 : decode cX9_lost 58 = .ok (.aload_n 0, 1) := by decide +kernel
theorem dX9_lost_59 : decode cX9_lost 59 = .ok (.iload_n 1, 1) := by decide +kernel
theorem dX9_lost_60 : decode cX9_lost 60 = .ok (.invokevirtual 153, 3) := by decide +kernel
theorem dX9_lost_63 : decode cX9_lost 63 = .ok (.istore 6, 2) := by decide +kernel
theorem dX9_lost_65 : decode cX9_lost 65 = .ok (.iload 6, 2) := by decide +kernel
theorem dX9_lost_67 : decode cX9_lost 67 = .ok (.ifCond .ge 6, 3) := by decide +kernel
theorem dX9_lost_70 : decode cX9_lost 70 = .ok (.iload 6, 2) := by decide +kernel
theorem dX9_lost_72 : decode cX9_lost 72 = .ok (.ireturn, 1) := by decide +kernel
theorem dX9_lost_73 : decode cX9_lost 73 = .ok (.iload 5, 2) := by decide +kernel
theorem dX9_lost_75 : decode cX9_lost 75 = .ok (.ifCond .ne 12, 3) := by decide +kernel
theorem dX9_lost_78 : decode cX9_lost 78 = .ok (.aload_n 0, 1) := by decide +kernel
theorem dX9_lost_79 : decode cX9_lost 79 = .ok (.iload_n 2, 1) := by decide +kernel
theorem dX9_lost_80 : decode cX9_lost 80 = .ok (.iload_n 3, 1) := by decide +kernel
theorem dX9_lost_81 : decode cX9_lost 81 = .ok (.iload 4, 2) := by decide +kernel
theorem dX9_lost_83 : decode cX9_lost 83 = .ok (.invokevirtual 182, 3) := by decide +kernel
theorem dX9_lost_86 : decode cX9_lost 86 = .ok (.ireturn, 1) := by decide +kernel
theorem dX9_lost_87 : decode cX9_lost 87 = .ok (.iconst 0, 1) := by decide +kernel
theorem dX9_lost_88 : decode cX9_lost 88 = .ok (.istore 7, 2) := by decide +kernel
theorem dX9_lost_90 : decode cX9_lost 90 = .ok (.iconst 0, 1) := by decide +kernel
theorem dX9_lost_91 : decode cX9_lost 91 = .ok (.istore 8, 2) := by decide +kernel
theorem dX9_lost_93 : decode cX9_lost 93 = .ok (.iload 8, 2) := by decide +kernel
theorem dX9_lost_95 : decode cX9_lost 95 = .ok (.aload_n 0, 1) := by decide +kernel
theorem dX9_lost_96 : decode cX9_lost 96 = .ok (.getfield 10, 3) := by decide +kernel
theorem dX9_lost_99 : decode cX9_lost 99 = .ok (.getfield 94, 3) := by decide +kernel
theorem dX9_lost_102 : decode cX9_lost 102 = .ok (.if_icmp .ge 23, 3) := by decide +kernel
theorem dX9_lost_105 : decode cX9_lost 105 = .ok (.iload 7, 2) := by decide +kernel
theorem dX9_lost_107 : decode cX9_lost 107 = .ok (.aload_n 0, 1) := by decide +kernel
theorem dX9_lost_108 : decode cX9_lost 108 = .ok (.iload 8, 2) := by decide +kernel
theorem dX9_lost_110 : decode cX9_lost 110 = .ok (.iload_n 3, 1) := by decide +kernel
theorem dX9_lost_111 : decode cX9_lost 111 = .ok (.iload 4, 2) := by decide +kernel
theorem dX9_lost_113 : decode cX9_lost 113 = .ok (.invokevirtual 182, 3) := by decide +kernel
theorem dX9_lost_116 : decode cX9_lost 116 = .ok (.iadd, 1) := by decide +kernel
theorem dX9_lost_117 : decode cX9_lost 117 = .ok (.istore 7, 2) := by decide +kernel
theorem dX9_lost_119 : decode cX9_lost 119 = .ok (.iinc 8 1, 3) := by decide +kernel
theorem dX9_lost_122 : decode cX9_lost 122 = .ok (.goto (-29), 3) := by decide +kernel
theorem dX9_lost_125 : decode cX9_lost 125 = .ok (.iload 7, 2) := by decide +kernel
theorem dX9_lost_127 : decode cX9_lost 127 = .ok (.ireturn, 1) := by decide +kernel
set_option maxRecDepth 20000 in
theorem dX9_lostAt_0 : decode cX9_lostAt 0 = .ok (.aload_n 0, 1) := by decide +kernel
theorem dX9_lostAt_1 : decode cX9_lostAt 1 = .ok (.getfield 51, 3) := by decide +kernel
theorem dX9_lostAt_4 : decode cX9_lostAt 4 = .ok (.aload_n 0, 1) := by decide +kernel
theorem dX9_lostAt_5 : decode cX9_lostAt 5 = .ok (.getfield 41, 3) := by decide +kernel
theorem dX9_lostAt_8 : decode cX9_lostAt 8 = .ok (.iload_n 1, 1) := by decide +kernel
theorem dX9_lostAt_9 : decode cX9_lostAt 9 = .ok (.iload_n 3, 1) := by decide +kernel
theorem dX9_lostAt_10 : decode cX9_lostAt 10 = .ok (.invokevirtual 172, 3) := by decide +kernel
theorem dX9_lostAt_13 : decode cX9_lostAt 13 = .ok (.aload_n 0, 1) := by decide +kernel
theorem dX9_lostAt_14 : decode cX9_lostAt 14 = .ok (.getfield 26, 3) := by decide +kernel
theorem dX9_lostAt_17 : decode cX9_lostAt 17 = .ok (.aload_n 0, 1) := by decide +kernel
theorem dX9_lostAt_18 : decode cX9_lostAt 18 = .ok (.getfield 10, 3) := by decide +kernel
theorem dX9_lostAt_21 : decode cX9_lostAt 21 = .ok (.iload_n 1, 1) := by decide +kernel
theorem dX9_lostAt_22 : decode cX9_lostAt 22 = .ok (.iconst 2, 1) := by decide +kernel
theorem dX9_lostAt_23 : decode cX9_lostAt 23 = .ok (.invokevirtual 185, 3) := by decide +kernel
theorem dX9_lostAt_26 : decode cX9_lostAt 26 = .ok (.aload_n 0, 1) := by decide +kernel
theorem dX9_lostAt_27 : decode cX9_lostAt 27 = .ok (.getfield 10, 3) := by decide +kernel
theorem dX9_lostAt_30 : decode cX9_lostAt 30 = .ok (.iload_n 1, 1) := by decide +kernel
theorem dX9_lostAt_31 : decode cX9_lostAt 31 = .ok (.iconst 3, 1) := by decide +kernel
theorem dX9_lostAt_32 : decode cX9_lostAt 32 = .ok (.invokevirtual 185, 3) := by decide +kernel
theorem dX9_lostAt_35 : decode cX9_lostAt 35 = .ok (.iload_n 1, 1) := by decide +kernel
theorem dX9_lostAt_36 : decode cX9_lostAt 36 = .ok (.aload_n 0, 1) := by decide +kernel
theorem dX9_lostAt_37 : decode cX9_lostAt 37 = .ok (.getfield 41, 3) := by decide +kernel
theorem dX9_lostAt_40 : decode cX9_lostAt 40 = .ok (.getfield 156, 3) := by decide +kernel
theorem dX9_lostAt_43 : decode cX9_lostAt 43 = .ok (.invokevirtual 188, 3) := by decide +kernel
theorem dX9_lostAt_46 : decode cX9_lostAt 46 = .ok (.iconst 0, 1) := by decide +kernel
theorem dX9_lostAt_47 : decode cX9_lostAt 47 = .ok (.istore 4, 2) := by decide +kernel
theorem dX9_lostAt_49 : decode cX9_lostAt 49 = .ok (.iconst 0, 1) := by decide +kernel
theorem dX9_lostAt_50 : decode cX9_lostAt 50 = .ok (.istore 5, 2) := by decide +kernel
theorem dX9_lostAt_52 : decode cX9_lostAt 52 = .ok (.iload_n 2, 1) := by decide +kernel
theorem dX9_lostAt_53 : decode cX9_lostAt 53 = .ok (.istore 6, 2) := by decide +kernel
theorem dX9_lostAt_55 : decode cX9_lostAt 55 = .ok (.iload 6, 2) := by decide +kernel
theorem dX9_lostAt_57 : decode cX9_lostAt 57 = .ok (.iload_n 3, 1) := by decide +kernel
theorem dX9_lostAt_58 : decode cX9_lostAt 58 = .ok (.if_icmp .gt 61, 3) := by decide +kernel
theorem dX9_lostAt_61 : decode cX9_lostAt 61 = .ok (.aload_n 0, 1) := by decide +kernel
theorem dX9_lostAt_62 : decode cX9_lostAt 62 = .ok (.getfield 51, 3) := by decide +kernel
theorem dX9_lostAt_65 : decode cX9_lostAt 65 = .ok (.iload 6, 2) := by decide +kernel
theorem dX9_lostAt_67 : decode cX9_lostAt 67 = .ok (.iload 5, 2) := by decide +kernel
theorem dX9_lostAt_69 : decode cX9_lostAt 69 = .ok (.invokevirtual 192, 3) := by decide +kernel
theorem dX9_lostAt_72 : decode cX9_lostAt 72 = .ok (.istore 5, 2) := by decide +kernel
theorem dX9_lostAt_74 : decode cX9_lostAt 74 = .ok (.aload_n 0, 1) := by decide +kernel
theorem dX9_lostAt_75 : decode cX9_lostAt 75 = .ok (.getfield 51, 3) := by decide +kernel
theorem dX9_lostAt_78 : decode cX9_lostAt 78 = .ok (.iload 5, 2) := by decide +kernel
theorem dX9_lostAt_80 : decode cX9_lostAt 80 = .ok (.iload 6, 2) := by decide +kernel
theorem dX9_lostAt_82 : decode cX9_lostAt 82 = .ok (.invokevirtual 195, 3) := by decide +kernel
theorem dX9_lostAt_85 : decode cX9_lostAt 85 = .ok (.ifCond .ne 28, 3) := by decide +kernel
theorem dX9_lostAt_88 : decode cX9_lostAt 88 = .ok (.iload 4, 2) := by decide +kernel
theorem dX9_lostAt_90 : decode cX9_lostAt 90 = .ok (.aload_n 0, 1) := by decide +kernel
theorem dX9_lostAt_91 : decode cX9_lostAt 91 = .ok (.getfield 26, 3) := by decide +kernel
theorem dX9_lostAt_94 : decode cX9_lostAt 94 = .ok (.aload_n 0, 1) := by decide +kernel
theorem dX9_lostAt_95 : decode cX9_lostAt 95 = .ok (.getfield 51, 3) := by decide +kernel
theorem dX9_lostAt_98 : decode cX9_lostAt 98 = .ok (.iload 5, 2) := by decide +kernel
theorem dX9_lostAt_100 : decode cX9_lostAt 100 = .ok (.iload 6, 2) := by decide +kernel
theorem dX9_lostAt_102 : decode cX9_lostAt 102 = .ok (.invokevirtual 198, 3) := by decide +kernel
theorem dX9_lostAt_105 : decode cX9_lostAt 105 = .ok (.iload 6, 2) := by decide +kernel
theorem dX9_lostAt_107 : decode cX9_lostAt 107 = .ok (.invokevirtual 201, 3) := by decide +kernel
theorem dX9_lostAt_110 : decode cX9_lostAt 110 = .ok (.iadd, 1) := by decide +kernel
theorem dX9_lostAt_111 : decode cX9_lostAt 111 = .ok (.istore 4, 2) := by decide +kernel
theorem dX9_lostAt_113 : decode cX9_lostAt 113 = .ok (.iinc 6 1, 3) := by decide +kernel
theorem dX9_lostAt_116 : decode cX9_lostAt 116 = .ok (.goto (-61), 3) := by decide +kernel
theorem dX9_lostAt_119 : decode cX9_lostAt 119 = .ok (.iload 4, 2) := by decide +kernel
theorem dX9_lostAt_121 : decode cX9_lostAt 121 = .ok (.ireturn, 1) := by decide +kernel
set_option maxRecDepth 20000 in
theorem dX9_red_0 : decode cX9_red 0 = .ok (.iload_n 1, 1) := by decide +kernel
theorem dX9_red_1 : decode cX9_red 1 = .ok (.invokestatic 102, 3) := by decide +kernel
theorem dX9_red_4 : decode cX9_red 4 = .ok (.ifCond .eq 13, 3) := by decide +kernel
theorem dX9_red_7 : decode cX9_red 7 = .ok (.iload_n 2, 1) := by decide +kernel
theorem dX9_red_8 : decode cX9_red 8 = .ok (.ifCond .lt 9, 3) := by decide +kernel
theorem dX9_red_11 : decode cX9_red 11 = .ok (.iload_n 2, 1) := by decide +kernel
theorem dX9_red_12 : decode cX9_red 12 = .ok (.bipush 15, 2) := by decide +kernel
theorem dX9_red_14 : decode cX9_red 14 = .ok (.if_icmp .le 5, 3) := by decide +kernel
theorem dX9_red_17 : decode cX9_red 17 = .ok (.iconst (-1), 1) := by decide +kernel
theorem dX9_red_18 : decode cX9_red 18 = .ok (.ireturn, 1) := by decide +kernel
theorem dX9_red_19 : decode cX9_red 19 = .ok (.aload_n 0, 1) := by decide +kernel
theorem dX9_red_20 : decode cX9_red 20 = .ok (.iload_n 1, 1) := by decide +kernel
theorem dX9_red_21 : decode cX9_red 21 = .ok (.invokevirtual 153, 3) := by decide +kernel
theorem dX9_red_24 : decode cX9_red 24 = .ok (.istore_n 3, 1) := by decide +kernel
theorem dX9_red_25 : decode cX9_red 25 = .ok (.iload_n 3, 1) := by decide +kernel
theorem dX9_red_26 : decode cX9_red 26 = .ok (.ifCond .ge 5, 3) := by decide +kernel
theorem dX9_red_29 : decode cX9_red 29 = .ok (.iload_n 3, 1) := by decide +kernel
theorem dX9_red_30 : decode cX9_red 30 = .ok (.ireturn, 1) := by decide +kernel
theorem dX9_red_31 : decode cX9_red 31 = .ok (.aload_n 0, 1) := by decide +kernel
theorem dX9_red_32 : decode cX9_red 32 = .ok (.getfield 10, 3) := by decide +kernel
theorem dX9_red_35 : decode cX9_red 35 = .ok (.invokevirtual 204, 3) := by decide +kernel
theorem dX9_red_38 : decode cX9_red 38 = .ok (.aload_n 0, 1) := by decide +kernel
theorem dX9_red_39 : decode cX9_red 39 = .ok (.getfield 41, 3) := by decide +kernel
theorem dX9_red_42 : decode cX9_red 42 = .ok (.bipush 60, 2) := by decide +kernel
theorem dX9_red_44 : decode cX9_red 44 = .ok (.iload_n 2, 1) := by decide +kernel
theorem dX9_red_45 : decode cX9_red 45 = .ok (.imul, 1) := by decide +kernel
theorem dX9_red_46 : decode cX9_red 46 = .ok (.bipush 60, 2) := by decide +kernel
theorem dX9_red_48 : decode cX9_red 48 = .ok (.iload_n 2, 1) := by decide +kernel
theorem dX9_red_49 : decode cX9_red 49 = .ok (.imul, 1) := by decide +kernel
theorem dX9_red_50 : decode cX9_red 50 = .ok (.bipush 59, 2) := by decide +kernel
theorem dX9_red_52 : decode cX9_red 52 = .ok (.iadd, 1) := by decide +kernel
theorem dX9_red_53 : decode cX9_red 53 = .ok (.invokevirtual 207, 3) := by decide +kernel
theorem dX9_red_56 : decode cX9_red 56 = .ok (.iconst (-1), 1) := by decide +kernel
theorem dX9_red_57 : decode cX9_red 57 = .ok (.ixor, 1) := by decide +kernel
theorem dX9_red_58 : decode cX9_red 58 = .ok (.iand, 1) := by decide +kernel
theorem dX9_red_59 : decode cX9_red 59 = .ok (.ireturn, 1) := by decide +kernel
set_option maxRecDepth 20000 in
theorem dX9_gap_0 : decode cX9_gap 0 = .ok (.iload_n 1, 1) := by decide +kernel
theorem dX9_gap_1 : decode cX9_gap 1 = .ok (.invokestatic 102, 3) := by decide +kernel
theorem dX9_gap_4 : decode cX9_gap 4 = .ok (.ifCond .eq 14, 3) := by decide +kernel
theorem dX9_gap_7 : decode cX9_gap 7 = .ok (.aload_n 0, 1) := by decide +kernel
theorem dX9_gap_8 : decode cX9_gap 8 = .ok (.getfield 10, 3) := by decide +kernel
theorem dX9_gap_11 : decode cX9_gap 11 = .ok (.iload_n 2, 1) := by decide +kernel
theorem dX9_gap_12 : decode cX9_gap 12 = .ok (.invokevirtual 134, 3) := by decide +kernel
theorem dX9_gap_15 : decode cX9_gap 15 = .ok (.ifCond .ne 5, 3) := by decide +kernel
theorem dX9_gap_18 : decode cX9_gap 18 = .ok (.iconst (-1), 1) := by decide +kernel
theorem dX9_gap_19 : decode cX9_gap 19 = .ok (.ireturn, 1) := by decide +kernel
theorem dX9_gap_20 : decode cX9_gap 20 = .ok (.aload_n 0, 1) := by decide +kernel
theorem dX9_gap_21 : decode cX9_gap 21 = .ok (.iload_n 1, 1) := by decide +kernel
theorem dX9_gap_22 : decode cX9_gap 22 = .ok (.invokevirtual 153, 3) := by decide +kernel
theorem dX9_gap_25 : decode cX9_gap 25 = .ok (.istore_n 3, 1) := by decide +kernel
theorem dX9_gap_26 : decode cX9_gap 26 = .ok (.iload_n 3, 1) := by decide +kernel
theorem dX9_gap_27 : decode cX9_gap 27 = .ok (.ifCond .ge 7, 3) := by decide +kernel
theorem dX9_gap_30 : decode cX9_gap 30 = .ok (.iload_n 3, 1) := by decide +kernel
theorem dX9_gap_31 : decode cX9_gap 31 = .ok (.goto 11, 3) := by decide +kernel
theorem dX9_gap_34 : decode cX9_gap 34 = .ok (.aload_n 0, 1) := by decide +kernel
theorem dX9_gap_35 : decode cX9_gap 35 = .ok (.getfield 41, 3) := by decide +kernel
theorem dX9_gap_38 : decode cX9_gap 38 = .ok (.iload_n 2, 1) := by decide +kernel
theorem dX9_gap_39 : decode cX9_gap 39 = .ok (.invokevirtual 210, 3) := by decide +kernel
theorem dX9_gap_42 : decode cX9_gap 42 = .ok (.ireturn, 1) := by decide +kernel
set_option maxRecDepth 20000 in
theorem dX9_late_0 : decode cX9_late 0 = .ok (.iload_n 1, 1) := by decide +kernel
theorem dX9_late_1 : decode cX9_late 1 = .ok (.invokestatic 102, 3) := by decide +kernel
theorem dX9_late_4 : decode cX9_late 4 = .ok (.ifCond .ne 5, 3) := by decide +kernel
theorem dX9_late_7 : decode cX9_late 7 = .ok (.iconst (-1), 1) := by decide +kernel
theorem dX9_late_8 : decode cX9_late 8 = .ok (.ireturn, 1) := by decide +kernel
theorem dX9_late_9 : decode cX9_late 9 = .ok (.aload_n 0, 1) := by decide +kernel
theorem dX9_late_10 : decode cX9_late 10 = .ok (.iload_n 1, 1) := by decide +kernel
theorem dX9_late_11 : decode cX9_late 11 = .ok (.invokevirtual 153, 3) := by decide +kernel
theorem dX9_late_14 : decode cX9_late 14 = .ok (.istore_n 2, 1) := by decide +kernel
theorem dX9_late_15 : decode cX9_late 15 = .ok (.iload_n 2, 1) := by decide +kernel
theorem dX9_late_16 : decode cX9_late 16 = .ok (.ifCond .ge 5, 3) := by decide +kernel
theorem dX9_late_19 : decode cX9_late 19 = .ok (.iload_n 2, 1) := by decide +kernel
theorem dX9_late_20 : decode cX9_late 20 = .ok (.ireturn, 1) := by decide +kernel
theorem dX9_late_21 : decode cX9_late 21 = .ok (.iconst 0, 1) := by decide +kernel
theorem dX9_late_22 : decode cX9_late 22 = .ok (.istore_n 3, 1) := by decide +kernel
theorem dX9_late_23 : decode cX9_late 23 = .ok (.iconst 0, 1) := by decide +kernel
theorem dX9_late_24 : decode cX9_late 24 = .ok (.istore 4, 2) := by decide +kernel
theorem dX9_late_26 : decode cX9_late 26 = .ok (.iload 4, 2) := by decide +kernel
theorem dX9_late_28 : decode cX9_late 28 = .ok (.aload_n 0, 1) := by decide +kernel
theorem dX9_late_29 : decode cX9_late 29 = .ok (.getfield 10, 3) := by decide +kernel
theorem dX9_late_32 : decode cX9_late 32 = .ok (.getfield 94, 3) := by decide +kernel
theorem dX9_late_35 : decode cX9_late 35 = .ok (.if_icmp .ge 49, 3) := by decide +kernel
theorem dX9_late_38 : decode cX9_late 38 = .ok (.aload_n 0, 1) := by decide +kernel
theorem dX9_late_39 : decode cX9_late 39 = .ok (.getfield 41, 3) := by decide +kernel
theorem dX9_late_42 : decode cX9_late 42 = .ok (.iload 4, 2) := by decide +kernel
theorem dX9_late_44 : decode cX9_late 44 = .ok (.invokevirtual 210, 3) := by decide +kernel
theorem dX9_late_47 : decode cX9_late 47 = .ok (.istore 5, 2) := by decide +kernel
theorem dX9_late_49 : decode cX9_late 49 = .ok (.iload 5, 2) := by decide +kernel
theorem dX9_late_51 : decode cX9_late 51 = .ok (.bipush (-2), 2) := by decide +kernel
theorem dX9_late_53 : decode cX9_late 53 = .ok (.if_icmp .eq 18, 3) := by decide +kernel
theorem dX9_late_56 : decode cX9_late 56 = .ok (.iload 5, 2) := by decide +kernel
theorem dX9_late_58 : decode cX9_late 58 = .ok (.aload_n 0, 1) := by decide +kernel
theorem dX9_late_59 : decode cX9_late 59 = .ok (.getfield 10, 3) := by decide +kernel
theorem dX9_late_62 : decode cX9_late 62 = .ok (.iload 4, 2) := by decide +kernel
theorem dX9_late_64 : decode cX9_late 64 = .ok (.iconst 3, 1) := by decide +kernel
theorem dX9_late_65 : decode cX9_late 65 = .ok (.invokevirtual 185, 3) := by decide +kernel
theorem dX9_late_68 : decode cX9_late 68 = .ok (.if_icmp .le 10, 3) := by decide +kernel
theorem dX9_late_71 : decode cX9_late 71 = .ok (.iload_n 3, 1) := by decide +kernel
theorem dX9_late_72 : decode cX9_late 72 = .ok (.iconst 1, 1) := by decide +kernel
theorem dX9_late_73 : decode cX9_late 73 = .ok (.iload 4, 2) := by decide +kernel
theorem dX9_late_75 : decode cX9_late 75 = .ok (.ishl, 1) := by decide +kernel
theorem dX9_late_76 : decode cX9_late 76 = .ok (.ior, 1) := by decide +kernel
theorem dX9_late_77 : decode cX9_late 77 = .ok (.istore_n 3, 1) := by decide +kernel
theorem dX9_late_78 : decode cX9_late 78 = .ok (.iinc 4 1, 3) := by decide +kernel
theorem dX9_late_81 : decode cX9_late 81 = .ok (.goto (-55), 3) := by decide +kernel
theorem dX9_late_84 : decode cX9_late 84 = .ok (.iload_n 3, 1) := by decide +kernel
theorem dX9_late_85 : decode cX9_late 85 = .ok (.ireturn, 1) := by decide +kernel
set_option maxRecDepth 20000 in
theorem dX9_shortest_0 : decode cX9_shortest 0 = .ok (.aload_n 0, 1) := by decide +kernel
theorem dX9_shortest_1 : decode cX9_shortest 1 = .ok (.getfield 10, 3) := by decide +kernel
theorem dX9_shortest_4 : decode cX9_shortest 4 = .ok (.iload_n 1, 1) := by decide +kernel
theorem dX9_shortest_5 : decode cX9_shortest 5 = .ok (.invokevirtual 213, 3) := by decide +kernel
theorem dX9_shortest_8 : decode cX9_shortest 8 = .ok (.ifCond .eq 8, 3) := by decide +kernel
theorem dX9_shortest_11 : decode cX9_shortest 11 = .ok (.iload_n 2, 1) := by decide +kernel
theorem dX9_shortest_12 : decode cX9_shortest 12 = .ok (.iconst (-1), 1) := by decide +kernel
theorem dX9_shortest_13 : decode cX9_shortest 13 = .ok (.if_icmp .ge 5, 3) := by decide +kernel
theorem dX9_shortest_16 : decode cX9_shortest 16 = .ok (.iconst (-1), 1) := by decide +kernel
theorem dX9_shortest_17 : decode cX9_shortest 17 = .ok (.ireturn, 1) := by decide +kernel
theorem dX9_shortest_18 : decode cX9_shortest 18 = .ok (.iload_n 1, 1) := by decide +kernel
theorem dX9_shortest_19 : decode cX9_shortest 19 = .ok (.invokestatic 216, 3) := by decide +kernel
theorem dX9_shortest_22 : decode cX9_shortest 22 = .ok (.bipush 7, 2) := by decide +kernel
theorem dX9_shortest_24 : decode cX9_shortest 24 = .ok (.if_icmp .le 6, 3) := by decide +kernel
theorem dX9_shortest_27 : decode cX9_shortest 27 = .ok (.bipush (-5), 2) := by decide +kernel
theorem dX9_shortest_29 : decode cX9_shortest 29 = .ok (.ireturn, 1) := by decide +kernel
theorem dX9_shortest_30 : decode cX9_shortest 30 = .ok (.aload_n 0, 1) := by decide +kernel
theorem dX9_shortest_31 : decode cX9_shortest 31 = .ok (.getfield 58, 3) := by decide +kernel
theorem dX9_shortest_34 : decode cX9_shortest 34 = .ok (.iload_n 1, 1) := by decide +kernel
theorem dX9_shortest_35 : decode cX9_shortest 35 = .ok (.invokevirtual 221, 3) := by decide +kernel
theorem dX9_shortest_38 : decode cX9_shortest 38 = .ok (.istore_n 3, 1) := by decide +kernel
theorem dX9_shortest_39 : decode cX9_shortest 39 = .ok (.iload_n 2, 1) := by decide +kernel
theorem dX9_shortest_40 : decode cX9_shortest 40 = .ok (.iconst (-1), 1) := by decide +kernel
theorem dX9_shortest_41 : decode cX9_shortest 41 = .ok (.if_icmp .ne 5, 3) := by decide +kernel
theorem dX9_shortest_44 : decode cX9_shortest 44 = .ok (.iload_n 3, 1) := by decide +kernel
theorem dX9_shortest_45 : decode cX9_shortest 45 = .ok (.ireturn, 1) := by decide +kernel
theorem dX9_shortest_46 : decode cX9_shortest 46 = .ok (.iload_n 2, 1) := by decide +kernel
theorem dX9_shortest_47 : decode cX9_shortest 47 = .ok (.aload_n 0, 1) := by decide +kernel
theorem dX9_shortest_48 : decode cX9_shortest 48 = .ok (.getfield 58, 3) := by decide +kernel
theorem dX9_shortest_51 : decode cX9_shortest 51 = .ok (.getfield 224, 3) := by decide +kernel
theorem dX9_shortest_54 : decode cX9_shortest 54 = .ok (.if_icmp .ge 14, 3) := by decide +kernel
theorem dX9_shortest_57 : decode cX9_shortest 57 = .ok (.aload_n 0, 1) := by decide +kernel
theorem dX9_shortest_58 : decode cX9_shortest 58 = .ok (.getfield 58, 3) := by decide +kernel
theorem dX9_shortest_61 : decode cX9_shortest 61 = .ok (.iload_n 2, 1) := by decide +kernel
theorem dX9_shortest_62 : decode cX9_shortest 62 = .ok (.invokevirtual 225, 3) := by decide +kernel
theorem dX9_shortest_65 : decode cX9_shortest 65 = .ok (.goto 5, 3) := by decide +kernel
theorem dX9_shortest_68 : decode cX9_shortest 68 = .ok (.bipush (-2), 2) := by decide +kernel
theorem dX9_shortest_70 : decode cX9_shortest 70 = .ok (.ireturn, 1) := by decide +kernel
set_option maxRecDepth 20000 in
theorem dX9_leftOut_0 : decode cX9_leftOut 0 = .ok (.aload_n 0, 1) := by decide +kernel
theorem dX9_leftOut_1 : decode cX9_leftOut 1 = .ok (.getfield 10, 3) := by decide +kernel
theorem dX9_leftOut_4 : decode cX9_leftOut 4 = .ok (.iload_n 1, 1) := by decide +kernel
theorem dX9_leftOut_5 : decode cX9_leftOut 5 = .ok (.invokevirtual 213, 3) := by decide +kernel
theorem dX9_leftOut_8 : decode cX9_leftOut 8 = .ok (.ifCond .eq 10, 3) := by decide +kernel
theorem dX9_leftOut_11 : decode cX9_leftOut 11 = .ok (.iload_n 2, 1) := by decide +kernel
theorem dX9_leftOut_12 : decode cX9_leftOut 12 = .ok (.invokestatic 150, 3) := by decide +kernel
theorem dX9_leftOut_15 : decode cX9_leftOut 15 = .ok (.ifCond .ne 5, 3) := by decide +kernel
theorem dX9_leftOut_18 : decode cX9_leftOut 18 = .ok (.iconst (-1), 1) := by decide +kernel
theorem dX9_leftOut_19 : decode cX9_leftOut 19 = .ok (.ireturn, 1) := by decide +kernel
theorem dX9_leftOut_20 : decode cX9_leftOut 20 = .ok (.iload_n 1, 1) := by decide +kernel
theorem dX9_leftOut_21 : decode cX9_leftOut 21 = .ok (.invokestatic 216, 3) := by decide +kernel
theorem dX9_leftOut_24 : decode cX9_leftOut 24 = .ok (.bipush 7, 2) := by decide +kernel
theorem dX9_leftOut_26 : decode cX9_leftOut 26 = .ok (.if_icmp .le 6, 3) := by decide +kernel
theorem dX9_leftOut_29 : decode cX9_leftOut 29 = .ok (.bipush (-5), 2) := by decide +kernel
theorem dX9_leftOut_31 : decode cX9_leftOut 31 = .ok (.ireturn, 1) := by decide +kernel
theorem dX9_leftOut_32 : decode cX9_leftOut 32 = .ok (.aload_n 0, 1) := by decide +kernel
theorem dX9_leftOut_33 : decode cX9_leftOut 33 = .ok (.getfield 58, 3) := by decide +kernel
theorem dX9_leftOut_36 : decode cX9_leftOut 36 = .ok (.iload_n 1, 1) := by decide +kernel
theorem dX9_leftOut_37 : decode cX9_leftOut 37 = .ok (.invokevirtual 221, 3) := by decide +kernel
theorem dX9_leftOut_40 : decode cX9_leftOut 40 = .ok (.pop, 1) := by decide +kernel
theorem dX9_leftOut_41 : decode cX9_leftOut 41 = .ok (.bipush (-2), 2) := by decide +kernel
theorem dX9_leftOut_43 : decode cX9_leftOut 43 = .ok (.istore_n 3, 1) := by decide +kernel
theorem dX9_leftOut_44 : decode cX9_leftOut 44 = .ok (.bipush (-2), 2) := by decide +kernel
theorem dX9_leftOut_46 : decode cX9_leftOut 46 = .ok (.istore 4, 2) := by decide +kernel
theorem dX9_leftOut_48 : decode cX9_leftOut 48 = .ok (.iconst 0, 1) := by decide +kernel
theorem dX9_leftOut_49 : decode cX9_leftOut 49 = .ok (.istore 5, 2) := by decide +kernel
theorem dX9_leftOut_51 : decode cX9_leftOut 51 = .ok (.iload 5, 2) := by decide +kernel
theorem dX9_leftOut_53 : decode cX9_leftOut 53 = .ok (.aload_n 0, 1) := by decide +kernel
theorem dX9_leftOut_54 : decode cX9_leftOut 54 = .ok (.getfield 58, 3) := by decide +kernel
theorem dX9_leftOut_57 : decode cX9_leftOut 57 = .ok (.getfield 224, 3) := by decide +kernel
theorem dX9_leftOut_60 : decode cX9_leftOut 60 = .ok (.if_icmp .ge 48, 3) := by decide +kernel
theorem dX9_leftOut_63 : decode cX9_leftOut 63 = .ok (.aload_n 0, 1) := by decide +kernel
theorem dX9_leftOut_64 : decode cX9_leftOut 64 = .ok (.getfield 58, 3) := by decide +kernel
theorem dX9_leftOut_67 : decode cX9_leftOut 67 = .ok (.iload 5, 2) := by decide +kernel
theorem dX9_leftOut_69 : decode cX9_leftOut 69 = .ok (.invokevirtual 228, 3) := by decide +kernel
theorem dX9_leftOut_72 : decode cX9_leftOut 72 = .ok (.istore 6, 2) := by decide +kernel
theorem dX9_leftOut_74 : decode cX9_leftOut 74 = .ok (.iload_n 3, 1) := by decide +kernel
theorem dX9_leftOut_75 : decode cX9_leftOut 75 = .ok (.bipush (-2), 2) := by decide +kernel
theorem dX9_leftOut_77 : decode cX9_leftOut 77 = .ok (.if_icmp .eq 10, 3) := by decide +kernel
theorem dX9_leftOut_80 : decode cX9_leftOut 80 = .ok (.iload 6, 2) := by decide +kernel
theorem dX9_leftOut_82 : decode cX9_leftOut 82 = .ok (.iload 4, 2) := by decide +kernel
theorem dX9_leftOut_84 : decode cX9_leftOut 84 = .ok (.if_icmp .ge 18, 3) := by decide +kernel
theorem dX9_leftOut_87 : decode cX9_leftOut 87 = .ok (.aload_n 0, 1) := by decide +kernel
theorem dX9_leftOut_88 : decode cX9_leftOut 88 = .ok (.getfield 58, 3) := by decide +kernel
theorem dX9_leftOut_91 : decode cX9_leftOut 91 = .ok (.getfield 231, 3) := by decide +kernel
theorem dX9_leftOut_94 : decode cX9_leftOut 94 = .ok (.iload 5, 2) := by decide +kernel
theorem dX9_leftOut_96 : decode cX9_leftOut 96 = .ok (.iaload, 1) := by decide +kernel
theorem dX9_leftOut_97 : decode cX9_leftOut 97 = .ok (.istore_n 3, 1) := by decide +kernel
theorem dX9_leftOut_98 : decode cX9_leftOut 98 = .ok (.iload 6, 2) := by decide +kernel
theorem dX9_leftOut_100 : decode cX9_leftOut 100 = .ok (.istore 4, 2) := by decide +kernel
theorem dX9_leftOut_102 : decode cX9_leftOut 102 = .ok (.iinc 5 1, 3) := by decide +kernel
theorem dX9_leftOut_105 : decode cX9_leftOut 105 = .ok (.goto (-54), 3) := by decide +kernel
theorem dX9_leftOut_108 : decode cX9_leftOut 108 = .ok (.iload_n 2, 1) := by decide +kernel
theorem dX9_leftOut_109 : decode cX9_leftOut 109 = .ok (.ifCond .ne 7, 3) := by decide +kernel
theorem dX9_leftOut_112 : decode cX9_leftOut 112 = .ok (.iload_n 3, 1) := by decide +kernel
theorem dX9_leftOut_113 : decode cX9_leftOut 113 = .ok (.goto 5, 3) := by decide +kernel
theorem dX9_leftOut_116 : decode cX9_leftOut 116 = .ok (.iload 4, 2) := by decide +kernel
theorem dX9_leftOut_118 : decode cX9_leftOut 118 = .ok (.ireturn, 1) := by decide +kernel
set_option maxRecDepth 20000 in
theorem dX9_thief_0 : decode cX9_thief 0 = .ok (.iload_n 1, 1) := by decide +kernel
theorem dX9_thief_1 : decode cX9_thief 1 = .ok (.invokestatic 102, 3) := by decide +kernel
theorem dX9_thief_4 : decode cX9_thief 4 = .ok (.ifCond .eq 29, 3) := by decide +kernel
theorem dX9_thief_7 : decode cX9_thief 7 = .ok (.aload_n 0, 1) := by decide +kernel
theorem dX9_thief_8 : decode cX9_thief 8 = .ok (.getfield 10, 3) := by decide +kernel
theorem dX9_thief_11 : decode cX9_thief 11 = .ok (.iload_n 2, 1) := by decide +kernel
theorem dX9_thief_12 : decode cX9_thief 12 = .ok (.invokevirtual 134, 3) := by decide +kernel
theorem dX9_thief_15 : decode cX9_thief 15 = .ok (.ifCond .eq 18, 3) := by decide +kernel
theorem dX9_thief_18 : decode cX9_thief 18 = .ok (.iload_n 3, 1) := by decide +kernel
theorem dX9_thief_19 : decode cX9_thief 19 = .ok (.invokestatic 163, 3) := by decide +kernel
theorem dX9_thief_22 : decode cX9_thief 22 = .ok (.ifCond .eq 11, 3) := by decide +kernel
theorem dX9_thief_25 : decode cX9_thief 25 = .ok (.iload 4, 2) := by decide +kernel
theorem dX9_thief_27 : decode cX9_thief 27 = .ok (.invokestatic 234, 3) := by decide +kernel
theorem dX9_thief_30 : decode cX9_thief 30 = .ok (.ifCond .ne 5, 3) := by decide +kernel
theorem dX9_thief_33 : decode cX9_thief 33 = .ok (.iconst (-1), 1) := by decide +kernel
theorem dX9_thief_34 : decode cX9_thief 34 = .ok (.ireturn, 1) := by decide +kernel
theorem dX9_thief_35 : decode cX9_thief 35 = .ok (.aload_n 0, 1) := by decide +kernel
theorem dX9_thief_36 : decode cX9_thief 36 = .ok (.iload_n 1, 1) := by decide +kernel
theorem dX9_thief_37 : decode cX9_thief 37 = .ok (.invokevirtual 153, 3) := by decide +kernel
theorem dX9_thief_40 : decode cX9_thief 40 = .ok (.istore 5, 2) := by decide +kernel
theorem dX9_thief_42 : decode cX9_thief 42 = .ok (.iload 5, 2) := by decide +kernel
theorem dX9_thief_44 : decode cX9_thief 44 = .ok (.ifCond .ge 8, 3) := by decide +kernel
theorem dX9_thief_47 : decode cX9_thief 47 = .ok (.iload 5, 2) := by decide +kernel
theorem dX9_thief_49 : decode cX9_thief 49 = .ok (.goto 11, 3) := by decide +kernel
theorem dX9_thief_52 : decode cX9_thief 52 = .ok (.aload_n 0, 1) := by decide +kernel
theorem dX9_thief_53 : decode cX9_thief 53 = .ok (.iload_n 2, 1) := by decide +kernel
theorem dX9_thief_54 : decode cX9_thief 54 = .ok (.iload_n 3, 1) := by decide +kernel
theorem dX9_thief_55 : decode cX9_thief 55 = .ok (.iload 4, 2) := by decide +kernel
theorem dX9_thief_57 : decode cX9_thief 57 = .ok (.invokevirtual 237, 3) := by decide +kernel
theorem dX9_thief_60 : decode cX9_thief 60 = .ok (.ireturn, 1) := by decide +kernel
set_option maxRecDepth 20000 in
theorem dX9_safe_0 : decode cX9_safe 0 = .ok (.iload_n 1, 1) := by decide +kernel
theorem dX9_safe_1 : decode cX9_safe 1 = .ok (.invokestatic 102, 3) := by decide +kernel
theorem dX9_safe_4 : decode cX9_safe 4 = .ok (.ifCond .eq 10, 3) := by decide +kernel
theorem dX9_safe_7 : decode cX9_safe 7 = .ok (.iload_n 2, 1) := by decide +kernel
theorem dX9_safe_8 : decode cX9_safe 8 = .ok (.invokestatic 234, 3) := by decide +kernel
theorem dX9_safe_11 : decode cX9_safe 11 = .ok (.ifCond .ne 5, 3) := by decide +kernel
theorem dX9_safe_14 : decode cX9_safe 14 = .ok (.iconst (-1), 1) := by decide +kernel
theorem dX9_safe_15 : decode cX9_safe 15 = .ok (.ireturn, 1) := by decide +kernel
theorem dX9_safe_16 : decode cX9_safe 16 = .ok (.aload_n 0, 1) := by decide +kernel
theorem dX9_safe_17 : decode cX9_safe 17 = .ok (.iload_n 1, 1) := by decide +kernel
theorem dX9_safe_18 : decode cX9_safe 18 = .ok (.invokevirtual 153, 3) := by decide +kernel
theorem dX9_safe_21 : decode cX9_safe 21 = .ok (.istore_n 3, 1) := by decide +kernel
theorem dX9_safe_22 : decode cX9_safe 22 = .ok (.iload_n 3, 1) := by decide +kernel
theorem dX9_safe_23 : decode cX9_safe 23 = .ok (.ifCond .ge 5, 3) := by decide +kernel
theorem dX9_safe_26 : decode cX9_safe 26 = .ok (.iload_n 3, 1) := by decide +kernel
theorem dX9_safe_27 : decode cX9_safe 27 = .ok (.ireturn, 1) := by decide +kernel
theorem dX9_safe_28 : decode cX9_safe 28 = .ok (.iconst 0, 1) := by decide +kernel
theorem dX9_safe_29 : decode cX9_safe 29 = .ok (.istore 4, 2) := by decide +kernel
theorem dX9_safe_31 : decode cX9_safe 31 = .ok (.iconst 0, 1) := by decide +kernel
theorem dX9_safe_32 : decode cX9_safe 32 = .ok (.istore 5, 2) := by decide +kernel
theorem dX9_safe_34 : decode cX9_safe 34 = .ok (.iload 5, 2) := by decide +kernel
theorem dX9_safe_36 : decode cX9_safe 36 = .ok (.aload_n 0, 1) := by decide +kernel
theorem dX9_safe_37 : decode cX9_safe 37 = .ok (.getfield 10, 3) := by decide +kernel
theorem dX9_safe_40 : decode cX9_safe 40 = .ok (.getfield 94, 3) := by decide +kernel
theorem dX9_safe_43 : decode cX9_safe 43 = .ok (.if_icmp .ge 31, 3) := by decide +kernel
theorem dX9_safe_46 : decode cX9_safe 46 = .ok (.aload_n 0, 1) := by decide +kernel
theorem dX9_safe_47 : decode cX9_safe 47 = .ok (.iload 5, 2) := by decide +kernel
theorem dX9_safe_49 : decode cX9_safe 49 = .ok (.iconst 0, 1) := by decide +kernel
theorem dX9_safe_50 : decode cX9_safe 50 = .ok (.iload_n 2, 1) := by decide +kernel
theorem dX9_safe_51 : decode cX9_safe 51 = .ok (.invokevirtual 237, 3) := by decide +kernel
theorem dX9_safe_54 : decode cX9_safe 54 = .ok (.bipush (-2), 2) := by decide +kernel
theorem dX9_safe_56 : decode cX9_safe 56 = .ok (.if_icmp .ne 12, 3) := by decide +kernel
theorem dX9_safe_59 : decode cX9_safe 59 = .ok (.iload 4, 2) := by decide +kernel
theorem dX9_safe_61 : decode cX9_safe 61 = .ok (.iconst 1, 1) := by decide +kernel
theorem dX9_safe_62 : decode cX9_safe 62 = .ok (.iload 5, 2) := by decide +kernel
theorem dX9_safe_64 : decode cX9_safe 64 = .ok (.ishl, 1) := by decide +kernel
theorem dX9_safe_65 : decode cX9_safe 65 = .ok (.ior, 1) := by decide +kernel
theorem dX9_safe_66 : decode cX9_safe 66 = .ok (.istore 4, 2) := by decide +kernel
theorem dX9_safe_68 : decode cX9_safe 68 = .ok (.iinc 5 1, 3) := by decide +kernel
theorem dX9_safe_71 : decode cX9_safe 71 = .ok (.goto (-37), 3) := by decide +kernel
theorem dX9_safe_74 : decode cX9_safe 74 = .ok (.iload 4, 2) := by decide +kernel
theorem dX9_safe_76 : decode cX9_safe 76 = .ok (.ireturn, 1) := by decide +kernel
set_option maxRecDepth 20000 in
theorem dX9_freeStart_0 : decode cX9_freeStart 0 = .ok (.aload_n 0, 1) := by decide +kernel
theorem dX9_freeStart_1 : decode cX9_freeStart 1 = .ok (.getfield 51, 3) := by decide +kernel
theorem dX9_freeStart_4 : decode cX9_freeStart 4 = .ok (.aload_n 0, 1) := by decide +kernel
theorem dX9_freeStart_5 : decode cX9_freeStart 5 = .ok (.getfield 41, 3) := by decide +kernel
theorem dX9_freeStart_8 : decode cX9_freeStart 8 = .ok (.iload_n 1, 1) := by decide +kernel
theorem dX9_freeStart_9 : decode cX9_freeStart 9 = .ok (.sipush 999, 3) := by decide +kernel
theorem dX9_freeStart_12 : decode cX9_freeStart 12 = .ok (.iload_n 3, 1) := by decide +kernel
theorem dX9_freeStart_13 : decode cX9_freeStart 13 = .ok (.iadd, 1) := by decide +kernel
theorem dX9_freeStart_14 : decode cX9_freeStart 14 = .ok (.iconst 1, 1) := by decide +kernel
theorem dX9_freeStart_15 : decode cX9_freeStart 15 = .ok (.isub, 1) := by decide +kernel
theorem dX9_freeStart_16 : decode cX9_freeStart 16 = .ok (.invokevirtual 172, 3) := by decide +kernel
theorem dX9_freeStart_19 : decode cX9_freeStart 19 = .ok (.aload_n 0, 1) := by decide +kernel
theorem dX9_freeStart_20 : decode cX9_freeStart 20 = .ok (.getfield 51, 3) := by decide +kernel
theorem dX9_freeStart_23 : decode cX9_freeStart 23 = .ok (.iload_n 2, 1) := by decide +kernel
theorem dX9_freeStart_24 : decode cX9_freeStart 24 = .ok (.iload_n 3, 1) := by decide +kernel
theorem dX9_freeStart_25 : decode cX9_freeStart 25 = .ok (.invokevirtual 240, 3) := by decide +kernel
theorem dX9_freeStart_28 : decode cX9_freeStart 28 = .ok (.istore 4, 2) := by decide +kernel
theorem dX9_freeStart_30 : decode cX9_freeStart 30 = .ok (.iload 4, 2) := by decide +kernel
theorem dX9_freeStart_32 : decode cX9_freeStart 32 = .ok (.sipush 999, 3) := by decide +kernel
theorem dX9_freeStart_35 : decode cX9_freeStart 35 = .ok (.if_icmp .le 8, 3) := by decide +kernel
theorem dX9_freeStart_38 : decode cX9_freeStart 38 = .ok (.bipush (-2), 2) := by decide +kernel
theorem dX9_freeStart_40 : decode cX9_freeStart 40 = .ok (.goto 5, 3) := by decide +kernel
theorem dX9_freeStart_43 : decode cX9_freeStart 43 = .ok (.iload 4, 2) := by decide +kernel
theorem dX9_freeStart_45 : decode cX9_freeStart 45 = .ok (.ireturn, 1) := by decide +kernel
set_option maxRecDepth 20000 in
theorem dX9_two_0 : decode cX9_two 0 = .ok (.iload_n 2, 1) := by decide +kernel
theorem dX9_two_1 : decode cX9_two 1 = .ok (.iconst (-1), 1) := by decide +kernel
theorem dX9_two_2 : decode cX9_two 2 = .ok (.if_icmp .ne 7, 3) := by decide +kernel
theorem dX9_two_5 : decode cX9_two 5 = .ok (.iconst 1, 1) := by decide +kernel
theorem dX9_two_6 : decode cX9_two 6 = .ok (.goto 4, 3) := by decide +kernel
theorem dX9_two_9 : decode cX9_two 9 = .ok (.iconst 0, 1) := by decide +kernel
theorem dX9_two_10 : decode cX9_two 10 = .ok (.istore 4, 2) := by decide +kernel
theorem dX9_two_12 : decode cX9_two 12 = .ok (.iload_n 1, 1) := by decide +kernel
theorem dX9_two_13 : decode cX9_two 13 = .ok (.invokestatic 102, 3) := by decide +kernel
theorem dX9_two_16 : decode cX9_two 16 = .ok (.ifCond .eq 29, 3) := by decide +kernel
theorem dX9_two_19 : decode cX9_two 19 = .ok (.iload 4, 2) := by decide +kernel
theorem dX9_two_21 : decode cX9_two 21 = .ok (.ifCond .ne 26, 3) := by decide +kernel
theorem dX9_two_24 : decode cX9_two 24 = .ok (.aload_n 0, 1) := by decide +kernel
theorem dX9_two_25 : decode cX9_two 25 = .ok (.getfield 10, 3) := by decide +kernel
theorem dX9_two_28 : decode cX9_two 28 = .ok (.iload_n 2, 1) := by decide +kernel
theorem dX9_two_29 : decode cX9_two 29 = .ok (.invokevirtual 134, 3) := by decide +kernel
theorem dX9_two_32 : decode cX9_two 32 = .ok (.ifCond .eq 13, 3) := by decide +kernel
theorem dX9_two_35 : decode cX9_two 35 = .ok (.iload_n 3, 1) := by decide +kernel
theorem dX9_two_36 : decode cX9_two 36 = .ok (.ifCond .lt 9, 3) := by decide +kernel
theorem dX9_two_39 : decode cX9_two 39 = .ok (.iload_n 3, 1) := by decide +kernel
theorem dX9_two_40 : decode cX9_two 40 = .ok (.bipush 99, 2) := by decide +kernel
theorem dX9_two_42 : decode cX9_two 42 = .ok (.if_icmp .le 5, 3) := by decide +kernel
theorem dX9_two_45 : decode cX9_two 45 = .ok (.iconst (-1), 1) := by decide +kernel
theorem dX9_two_46 : decode cX9_two 46 = .ok (.ireturn, 1) := by decide +kernel
theorem dX9_two_47 : decode cX9_two 47 = .ok (.aload_n 0, 1) := by decide +kernel
theorem dX9_two_48 : decode cX9_two 48 = .ok (.iload_n 1, 1) := by decide +kernel
theorem dX9_two_49 : decode cX9_two 49 = .ok (.invokevirtual 153, 3) := by decide +kernel
theorem dX9_two_52 : decode cX9_two 52 = .ok (.istore 5, 2) := by decide +kernel
theorem dX9_two_54 : decode cX9_two 54 = .ok (.iload 5, 2) := by decide +kernel
theorem dX9_two_56 : decode cX9_two 56 = .ok (.ifCond .ge 6, 3) := by decide +kernel
theorem dX9_two_59 : decode cX9_two 59 = .ok (.iload 5, 2) := by decide +kernel
theorem dX9_two_61 : decode cX9_two 61 = .ok (.ireturn, 1) := by decide +kernel
theorem dX9_two_62 : decode cX9_two 62 = .ok (.iload 4, 2) := by decide +kernel
theorem dX9_two_64 : decode cX9_two 64 = .ok (.ifCond .eq 8, 3) := by decide +kernel
theorem dX9_two_67 : decode cX9_two 67 = .ok (.aload_n 0, 1) := by decide +kernel
theorem dX9_two_68 : decode cX9_two 68 = .ok (.invokevirtual 243, 3) := by decide +kernel
theorem dX9_two_71 : decode cX9_two 71 = .ok (.ireturn, 1) := by decide +kernel
theorem dX9_two_72 : decode cX9_two 72 = .ok (.aload_n 0, 1) := by decide +kernel
theorem dX9_two_73 : decode cX9_two 73 = .ok (.getfield 51, 3) := by decide +kernel
theorem dX9_two_76 : decode cX9_two 76 = .ok (.aload_n 0, 1) := by decide +kernel
theorem dX9_two_77 : decode cX9_two 77 = .ok (.getfield 41, 3) := by decide +kernel
theorem dX9_two_80 : decode cX9_two 80 = .ok (.iload_n 2, 1) := by decide +kernel
theorem dX9_two_81 : decode cX9_two 81 = .ok (.sipush 999, 3) := by decide +kernel
theorem dX9_two_84 : decode cX9_two 84 = .ok (.invokevirtual 172, 3) := by decide +kernel
theorem dX9_two_87 : decode cX9_two 87 = .ok (.aload_n 0, 1) := by decide +kernel
theorem dX9_two_88 : decode cX9_two 88 = .ok (.getfield 51, 3) := by decide +kernel
theorem dX9_two_91 : decode cX9_two 91 = .ok (.iload_n 3, 1) := by decide +kernel
theorem dX9_two_92 : decode cX9_two 92 = .ok (.sipush 999, 3) := by decide +kernel
theorem dX9_two_95 : decode cX9_two 95 = .ok (.invokevirtual 246, 3) := by decide +kernel
theorem dX9_two_98 : decode cX9_two 98 = .ok (.ireturn, 1) := by decide +kernel
set_option maxRecDepth 20000 in
theorem dX9_bestSecond_0 : decode cX9_bestSecond 0 = .ok (.iconst 0, 1) := by decide +kernel
theorem dX9_bestSecond_1 : decode cX9_bestSecond 1 = .ok (.istore_n 1, 1) := by decide +kernel
theorem dX9_bestSecond_2 : decode cX9_bestSecond 2 = .ok (.iload_n 1, 1) := by decide +kernel
theorem dX9_bestSecond_3 : decode cX9_bestSecond 3 = .ok (.bipush 99, 2) := by decide +kernel
theorem dX9_bestSecond_5 : decode cX9_bestSecond 5 = .ok (.if_icmp .gt 17, 3) := by decide +kernel
theorem dX9_bestSecond_8 : decode cX9_bestSecond 8 = .ok (.aload_n 0, 1) := by decide +kernel
theorem dX9_bestSecond_9 : decode cX9_bestSecond 9 = .ok (.getfield 83, 3) := by decide +kernel
theorem dX9_bestSecond_12 : decode cX9_bestSecond 12 = .ok (.iload_n 1, 1) := by decide +kernel
theorem dX9_bestSecond_13 : decode cX9_bestSecond 13 = .ok (.bipush (-2), 2) := by decide +kernel
theorem dX9_bestSecond_15 : decode cX9_bestSecond 15 = .ok (.iastore, 1) := by decide +kernel
theorem dX9_bestSecond_16 : decode cX9_bestSecond 16 = .ok (.iinc 1 1, 3) := by decide +kernel
theorem dX9_bestSecond_19 : decode cX9_bestSecond 19 = .ok (.goto (-17), 3) := by decide +kernel
theorem dX9_bestSecond_22 : decode cX9_bestSecond 22 = .ok (.iconst 0, 1) := by decide +kernel
theorem dX9_bestSecond_23 : decode cX9_bestSecond 23 = .ok (.istore_n 1, 1) := by decide +kernel
theorem dX9_bestSecond_24 : decode cX9_bestSecond 24 = .ok (.iload_n 1, 1) := by decide +kernel
theorem dX9_bestSecond_25 : decode cX9_bestSecond 25 = .ok (.aload_n 0, 1) := by decide +kernel
theorem dX9_bestSecond_26 : decode cX9_bestSecond 26 = .ok (.getfield 10, 3) := by decide +kernel
theorem dX9_bestSecond_29 : decode cX9_bestSecond 29 = .ok (.getfield 94, 3) := by decide +kernel
theorem dX9_bestSecond_32 : decode cX9_bestSecond 32 = .ok (.if_icmp .ge 64, 3) := by decide +kernel
theorem dX9_bestSecond_35 : decode cX9_bestSecond 35 = .ok (.aload_n 0, 1) := by decide +kernel
theorem dX9_bestSecond_36 : decode cX9_bestSecond 36 = .ok (.getfield 51, 3) := by decide +kernel
theorem dX9_bestSecond_39 : decode cX9_bestSecond 39 = .ok (.aload_n 0, 1) := by decide +kernel
theorem dX9_bestSecond_40 : decode cX9_bestSecond 40 = .ok (.getfield 41, 3) := by decide +kernel
theorem dX9_bestSecond_43 : decode cX9_bestSecond 43 = .ok (.iload_n 1, 1) := by decide +kernel
theorem dX9_bestSecond_44 : decode cX9_bestSecond 44 = .ok (.sipush 999, 3) := by decide +kernel
theorem dX9_bestSecond_47 : decode cX9_bestSecond 47 = .ok (.invokevirtual 172, 3) := by decide +kernel
theorem dX9_bestSecond_50 : decode cX9_bestSecond 50 = .ok (.iconst 0, 1) := by decide +kernel
theorem dX9_bestSecond_51 : decode cX9_bestSecond 51 = .ok (.istore_n 2, 1) := by decide +kernel
theorem dX9_bestSecond_52 : decode cX9_bestSecond 52 = .ok (.iload_n 2, 1) := by decide +kernel
theorem dX9_bestSecond_53 : decode cX9_bestSecond 53 = .ok (.bipush 99, 2) := by decide +kernel
theorem dX9_bestSecond_55 : decode cX9_bestSecond 55 = .ok (.if_icmp .gt 35, 3) := by decide +kernel
theorem dX9_bestSecond_58 : decode cX9_bestSecond 58 = .ok (.aload_n 0, 1) := by decide +kernel
theorem dX9_bestSecond_59 : decode cX9_bestSecond 59 = .ok (.getfield 83, 3) := by decide +kernel
theorem dX9_bestSecond_62 : decode cX9_bestSecond 62 = .ok (.iload_n 2, 1) := by decide +kernel
theorem dX9_bestSecond_63 : decode cX9_bestSecond 63 = .ok (.aload_n 0, 1) := by decide +kernel
theorem dX9_bestSecond_64 : decode cX9_bestSecond 64 = .ok (.getfield 83, 3) := by decide +kernel
theorem dX9_bestSecond_67 : decode cX9_bestSecond 67 = .ok (.iload_n 2, 1) := by decide +kernel
theorem dX9_bestSecond_68 : decode cX9_bestSecond 68 = .ok (.iaload, 1) := by decide +kernel
theorem dX9_bestSecond_69 : decode cX9_bestSecond 69 = .ok (.aload_n 0, 1) := by decide +kernel
theorem dX9_bestSecond_70 : decode cX9_bestSecond 70 = .ok (.getfield 51, 3) := by decide +kernel
theorem dX9_bestSecond_73 : decode cX9_bestSecond 73 = .ok (.iload_n 2, 1) := by decide +kernel
theorem dX9_bestSecond_74 : decode cX9_bestSecond 74 = .ok (.sipush 999, 3) := by decide +kernel
theorem dX9_bestSecond_77 : decode cX9_bestSecond 77 = .ok (.invokevirtual 246, 3) := by decide +kernel
theorem dX9_bestSecond_80 : decode cX9_bestSecond 80 = .ok (.invokestatic 249, 3) := by decide +kernel
theorem dX9_bestSecond_83 : decode cX9_bestSecond 83 = .ok (.iastore, 1) := by decide +kernel
theorem dX9_bestSecond_84 : decode cX9_bestSecond 84 = .ok (.iinc 2 1, 3) := by decide +kernel
theorem dX9_bestSecond_87 : decode cX9_bestSecond 87 = .ok (.goto (-35), 3) := by decide +kernel
theorem dX9_bestSecond_90 : decode cX9_bestSecond 90 = .ok (.iinc 1 1, 3) := by decide +kernel
theorem dX9_bestSecond_93 : decode cX9_bestSecond 93 = .ok (.goto (-69), 3) := by decide +kernel
theorem dX9_bestSecond_96 : decode cX9_bestSecond 96 = .ok (.iconst 0, 1) := by decide +kernel
theorem dX9_bestSecond_97 : decode cX9_bestSecond 97 = .ok (.istore_n 1, 1) := by decide +kernel
theorem dX9_bestSecond_98 : decode cX9_bestSecond 98 = .ok (.iconst 1, 1) := by decide +kernel
theorem dX9_bestSecond_99 : decode cX9_bestSecond 99 = .ok (.istore_n 2, 1) := by decide +kernel
theorem dX9_bestSecond_100 : decode cX9_bestSecond 100 = .ok (.iload_n 2, 1) := by decide +kernel
theorem dX9_bestSecond_101 : decode cX9_bestSecond 101 = .ok (.bipush 99, 2) := by decide +kernel
theorem dX9_bestSecond_103 : decode cX9_bestSecond 103 = .ok (.if_icmp .gt 48, 3) := by decide +kernel
theorem dX9_bestSecond_106 : decode cX9_bestSecond 106 = .ok (.aload_n 0, 1) := by decide +kernel
theorem dX9_bestSecond_107 : decode cX9_bestSecond 107 = .ok (.getfield 83, 3) := by decide +kernel
theorem dX9_bestSecond_110 : decode cX9_bestSecond 110 = .ok (.iload_n 2, 1) := by decide +kernel
theorem dX9_bestSecond_111 : decode cX9_bestSecond 111 = .ok (.iaload, 1) := by decide +kernel
theorem dX9_bestSecond_112 : decode cX9_bestSecond 112 = .ok (.bipush (-2), 2) := by decide +kernel
theorem dX9_bestSecond_114 : decode cX9_bestSecond 114 = .ok (.if_icmp .eq 31, 3) := by decide +kernel
theorem dX9_bestSecond_117 : decode cX9_bestSecond 117 = .ok (.aload_n 0, 1) := by decide +kernel
theorem dX9_bestSecond_118 : decode cX9_bestSecond 118 = .ok (.getfield 83, 3) := by decide +kernel
theorem dX9_bestSecond_121 : decode cX9_bestSecond 121 = .ok (.iload_n 1, 1) := by decide +kernel
theorem dX9_bestSecond_122 : decode cX9_bestSecond 122 = .ok (.iaload, 1) := by decide +kernel
theorem dX9_bestSecond_123 : decode cX9_bestSecond 123 = .ok (.bipush (-2), 2) := by decide +kernel
theorem dX9_bestSecond_125 : decode cX9_bestSecond 125 = .ok (.if_icmp .eq 18, 3) := by decide +kernel
theorem dX9_bestSecond_128 : decode cX9_bestSecond 128 = .ok (.aload_n 0, 1) := by decide +kernel
theorem dX9_bestSecond_129 : decode cX9_bestSecond 129 = .ok (.getfield 83, 3) := by decide +kernel
theorem dX9_bestSecond_132 : decode cX9_bestSecond 132 = .ok (.iload_n 2, 1) := by decide +kernel
theorem dX9_bestSecond_133 : decode cX9_bestSecond 133 = .ok (.iaload, 1) := by decide +kernel
theorem dX9_bestSecond_134 : decode cX9_bestSecond 134 = .ok (.aload_n 0, 1) := by decide +kernel
theorem dX9_bestSecond_135 : decode cX9_bestSecond 135 = .ok (.getfield 83, 3) := by decide +kernel
theorem dX9_bestSecond_138 : decode cX9_bestSecond 138 = .ok (.iload_n 1, 1) := by decide +kernel
theorem dX9_bestSecond_139 : decode cX9_bestSecond 139 = .ok (.iaload, 1) := by decide +kernel
theorem dX9_bestSecond_140 : decode cX9_bestSecond 140 = .ok (.if_icmp .ge 5, 3) := by decide +kernel
theorem dX9_bestSecond_143 : decode cX9_bestSecond 143 = .ok (.iload_n 2, 1) := by decide +kernel
theorem dX9_bestSecond_144 : decode cX9_bestSecond 144 = .ok (.istore_n 1, 1) := by decide +kernel
theorem dX9_bestSecond_145 : decode cX9_bestSecond 145 = .ok (.iinc 2 1, 3) := by decide +kernel
theorem dX9_bestSecond_148 : decode cX9_bestSecond 148 = .ok (.goto (-48), 3) := by decide +kernel
theorem dX9_bestSecond_151 : decode cX9_bestSecond 151 = .ok (.iload_n 1, 1) := by decide +kernel
theorem dX9_bestSecond_152 : decode cX9_bestSecond 152 = .ok (.ireturn, 1) := by decide +kernel
set_option maxRecDepth 20000 in
theorem dX9_success_0 : decode cX9_success 0 = .ok (.iload_n 1, 1) := by decide +kernel
theorem dX9_success_1 : decode cX9_success 1 = .ok (.invokestatic 102, 3) := by decide +kernel
theorem dX9_success_4 : decode cX9_success 4 = .ok (.ifCond .eq 33, 3) := by decide +kernel
theorem dX9_success_7 : decode cX9_success 7 = .ok (.aload_n 0, 1) := by decide +kernel
theorem dX9_success_8 : decode cX9_success 8 = .ok (.getfield 10, 3) := by decide +kernel
theorem dX9_success_11 : decode cX9_success 11 = .ok (.iload_n 2, 1) := by decide +kernel
theorem dX9_success_12 : decode cX9_success 12 = .ok (.invokevirtual 134, 3) := by decide +kernel
theorem dX9_success_15 : decode cX9_success 15 = .ok (.ifCond .eq 22, 3) := by decide +kernel
theorem dX9_success_18 : decode cX9_success 18 = .ok (.iload_n 3, 1) := by decide +kernel
theorem dX9_success_19 : decode cX9_success 19 = .ok (.ifCond .lt 18, 3) := by decide +kernel
theorem dX9_success_22 : decode cX9_success 22 = .ok (.iload_n 3, 1) := by decide +kernel
theorem dX9_success_23 : decode cX9_success 23 = .ok (.sipush 600, 3) := by decide +kernel
theorem dX9_success_26 : decode cX9_success 26 = .ok (.if_icmp .ge 11, 3) := by decide +kernel
theorem dX9_success_29 : decode cX9_success 29 = .ok (.iload 4, 2) := by decide +kernel
theorem dX9_success_31 : decode cX9_success 31 = .ok (.invokestatic 254, 3) := by decide +kernel
theorem dX9_success_34 : decode cX9_success 34 = .ok (.ifCond .ne 5, 3) := by decide +kernel
theorem dX9_success_37 : decode cX9_success 37 = .ok (.iconst (-1), 1) := by decide +kernel
theorem dX9_success_38 : decode cX9_success 38 = .ok (.ireturn, 1) := by decide +kernel
theorem dX9_success_39 : decode cX9_success 39 = .ok (.aload_n 0, 1) := by decide +kernel
theorem dX9_success_40 : decode cX9_success 40 = .ok (.iload_n 1, 1) := by decide +kernel
theorem dX9_success_41 : decode cX9_success 41 = .ok (.invokevirtual 257, 3) := by decide +kernel
theorem dX9_success_44 : decode cX9_success 44 = .ok (.istore 5, 2) := by decide +kernel
theorem dX9_success_46 : decode cX9_success 46 = .ok (.iload 5, 2) := by decide +kernel
theorem dX9_success_48 : decode cX9_success 48 = .ok (.ifCond .ge 6, 3) := by decide +kernel
theorem dX9_success_51 : decode cX9_success 51 = .ok (.iload 5, 2) := by decide +kernel
theorem dX9_success_53 : decode cX9_success 53 = .ok (.ireturn, 1) := by decide +kernel
theorem dX9_success_54 : decode cX9_success 54 = .ok (.iload 4, 2) := by decide +kernel
theorem dX9_success_56 : decode cX9_success 56 = .ok (.bipush 100, 2) := by decide +kernel
theorem dX9_success_58 : decode cX9_success 58 = .ok (.irem, 1) := by decide +kernel
theorem dX9_success_59 : decode cX9_success 59 = .ok (.istore 6, 2) := by decide +kernel
theorem dX9_success_61 : decode cX9_success 61 = .ok (.aload_n 0, 1) := by decide +kernel
theorem dX9_success_62 : decode cX9_success 62 = .ok (.aload_n 0, 1) := by decide +kernel
theorem dX9_success_63 : decode cX9_success 63 = .ok (.getfield 41, 3) := by decide +kernel
theorem dX9_success_66 : decode cX9_success 66 = .ok (.iload_n 2, 1) := by decide +kernel
theorem dX9_success_67 : decode cX9_success 67 = .ok (.iload_n 3, 1) := by decide +kernel
theorem dX9_success_68 : decode cX9_success 68 = .ok (.iload 6, 2) := by decide +kernel
theorem dX9_success_70 : decode cX9_success 70 = .ok (.invokevirtual 260, 3) := by decide +kernel
theorem dX9_success_73 : decode cX9_success 73 = .ok (.ifCond .eq 7, 3) := by decide +kernel
theorem dX9_success_76 : decode cX9_success 76 = .ok (.iconst 1, 1) := by decide +kernel
theorem dX9_success_77 : decode cX9_success 77 = .ok (.goto 4, 3) := by decide +kernel
theorem dX9_success_80 : decode cX9_success 80 = .ok (.iconst 0, 1) := by decide +kernel
theorem dX9_success_81 : decode cX9_success 81 = .ok (.istore 7, 2) := by decide +kernel
theorem dX9_success_83 : decode cX9_success 83 = .ok (.aload_n 0, 1) := by decide +kernel
theorem dX9_success_84 : decode cX9_success 84 = .ok (.aload_n 0, 1) := by decide +kernel
theorem dX9_success_85 : decode cX9_success 85 = .ok (.getfield 45, 3) := by decide +kernel
theorem dX9_success_88 : decode cX9_success 88 = .ok (.iload_n 2, 1) := by decide +kernel
theorem dX9_success_89 : decode cX9_success 89 = .ok (.iload_n 3, 1) := by decide +kernel
theorem dX9_success_90 : decode cX9_success 90 = .ok (.iload 6, 2) := by decide +kernel
theorem dX9_success_92 : decode cX9_success 92 = .ok (.invokevirtual 260, 3) := by decide +kernel
theorem dX9_success_95 : decode cX9_success 95 = .ok (.ifCond .eq 9, 3) := by decide +kernel
theorem dX9_success_98 : decode cX9_success 98 = .ok (.iload 7, 2) := by decide +kernel
theorem dX9_success_100 : decode cX9_success 100 = .ok (.iconst 2, 1) := by decide +kernel
theorem dX9_success_101 : decode cX9_success 101 = .ok (.ior, 1) := by decide +kernel
theorem dX9_success_102 : decode cX9_success 102 = .ok (.istore 7, 2) := by decide +kernel
theorem dX9_success_104 : decode cX9_success 104 = .ok (.iload 7, 2) := by decide +kernel
theorem dX9_success_106 : decode cX9_success 106 = .ok (.iload 4, 2) := by decide +kernel
theorem dX9_success_108 : decode cX9_success 108 = .ok (.bipush 100, 2) := by decide +kernel
theorem dX9_success_110 : decode cX9_success 110 = .ok (.idiv, 1) := by decide +kernel
theorem dX9_success_111 : decode cX9_success 111 = .ok (.invokestatic 264, 3) := by decide +kernel
theorem dX9_success_114 : decode cX9_success 114 = .ok (.ireturn, 1) := by decide +kernel
set_option maxRecDepth 20000 in
theorem dX9_bestMinute_0 : decode cX9_bestMinute 0 = .ok (.iload_n 1, 1) := by decide +kernel
theorem dX9_bestMinute_1 : decode cX9_bestMinute 1 = .ok (.invokestatic 102, 3) := by decide +kernel
theorem dX9_bestMinute_4 : decode cX9_bestMinute 4 = .ok (.ifCond .eq 29, 3) := by decide +kernel
theorem dX9_bestMinute_7 : decode cX9_bestMinute 7 = .ok (.aload_n 0, 1) := by decide +kernel
theorem dX9_bestMinute_8 : decode cX9_bestMinute 8 = .ok (.getfield 10, 3) := by decide +kernel
theorem dX9_bestMinute_11 : decode cX9_bestMinute 11 = .ok (.iload_n 2, 1) := by decide +kernel
theorem dX9_bestMinute_12 : decode cX9_bestMinute 12 = .ok (.invokevirtual 134, 3) := by decide +kernel
theorem dX9_bestMinute_15 : decode cX9_bestMinute 15 = .ok (.ifCond .eq 18, 3) := by decide +kernel
theorem dX9_bestMinute_18 : decode cX9_bestMinute 18 = .ok (.iload_n 3, 1) := by decide +kernel
theorem dX9_bestMinute_19 : decode cX9_bestMinute 19 = .ok (.invokestatic 254, 3) := by decide +kernel
theorem dX9_bestMinute_22 : decode cX9_bestMinute 22 = .ok (.ifCond .eq 11, 3) := by decide +kernel
theorem dX9_bestMinute_25 : decode cX9_bestMinute 25 = .ok (.iload 4, 2) := by decide +kernel
theorem dX9_bestMinute_27 : decode cX9_bestMinute 27 = .ok (.invokestatic 150, 3) := by decide +kernel
theorem dX9_bestMinute_30 : decode cX9_bestMinute 30 = .ok (.ifCond .ne 5, 3) := by decide +kernel
theorem dX9_bestMinute_33 : decode cX9_bestMinute 33 = .ok (.iconst (-1), 1) := by decide +kernel
theorem dX9_bestMinute_34 : decode cX9_bestMinute 34 = .ok (.ireturn, 1) := by decide +kernel
theorem dX9_bestMinute_35 : decode cX9_bestMinute 35 = .ok (.aload_n 0, 1) := by decide +kernel
theorem dX9_bestMinute_36 : decode cX9_bestMinute 36 = .ok (.iload_n 1, 1) := by decide +kernel
theorem dX9_bestMinute_37 : decode cX9_bestMinute 37 = .ok (.invokevirtual 257, 3) := by decide +kernel
theorem dX9_bestMinute_40 : decode cX9_bestMinute 40 = .ok (.istore 5, 2) := by decide +kernel
theorem dX9_bestMinute_42 : decode cX9_bestMinute 42 = .ok (.iload 5, 2) := by decide +kernel
theorem dX9_bestMinute_44 : decode cX9_bestMinute 44 = .ok (.ifCond .ge 6, 3) := by decide +kernel
theorem dX9_bestMinute_47 : decode cX9_bestMinute 47 = .ok (.iload 5, 2) := by decide +kernel
theorem dX9_bestMinute_49 : decode cX9_bestMinute 49 = .ok (.ireturn, 1) := by decide +kernel
theorem dX9_bestMinute_50 : decode cX9_bestMinute 50 = .ok (.aload_n 0, 1) := by decide +kernel
theorem dX9_bestMinute_51 : decode cX9_bestMinute 51 = .ok (.iload_n 2, 1) := by decide +kernel
theorem dX9_bestMinute_52 : decode cX9_bestMinute 52 = .ok (.iload_n 3, 1) := by decide +kernel
theorem dX9_bestMinute_53 : decode cX9_bestMinute 53 = .ok (.bipush 100, 2) := by decide +kernel
theorem dX9_bestMinute_55 : decode cX9_bestMinute 55 = .ok (.irem, 1) := by decide +kernel
theorem dX9_bestMinute_56 : decode cX9_bestMinute 56 = .ok (.invokevirtual 267, 3) := by decide +kernel
theorem dX9_bestMinute_59 : decode cX9_bestMinute 59 = .ok (.iconst 0, 1) := by decide +kernel
theorem dX9_bestMinute_60 : decode cX9_bestMinute 60 = .ok (.istore 6, 2) := by decide +kernel
theorem dX9_bestMinute_62 : decode cX9_bestMinute 62 = .ok (.iconst 1, 1) := by decide +kernel
theorem dX9_bestMinute_63 : decode cX9_bestMinute 63 = .ok (.istore 7, 2) := by decide +kernel
theorem dX9_bestMinute_65 : decode cX9_bestMinute 65 = .ok (.iload 7, 2) := by decide +kernel
theorem dX9_bestMinute_67 : decode cX9_bestMinute 67 = .ok (.sipush 600, 3) := by decide +kernel
theorem dX9_bestMinute_70 : decode cX9_bestMinute 70 = .ok (.if_icmp .ge 44, 3) := by decide +kernel
theorem dX9_bestMinute_73 : decode cX9_bestMinute 73 = .ok (.aload_n 0, 1) := by decide +kernel
theorem dX9_bestMinute_74 : decode cX9_bestMinute 74 = .ok (.getfield 79, 3) := by decide +kernel
theorem dX9_bestMinute_77 : decode cX9_bestMinute 77 = .ok (.iload 7, 2) := by decide +kernel
theorem dX9_bestMinute_79 : decode cX9_bestMinute 79 = .ok (.iaload, 1) := by decide +kernel
theorem dX9_bestMinute_80 : decode cX9_bestMinute 80 = .ok (.iload_n 3, 1) := by decide +kernel
theorem dX9_bestMinute_81 : decode cX9_bestMinute 81 = .ok (.bipush 100, 2) := by decide +kernel
theorem dX9_bestMinute_83 : decode cX9_bestMinute 83 = .ok (.idiv, 1) := by decide +kernel
theorem dX9_bestMinute_84 : decode cX9_bestMinute 84 = .ok (.invokestatic 264, 3) := by decide +kernel
theorem dX9_bestMinute_87 : decode cX9_bestMinute 87 = .ok (.aload_n 0, 1) := by decide +kernel
theorem dX9_bestMinute_88 : decode cX9_bestMinute 88 = .ok (.getfield 79, 3) := by decide +kernel
theorem dX9_bestMinute_91 : decode cX9_bestMinute 91 = .ok (.iload 6, 2) := by decide +kernel
theorem dX9_bestMinute_93 : decode cX9_bestMinute 93 = .ok (.iaload, 1) := by decide +kernel
theorem dX9_bestMinute_94 : decode cX9_bestMinute 94 = .ok (.iload_n 3, 1) := by decide +kernel
theorem dX9_bestMinute_95 : decode cX9_bestMinute 95 = .ok (.bipush 100, 2) := by decide +kernel
theorem dX9_bestMinute_97 : decode cX9_bestMinute 97 = .ok (.idiv, 1) := by decide +kernel
theorem dX9_bestMinute_98 : decode cX9_bestMinute 98 = .ok (.invokestatic 264, 3) := by decide +kernel
theorem dX9_bestMinute_101 : decode cX9_bestMinute 101 = .ok (.if_icmp .le 7, 3) := by decide +kernel
theorem dX9_bestMinute_104 : decode cX9_bestMinute 104 = .ok (.iload 7, 2) := by decide +kernel
theorem dX9_bestMinute_106 : decode cX9_bestMinute 106 = .ok (.istore 6, 2) := by decide +kernel
theorem dX9_bestMinute_108 : decode cX9_bestMinute 108 = .ok (.iinc 7 1, 3) := by decide +kernel
theorem dX9_bestMinute_111 : decode cX9_bestMinute 111 = .ok (.goto (-46), 3) := by decide +kernel
theorem dX9_bestMinute_114 : decode cX9_bestMinute 114 = .ok (.iload 4, 2) := by decide +kernel
theorem dX9_bestMinute_116 : decode cX9_bestMinute 116 = .ok (.ifCond .ne 8, 3) := by decide +kernel
theorem dX9_bestMinute_119 : decode cX9_bestMinute 119 = .ok (.iload 6, 2) := by decide +kernel
theorem dX9_bestMinute_121 : decode cX9_bestMinute 121 = .ok (.goto 17, 3) := by decide +kernel
theorem dX9_bestMinute_124 : decode cX9_bestMinute 124 = .ok (.aload_n 0, 1) := by decide +kernel
theorem dX9_bestMinute_125 : decode cX9_bestMinute 125 = .ok (.getfield 79, 3) := by decide +kernel
theorem dX9_bestMinute_128 : decode cX9_bestMinute 128 = .ok (.iload 6, 2) := by decide +kernel
theorem dX9_bestMinute_130 : decode cX9_bestMinute 130 = .ok (.iaload, 1) := by decide +kernel
theorem dX9_bestMinute_131 : decode cX9_bestMinute 131 = .ok (.iload_n 3, 1) := by decide +kernel
theorem dX9_bestMinute_132 : decode cX9_bestMinute 132 = .ok (.bipush 100, 2) := by decide +kernel
theorem dX9_bestMinute_134 : decode cX9_bestMinute 134 = .ok (.idiv, 1) := by decide +kernel
theorem dX9_bestMinute_135 : decode cX9_bestMinute 135 = .ok (.invokestatic 264, 3) := by decide +kernel
theorem dX9_bestMinute_138 : decode cX9_bestMinute 138 = .ok (.ireturn, 1) := by decide +kernel
set_option maxRecDepth 20000 in
theorem dX9_mix_0 : decode cX9_mix 0 = .ok (.iload_n 1, 1) := by decide +kernel
theorem dX9_mix_1 : decode cX9_mix 1 = .ok (.invokestatic 102, 3) := by decide +kernel
theorem dX9_mix_4 : decode cX9_mix 4 = .ok (.ifCond .eq 21, 3) := by decide +kernel
theorem dX9_mix_7 : decode cX9_mix 7 = .ok (.aload_n 0, 1) := by decide +kernel
theorem dX9_mix_8 : decode cX9_mix 8 = .ok (.getfield 10, 3) := by decide +kernel
theorem dX9_mix_11 : decode cX9_mix 11 = .ok (.iload_n 2, 1) := by decide +kernel
theorem dX9_mix_12 : decode cX9_mix 12 = .ok (.invokevirtual 134, 3) := by decide +kernel
theorem dX9_mix_15 : decode cX9_mix 15 = .ok (.ifCond .eq 10, 3) := by decide +kernel
theorem dX9_mix_18 : decode cX9_mix 18 = .ok (.iload_n 3, 1) := by decide +kernel
theorem dX9_mix_19 : decode cX9_mix 19 = .ok (.invokestatic 234, 3) := by decide +kernel
theorem dX9_mix_22 : decode cX9_mix 22 = .ok (.ifCond .ne 5, 3) := by decide +kernel
theorem dX9_mix_25 : decode cX9_mix 25 = .ok (.iconst (-1), 1) := by decide +kernel
theorem dX9_mix_26 : decode cX9_mix 26 = .ok (.ireturn, 1) := by decide +kernel
theorem dX9_mix_27 : decode cX9_mix 27 = .ok (.aload_n 0, 1) := by decide +kernel
theorem dX9_mix_28 : decode cX9_mix 28 = .ok (.iload_n 1, 1) := by decide +kernel
theorem dX9_mix_29 : decode cX9_mix 29 = .ok (.invokevirtual 257, 3) := by decide +kernel
theorem dX9_mix_32 : decode cX9_mix 32 = .ok (.istore 4, 2) := by decide +kernel
theorem dX9_mix_34 : decode cX9_mix 34 = .ok (.iload 4, 2) := by decide +kernel
theorem dX9_mix_36 : decode cX9_mix 36 = .ok (.ifCond .ge 6, 3) := by decide +kernel
theorem dX9_mix_39 : decode cX9_mix 39 = .ok (.iload 4, 2) := by decide +kernel
theorem dX9_mix_41 : decode cX9_mix 41 = .ok (.ireturn, 1) := by decide +kernel
theorem dX9_mix_42 : decode cX9_mix 42 = .ok (.aload_n 0, 1) := by decide +kernel
theorem dX9_mix_43 : decode cX9_mix 43 = .ok (.iload_n 2, 1) := by decide +kernel
theorem dX9_mix_44 : decode cX9_mix 44 = .ok (.iload_n 3, 1) := by decide +kernel
theorem dX9_mix_45 : decode cX9_mix 45 = .ok (.invokevirtual 267, 3) := by decide +kernel
theorem dX9_mix_48 : decode cX9_mix 48 = .ok (.iconst 0, 1) := by decide +kernel
theorem dX9_mix_49 : decode cX9_mix 49 = .ok (.istore 5, 2) := by decide +kernel
theorem dX9_mix_51 : decode cX9_mix 51 = .ok (.iconst 0, 1) := by decide +kernel
theorem dX9_mix_52 : decode cX9_mix 52 = .ok (.istore 6, 2) := by decide +kernel
theorem dX9_mix_54 : decode cX9_mix 54 = .ok (.iload 6, 2) := by decide +kernel
theorem dX9_mix_56 : decode cX9_mix 56 = .ok (.sipush 600, 3) := by decide +kernel
theorem dX9_mix_59 : decode cX9_mix 59 = .ok (.if_icmp .ge 23, 3) := by decide +kernel
theorem dX9_mix_62 : decode cX9_mix 62 = .ok (.iload 5, 2) := by decide +kernel
theorem dX9_mix_64 : decode cX9_mix 64 = .ok (.iconst 1, 1) := by decide +kernel
theorem dX9_mix_65 : decode cX9_mix 65 = .ok (.aload_n 0, 1) := by decide +kernel
theorem dX9_mix_66 : decode cX9_mix 66 = .ok (.getfield 79, 3) := by decide +kernel
theorem dX9_mix_69 : decode cX9_mix 69 = .ok (.iload 6, 2) := by decide +kernel
theorem dX9_mix_71 : decode cX9_mix 71 = .ok (.iaload, 1) := by decide +kernel
theorem dX9_mix_72 : decode cX9_mix 72 = .ok (.ishl, 1) := by decide +kernel
theorem dX9_mix_73 : decode cX9_mix 73 = .ok (.ior, 1) := by decide +kernel
theorem dX9_mix_74 : decode cX9_mix 74 = .ok (.istore 5, 2) := by decide +kernel
theorem dX9_mix_76 : decode cX9_mix 76 = .ok (.iinc 6 1, 3) := by decide +kernel
theorem dX9_mix_79 : decode cX9_mix 79 = .ok (.goto (-25), 3) := by decide +kernel
theorem dX9_mix_82 : decode cX9_mix 82 = .ok (.iconst 0, 1) := by decide +kernel
theorem dX9_mix_83 : decode cX9_mix 83 = .ok (.istore 6, 2) := by decide +kernel
theorem dX9_mix_85 : decode cX9_mix 85 = .ok (.iload 5, 2) := by decide +kernel
theorem dX9_mix_87 : decode cX9_mix 87 = .ok (.iconst 0, 1) := by decide +kernel
theorem dX9_mix_88 : decode cX9_mix 88 = .ok (.invokestatic 271, 3) := by decide +kernel
theorem dX9_mix_91 : decode cX9_mix 91 = .ok (.istore 7, 2) := by decide +kernel
theorem dX9_mix_93 : decode cX9_mix 93 = .ok (.iconst 1, 1) := by decide +kernel
theorem dX9_mix_94 : decode cX9_mix 94 = .ok (.istore 8, 2) := by decide +kernel
theorem dX9_mix_96 : decode cX9_mix 96 = .ok (.iload 8, 2) := by decide +kernel
theorem dX9_mix_98 : decode cX9_mix 98 = .ok (.bipush 12, 2) := by decide +kernel
theorem dX9_mix_100 : decode cX9_mix 100 = .ok (.if_icmp .gt 33, 3) := by decide +kernel
theorem dX9_mix_103 : decode cX9_mix 103 = .ok (.iload 5, 2) := by decide +kernel
theorem dX9_mix_105 : decode cX9_mix 105 = .ok (.iload 8, 2) := by decide +kernel
theorem dX9_mix_107 : decode cX9_mix 107 = .ok (.invokestatic 271, 3) := by decide +kernel
theorem dX9_mix_110 : decode cX9_mix 110 = .ok (.istore 9, 2) := by decide +kernel
theorem dX9_mix_112 : decode cX9_mix 112 = .ok (.iload 9, 2) := by decide +kernel
theorem dX9_mix_114 : decode cX9_mix 114 = .ok (.iload 7, 2) := by decide +kernel
theorem dX9_mix_116 : decode cX9_mix 116 = .ok (.if_icmp .ge 11, 3) := by decide +kernel
theorem dX9_mix_119 : decode cX9_mix 119 = .ok (.iload 8, 2) := by decide +kernel
theorem dX9_mix_121 : decode cX9_mix 121 = .ok (.istore 6, 2) := by decide +kernel
theorem dX9_mix_123 : decode cX9_mix 123 = .ok (.iload 9, 2) := by decide +kernel
theorem dX9_mix_125 : decode cX9_mix 125 = .ok (.istore 7, 2) := by decide +kernel
theorem dX9_mix_127 : decode cX9_mix 127 = .ok (.iinc 8 1, 3) := by decide +kernel
theorem dX9_mix_130 : decode cX9_mix 130 = .ok (.goto (-34), 3) := by decide +kernel
theorem dX9_mix_133 : decode cX9_mix 133 = .ok (.iload 6, 2) := by decide +kernel
theorem dX9_mix_135 : decode cX9_mix 135 = .ok (.ireturn, 1) := by decide +kernel
set_option maxRecDepth 20000 in
theorem dX9_isFree_0 : decode cX9_isFree 0 = .ok (.aload_n 0, 1) := by decide +kernel
theorem dX9_isFree_1 : decode cX9_isFree 1 = .ok (.getfield 51, 3) := by decide +kernel
theorem dX9_isFree_4 : decode cX9_isFree 4 = .ok (.aload_n 1, 1) := by decide +kernel
theorem dX9_isFree_5 : decode cX9_isFree 5 = .ok (.iload_n 2, 1) := by decide +kernel
theorem dX9_isFree_6 : decode cX9_isFree 6 = .ok (.iload_n 3, 1) := by decide +kernel
theorem dX9_isFree_7 : decode cX9_isFree 7 = .ok (.iload 4, 2) := by decide +kernel
theorem dX9_isFree_9 : decode cX9_isFree 9 = .ok (.iadd, 1) := by decide +kernel
theorem dX9_isFree_10 : decode cX9_isFree 10 = .ok (.iconst 1, 1) := by decide +kernel
theorem dX9_isFree_11 : decode cX9_isFree 11 = .ok (.isub, 1) := by decide +kernel
theorem dX9_isFree_12 : decode cX9_isFree 12 = .ok (.invokevirtual 172, 3) := by decide +kernel
theorem dX9_isFree_15 : decode cX9_isFree 15 = .ok (.aload_n 0, 1) := by decide +kernel
theorem dX9_isFree_16 : decode cX9_isFree 16 = .ok (.getfield 51, 3) := by decide +kernel
theorem dX9_isFree_19 : decode cX9_isFree 19 = .ok (.iload_n 3, 1) := by decide +kernel
theorem dX9_isFree_20 : decode cX9_isFree 20 = .ok (.iload 4, 2) := by decide +kernel
theorem dX9_isFree_22 : decode cX9_isFree 22 = .ok (.invokevirtual 240, 3) := by decide +kernel
theorem dX9_isFree_25 : decode cX9_isFree 25 = .ok (.iload_n 3, 1) := by decide +kernel
theorem dX9_isFree_26 : decode cX9_isFree 26 = .ok (.if_icmp .ne 7, 3) := by decide +kernel
theorem dX9_isFree_29 : decode cX9_isFree 29 = .ok (.iconst 1, 1) := by decide +kernel
theorem dX9_isFree_30 : decode cX9_isFree 30 = .ok (.goto 4, 3) := by decide +kernel
theorem dX9_isFree_33 : decode cX9_isFree 33 = .ok (.iconst 0, 1) := by decide +kernel
theorem dX9_isFree_34 : decode cX9_isFree 34 = .ok (.ireturn, 1) := by decide +kernel
set_option maxRecDepth 20000 in
theorem dX9_markFree_0 : decode cX9_markFree 0 = .ok (.iconst 0, 1) := by decide +kernel
theorem dX9_markFree_1 : decode cX9_markFree 1 = .ok (.istore_n 3, 1) := by decide +kernel
theorem dX9_markFree_2 : decode cX9_markFree 2 = .ok (.iload_n 3, 1) := by decide +kernel
theorem dX9_markFree_3 : decode cX9_markFree 3 = .ok (.sipush 600, 3) := by decide +kernel
theorem dX9_markFree_6 : decode cX9_markFree 6 = .ok (.if_icmp .ge 16, 3) := by decide +kernel
theorem dX9_markFree_9 : decode cX9_markFree 9 = .ok (.aload_n 0, 1) := by decide +kernel
theorem dX9_markFree_10 : decode cX9_markFree 10 = .ok (.getfield 79, 3) := by decide +kernel
theorem dX9_markFree_13 : decode cX9_markFree 13 = .ok (.iload_n 3, 1) := by decide +kernel
theorem dX9_markFree_14 : decode cX9_markFree 14 = .ok (.iconst 3, 1) := by decide +kernel
theorem dX9_markFree_15 : decode cX9_markFree 15 = .ok (.iastore, 1) := by decide +kernel
theorem dX9_markFree_16 : decode cX9_markFree 16 = .ok (.iinc 3 1, 3) := by decide +kernel
theorem dX9_markFree_19 : decode cX9_markFree 19 = .ok (.goto (-17), 3) := by decide +kernel
theorem dX9_markFree_22 : decode cX9_markFree 22 = .ok (.aload_n 0, 1) := by decide +kernel
theorem dX9_markFree_23 : decode cX9_markFree 23 = .ok (.getfield 51, 3) := by decide +kernel
theorem dX9_markFree_26 : decode cX9_markFree 26 = .ok (.aload_n 0, 1) := by decide +kernel
theorem dX9_markFree_27 : decode cX9_markFree 27 = .ok (.getfield 41, 3) := by decide +kernel
theorem dX9_markFree_30 : decode cX9_markFree 30 = .ok (.iload_n 1, 1) := by decide +kernel
theorem dX9_markFree_31 : decode cX9_markFree 31 = .ok (.sipush 600, 3) := by decide +kernel
theorem dX9_markFree_34 : decode cX9_markFree 34 = .ok (.iload_n 2, 1) := by decide +kernel
theorem dX9_markFree_35 : decode cX9_markFree 35 = .ok (.iadd, 1) := by decide +kernel
theorem dX9_markFree_36 : decode cX9_markFree 36 = .ok (.iconst 2, 1) := by decide +kernel
theorem dX9_markFree_37 : decode cX9_markFree 37 = .ok (.isub, 1) := by decide +kernel
theorem dX9_markFree_38 : decode cX9_markFree 38 = .ok (.invokevirtual 172, 3) := by decide +kernel
theorem dX9_markFree_41 : decode cX9_markFree 41 = .ok (.aload_n 0, 1) := by decide +kernel
theorem dX9_markFree_42 : decode cX9_markFree 42 = .ok (.getfield 51, 3) := by decide +kernel
theorem dX9_markFree_45 : decode cX9_markFree 45 = .ok (.aload_n 0, 1) := by decide +kernel
theorem dX9_markFree_46 : decode cX9_markFree 46 = .ok (.getfield 79, 3) := by decide +kernel
theorem dX9_markFree_49 : decode cX9_markFree 49 = .ok (.iload_n 2, 1) := by decide +kernel
theorem dX9_markFree_50 : decode cX9_markFree 50 = .ok (.iconst 1, 1) := by decide +kernel
theorem dX9_markFree_51 : decode cX9_markFree 51 = .ok (.invokevirtual 274, 3) := by decide +kernel
theorem dX9_markFree_54 : decode cX9_markFree 54 = .ok (.aload_n 0, 1) := by decide +kernel
theorem dX9_markFree_55 : decode cX9_markFree 55 = .ok (.getfield 51, 3) := by decide +kernel
theorem dX9_markFree_58 : decode cX9_markFree 58 = .ok (.aload_n 0, 1) := by decide +kernel
theorem dX9_markFree_59 : decode cX9_markFree 59 = .ok (.getfield 45, 3) := by decide +kernel
theorem dX9_markFree_62 : decode cX9_markFree 62 = .ok (.iload_n 1, 1) := by decide +kernel
theorem dX9_markFree_63 : decode cX9_markFree 63 = .ok (.sipush 600, 3) := by decide +kernel
theorem dX9_markFree_66 : decode cX9_markFree 66 = .ok (.iload_n 2, 1) := by decide +kernel
theorem dX9_markFree_67 : decode cX9_markFree 67 = .ok (.iadd, 1) := by decide +kernel
theorem dX9_markFree_68 : decode cX9_markFree 68 = .ok (.iconst 2, 1) := by decide +kernel
theorem dX9_markFree_69 : decode cX9_markFree 69 = .ok (.isub, 1) := by decide +kernel
theorem dX9_markFree_70 : decode cX9_markFree 70 = .ok (.invokevirtual 172, 3) := by decide +kernel
theorem dX9_markFree_73 : decode cX9_markFree 73 = .ok (.aload_n 0, 1) := by decide +kernel
theorem dX9_markFree_74 : decode cX9_markFree 74 = .ok (.getfield 51, 3) := by decide +kernel
theorem dX9_markFree_77 : decode cX9_markFree 77 = .ok (.aload_n 0, 1) := by decide +kernel
theorem dX9_markFree_78 : decode cX9_markFree 78 = .ok (.getfield 79, 3) := by decide +kernel
theorem dX9_markFree_81 : decode cX9_markFree 81 = .ok (.iload_n 2, 1) := by decide +kernel
theorem dX9_markFree_82 : decode cX9_markFree 82 = .ok (.iconst 2, 1) := by decide +kernel
theorem dX9_markFree_83 : decode cX9_markFree 83 = .ok (.invokevirtual 274, 3) := by decide +kernel
theorem dX9_markFree_86 : decode cX9_markFree 86 = .ok (.return_, 1) := by decide +kernel
set_option maxRecDepth 20000 in
theorem dX9_greatestTwelfths_0 : decode cX9_greatestTwelfths 0 = .ok (.iconst 0, 1) := by decide +kernel
theorem dX9_greatestTwelfths_1 : decode cX9_greatestTwelfths 1 = .ok (.istore_n 2, 1) := by decide +kernel
theorem dX9_greatestTwelfths_2 : decode cX9_greatestTwelfths 2 = .ok (.iconst 0, 1) := by decide +kernel
theorem dX9_greatestTwelfths_3 : decode cX9_greatestTwelfths 3 = .ok (.istore_n 3, 1) := by decide +kernel
theorem dX9_greatestTwelfths_4 : decode cX9_greatestTwelfths 4 = .ok (.iload_n 3, 1) := by decide +kernel
theorem dX9_greatestTwelfths_5 : decode cX9_greatestTwelfths 5 = .ok (.iconst 4, 1) := by decide +kernel
theorem dX9_greatestTwelfths_6 : decode cX9_greatestTwelfths 6 = .ok (.if_icmp .ge 27, 3) := by decide +kernel
theorem dX9_greatestTwelfths_9 : decode cX9_greatestTwelfths 9 = .ok (.iload_n 0, 1) := by decide +kernel
theorem dX9_greatestTwelfths_10 : decode cX9_greatestTwelfths 10 = .ok (.iload_n 3, 1) := by decide +kernel
theorem dX9_greatestTwelfths_11 : decode cX9_greatestTwelfths 11 = .ok (.ishr, 1) := by decide +kernel
theorem dX9_greatestTwelfths_12 : decode cX9_greatestTwelfths 12 = .ok (.iconst 1, 1) := by decide +kernel
theorem dX9_greatestTwelfths_13 : decode cX9_greatestTwelfths 13 = .ok (.iand, 1) := by decide +kernel
theorem dX9_greatestTwelfths_14 : decode cX9_greatestTwelfths 14 = .ok (.ifCond .eq 13, 3) := by decide +kernel
theorem dX9_greatestTwelfths_17 : decode cX9_greatestTwelfths 17 = .ok (.iload_n 2, 1) := by decide +kernel
theorem dX9_greatestTwelfths_18 : decode cX9_greatestTwelfths 18 = .ok (.iload_n 3, 1) := by decide +kernel
theorem dX9_greatestTwelfths_19 : decode cX9_greatestTwelfths 19 = .ok (.iload_n 1, 1) := by decide +kernel
theorem dX9_greatestTwelfths_20 : decode cX9_greatestTwelfths 20 = .ok (.invokestatic 264, 3) := by decide +kernel
theorem dX9_greatestTwelfths_23 : decode cX9_greatestTwelfths 23 = .ok (.invokestatic 249, 3) := by decide +kernel
theorem dX9_greatestTwelfths_26 : decode cX9_greatestTwelfths 26 = .ok (.istore_n 2, 1) := by decide +kernel
theorem dX9_greatestTwelfths_27 : decode cX9_greatestTwelfths 27 = .ok (.iinc 3 1, 3) := by decide +kernel
theorem dX9_greatestTwelfths_30 : decode cX9_greatestTwelfths 30 = .ok (.goto (-26), 3) := by decide +kernel
theorem dX9_greatestTwelfths_33 : decode cX9_greatestTwelfths 33 = .ok (.iload_n 2, 1) := by decide +kernel
theorem dX9_greatestTwelfths_34 : decode cX9_greatestTwelfths 34 = .ok (.ireturn, 1) := by decide +kernel
theorem dX9_twelfths_0 : decode cX9_twelfths 0 = .ok (.iload_n 0, 1) := by decide +kernel
theorem dX9_twelfths_1 : decode cX9_twelfths 1 = .ok (.iconst 1, 1) := by decide +kernel
theorem dX9_twelfths_2 : decode cX9_twelfths 2 = .ok (.iand, 1) := by decide +kernel
theorem dX9_twelfths_3 : decode cX9_twelfths 3 = .ok (.ifCond .eq 7, 3) := by decide +kernel
theorem dX9_twelfths_6 : decode cX9_twelfths 6 = .ok (.iload_n 1, 1) := by decide +kernel
theorem dX9_twelfths_7 : decode cX9_twelfths 7 = .ok (.goto 4, 3) := by decide +kernel
theorem dX9_twelfths_10 : decode cX9_twelfths 10 = .ok (.iconst 0, 1) := by decide +kernel
theorem dX9_twelfths_11 : decode cX9_twelfths 11 = .ok (.iload_n 0, 1) := by decide +kernel
theorem dX9_twelfths_12 : decode cX9_twelfths 12 = .ok (.iconst 2, 1) := by decide +kernel
theorem dX9_twelfths_13 : decode cX9_twelfths 13 = .ok (.iand, 1) := by decide +kernel
theorem dX9_twelfths_14 : decode cX9_twelfths 14 = .ok (.ifCond .eq 10, 3) := by decide +kernel
theorem dX9_twelfths_17 : decode cX9_twelfths 17 = .ok (.bipush 12, 2) := by decide +kernel
theorem dX9_twelfths_19 : decode cX9_twelfths 19 = .ok (.iload_n 1, 1) := by decide +kernel
theorem dX9_twelfths_20 : decode cX9_twelfths 20 = .ok (.isub, 1) := by decide +kernel
theorem dX9_twelfths_21 : decode cX9_twelfths 21 = .ok (.goto 4, 3) := by decide +kernel
theorem dX9_twelfths_24 : decode cX9_twelfths 24 = .ok (.iconst 0, 1) := by decide +kernel
theorem dX9_twelfths_25 : decode cX9_twelfths 25 = .ok (.iadd, 1) := by decide +kernel
theorem dX9_twelfths_26 : decode cX9_twelfths 26 = .ok (.ireturn, 1) := by decide +kernel
set_option maxRecDepth 20000 in
theorem dX9_paper_0 : decode cX9_paper 0 = .ok (.iload_n 1, 1) := by decide +kernel
theorem dX9_paper_1 : decode cX9_paper 1 = .ok (.invokestatic 102, 3) := by decide +kernel
theorem dX9_paper_4 : decode cX9_paper 4 = .ok (.ifCond .eq 12, 3) := by decide +kernel
theorem dX9_paper_7 : decode cX9_paper 7 = .ok (.iload_n 2, 1) := by decide +kernel
theorem dX9_paper_8 : decode cX9_paper 8 = .ok (.ifCond .lt 8, 3) := by decide +kernel
theorem dX9_paper_11 : decode cX9_paper 11 = .ok (.iload_n 2, 1) := by decide +kernel
theorem dX9_paper_12 : decode cX9_paper 12 = .ok (.iconst 3, 1) := by decide +kernel
theorem dX9_paper_13 : decode cX9_paper 13 = .ok (.if_icmp .le 5, 3) := by decide +kernel
theorem dX9_paper_16 : decode cX9_paper 16 = .ok (.iconst (-1), 1) := by decide +kernel
theorem dX9_paper_17 : decode cX9_paper 17 = .ok (.ireturn, 1) := by decide +kernel
theorem dX9_paper_18 : decode cX9_paper 18 = .ok (.aload_n 0, 1) := by decide +kernel
theorem dX9_paper_19 : decode cX9_paper 19 = .ok (.getfield 32, 3) := by decide +kernel
theorem dX9_paper_22 : decode cX9_paper 22 = .ok (.iload_n 1, 1) := by decide +kernel
theorem dX9_paper_23 : decode cX9_paper 23 = .ok (.aaload, 1) := by decide +kernel
theorem dX9_paper_24 : decode cX9_paper 24 = .ok (.astore_n 3, 1) := by decide +kernel
theorem dX9_paper_25 : decode cX9_paper 25 = .ok (.aload_n 3, 1) := by decide +kernel
theorem dX9_paper_26 : decode cX9_paper 26 = .ok (.iconst 1, 1) := by decide +kernel
theorem dX9_paper_27 : decode cX9_paper 27 = .ok (.invokevirtual 106, 3) := by decide +kernel
theorem dX9_paper_30 : decode cX9_paper 30 = .ok (.istore 4, 2) := by decide +kernel
theorem dX9_paper_32 : decode cX9_paper 32 = .ok (.iload 4, 2) := by decide +kernel
theorem dX9_paper_34 : decode cX9_paper 34 = .ok (.ifCond .ge 6, 3) := by decide +kernel
theorem dX9_paper_37 : decode cX9_paper 37 = .ok (.iload 4, 2) := by decide +kernel
theorem dX9_paper_39 : decode cX9_paper 39 = .ok (.ireturn, 1) := by decide +kernel
theorem dX9_paper_40 : decode cX9_paper 40 = .ok (.iload_n 2, 1) := by decide +kernel
theorem dX9_paper_41 : decode cX9_paper 41 = .ok (.tableswitch 45 0 2 #[27, 33, 39], 27) := by decide +kernel
theorem dX9_paper_68 : decode cX9_paper 68 = .ok (.aload_n 0, 1) := by decide +kernel
theorem dX9_paper_69 : decode cX9_paper 69 = .ok (.aload_n 3, 1) := by decide +kernel
theorem dX9_paper_70 : decode cX9_paper 70 = .ok (.invokevirtual 278, 3) := by decide +kernel
theorem dX9_paper_73 : decode cX9_paper 73 = .ok (.ireturn, 1) := by decide +kernel
theorem dX9_paper_74 : decode cX9_paper 74 = .ok (.aload_n 0, 1) := by decide +kernel
theorem dX9_paper_75 : decode cX9_paper 75 = .ok (.aload_n 3, 1) := by decide +kernel
theorem dX9_paper_76 : decode cX9_paper 76 = .ok (.invokevirtual 282, 3) := by decide +kernel
theorem dX9_paper_79 : decode cX9_paper 79 = .ok (.ireturn, 1) := by decide +kernel
theorem dX9_paper_80 : decode cX9_paper 80 = .ok (.aload_n 0, 1) := by decide +kernel
theorem dX9_paper_81 : decode cX9_paper 81 = .ok (.aload_n 3, 1) := by decide +kernel
theorem dX9_paper_82 : decode cX9_paper 82 = .ok (.invokevirtual 285, 3) := by decide +kernel
theorem dX9_paper_85 : decode cX9_paper 85 = .ok (.ireturn, 1) := by decide +kernel
theorem dX9_paper_86 : decode cX9_paper 86 = .ok (.aload_n 0, 1) := by decide +kernel
theorem dX9_paper_87 : decode cX9_paper 87 = .ok (.aload_n 3, 1) := by decide +kernel
theorem dX9_paper_88 : decode cX9_paper 88 = .ok (.invokevirtual 288, 3) := by decide +kernel
theorem dX9_paper_91 : decode cX9_paper 91 = .ok (.ireturn, 1) := by decide +kernel
set_option maxRecDepth 20000 in
theorem dX9_firstThatCannotBe_0 : decode cX9_firstThatCannotBe 0 = .ok (.aload_n 1, 1) := by decide +kernel
theorem dX9_firstThatCannotBe_1 : decode cX9_firstThatCannotBe 1 = .ok (.invokevirtual 291, 3) := by decide +kernel
theorem dX9_firstThatCannotBe_4 : decode cX9_firstThatCannotBe 4 = .ok (.istore_n 2, 1) := by decide +kernel
theorem dX9_firstThatCannotBe_5 : decode cX9_firstThatCannotBe 5 = .ok (.iconst 0, 1) := by decide +kernel
theorem dX9_firstThatCannotBe_6 : decode cX9_firstThatCannotBe 6 = .ok (.istore_n 3, 1) := by decide +kernel
theorem dX9_firstThatCannotBe_7 : decode cX9_firstThatCannotBe 7 = .ok (.iload_n 3, 1) := by decide +kernel
theorem dX9_firstThatCannotBe_8 : decode cX9_firstThatCannotBe 8 = .ok (.iload_n 2, 1) := by decide +kernel
theorem dX9_firstThatCannotBe_9 : decode cX9_firstThatCannotBe 9 = .ok (.if_icmp .ge 20, 3) := by decide +kernel
theorem dX9_firstThatCannotBe_12 : decode cX9_firstThatCannotBe 12 = .ok (.aload_n 0, 1) := by decide +kernel
theorem dX9_firstThatCannotBe_13 : decode cX9_firstThatCannotBe 13 = .ok (.aload_n 1, 1) := by decide +kernel
theorem dX9_firstThatCannotBe_14 : decode cX9_firstThatCannotBe 14 = .ok (.iload_n 3, 1) := by decide +kernel
theorem dX9_firstThatCannotBe_15 : decode cX9_firstThatCannotBe 15 = .ok (.invokevirtual 294, 3) := by decide +kernel
theorem dX9_firstThatCannotBe_18 : decode cX9_firstThatCannotBe 18 = .ok (.ifCond .ge 5, 3) := by decide +kernel
theorem dX9_firstThatCannotBe_21 : decode cX9_firstThatCannotBe 21 = .ok (.iload_n 3, 1) := by decide +kernel
theorem dX9_firstThatCannotBe_22 : decode cX9_firstThatCannotBe 22 = .ok (.ireturn, 1) := by decide +kernel
theorem dX9_firstThatCannotBe_23 : decode cX9_firstThatCannotBe 23 = .ok (.iinc 3 1, 3) := by decide +kernel
theorem dX9_firstThatCannotBe_26 : decode cX9_firstThatCannotBe 26 = .ok (.goto (-19), 3) := by decide +kernel
theorem dX9_firstThatCannotBe_29 : decode cX9_firstThatCannotBe 29 = .ok (.bipush (-2), 2) := by decide +kernel
theorem dX9_firstThatCannotBe_31 : decode cX9_firstThatCannotBe 31 = .ok (.ireturn, 1) := by decide +kernel
set_option maxRecDepth 20000 in
theorem dX9_slept_0 : decode cX9_slept 0 = .ok (.aload_n 1, 1) := by decide +kernel
theorem dX9_slept_1 : decode cX9_slept 1 = .ok (.invokevirtual 291, 3) := by decide +kernel
theorem dX9_slept_4 : decode cX9_slept 4 = .ok (.istore_n 2, 1) := by decide +kernel
theorem dX9_slept_5 : decode cX9_slept 5 = .ok (.iconst 0, 1) := by decide +kernel
theorem dX9_slept_6 : decode cX9_slept 6 = .ok (.istore_n 3, 1) := by decide +kernel
theorem dX9_slept_7 : decode cX9_slept 7 = .ok (.iconst 0, 1) := by decide +kernel
theorem dX9_slept_8 : decode cX9_slept 8 = .ok (.istore 4, 2) := by decide +kernel
theorem dX9_slept_10 : decode cX9_slept 10 = .ok (.iload 4, 2) := by decide +kernel
theorem dX9_slept_12 : decode cX9_slept 12 = .ok (.iload_n 2, 1) := by decide +kernel
theorem dX9_slept_13 : decode cX9_slept 13 = .ok (.if_icmp .ge 31, 3) := by decide +kernel
theorem dX9_slept_16 : decode cX9_slept 16 = .ok (.aload_n 0, 1) := by decide +kernel
theorem dX9_slept_17 : decode cX9_slept 17 = .ok (.aload_n 1, 1) := by decide +kernel
theorem dX9_slept_18 : decode cX9_slept 18 = .ok (.iload 4, 2) := by decide +kernel
theorem dX9_slept_20 : decode cX9_slept 20 = .ok (.invokevirtual 294, 3) := by decide +kernel
theorem dX9_slept_23 : decode cX9_slept 23 = .ok (.istore 5, 2) := by decide +kernel
theorem dX9_slept_25 : decode cX9_slept 25 = .ok (.iload 5, 2) := by decide +kernel
theorem dX9_slept_27 : decode cX9_slept 27 = .ok (.ifCond .ge 6, 3) := by decide +kernel
theorem dX9_slept_30 : decode cX9_slept 30 = .ok (.goto 14, 3) := by decide +kernel
theorem dX9_slept_33 : decode cX9_slept 33 = .ok (.iload_n 3, 1) := by decide +kernel
theorem dX9_slept_34 : decode cX9_slept 34 = .ok (.iload 5, 2) := by decide +kernel
theorem dX9_slept_36 : decode cX9_slept 36 = .ok (.iadd, 1) := by decide +kernel
theorem dX9_slept_37 : decode cX9_slept 37 = .ok (.istore_n 3, 1) := by decide +kernel
theorem dX9_slept_38 : decode cX9_slept 38 = .ok (.iinc 4 1, 3) := by decide +kernel
theorem dX9_slept_41 : decode cX9_slept 41 = .ok (.goto (-31), 3) := by decide +kernel
theorem dX9_slept_44 : decode cX9_slept 44 = .ok (.iload_n 3, 1) := by decide +kernel
theorem dX9_slept_45 : decode cX9_slept 45 = .ok (.ireturn, 1) := by decide +kernel
set_option maxRecDepth 20000 in
theorem dX9_whereMostSlept_0 : decode cX9_whereMostSlept 0 = .ok (.aload_n 1, 1) := by decide +kernel
theorem dX9_whereMostSlept_1 : decode cX9_whereMostSlept 1 = .ok (.invokevirtual 291, 3) := by decide +kernel
theorem dX9_whereMostSlept_4 : decode cX9_whereMostSlept 4 = .ok (.istore_n 2, 1) := by decide +kernel
theorem dX9_whereMostSlept_5 : decode cX9_whereMostSlept 5 = .ok (.iconst 0, 1) := by decide +kernel
theorem dX9_whereMostSlept_6 : decode cX9_whereMostSlept 6 = .ok (.istore_n 3, 1) := by decide +kernel
theorem dX9_whereMostSlept_7 : decode cX9_whereMostSlept 7 = .ok (.bipush (-2), 2) := by decide +kernel
theorem dX9_whereMostSlept_9 : decode cX9_whereMostSlept 9 = .ok (.istore 4, 2) := by decide +kernel
theorem dX9_whereMostSlept_11 : decode cX9_whereMostSlept 11 = .ok (.iconst 0, 1) := by decide +kernel
theorem dX9_whereMostSlept_12 : decode cX9_whereMostSlept 12 = .ok (.istore 5, 2) := by decide +kernel
theorem dX9_whereMostSlept_14 : decode cX9_whereMostSlept 14 = .ok (.iload 5, 2) := by decide +kernel
theorem dX9_whereMostSlept_16 : decode cX9_whereMostSlept 16 = .ok (.iload_n 2, 1) := by decide +kernel
theorem dX9_whereMostSlept_17 : decode cX9_whereMostSlept 17 = .ok (.if_icmp .ge 39, 3) := by decide +kernel
theorem dX9_whereMostSlept_20 : decode cX9_whereMostSlept 20 = .ok (.aload_n 0, 1) := by decide +kernel
theorem dX9_whereMostSlept_21 : decode cX9_whereMostSlept 21 = .ok (.aload_n 1, 1) := by decide +kernel
theorem dX9_whereMostSlept_22 : decode cX9_whereMostSlept 22 = .ok (.iload 5, 2) := by decide +kernel
theorem dX9_whereMostSlept_24 : decode cX9_whereMostSlept 24 = .ok (.invokevirtual 294, 3) := by decide +kernel
theorem dX9_whereMostSlept_27 : decode cX9_whereMostSlept 27 = .ok (.istore 6, 2) := by decide +kernel
theorem dX9_whereMostSlept_29 : decode cX9_whereMostSlept 29 = .ok (.iload 6, 2) := by decide +kernel
theorem dX9_whereMostSlept_31 : decode cX9_whereMostSlept 31 = .ok (.ifCond .ge 6, 3) := by decide +kernel
theorem dX9_whereMostSlept_34 : decode cX9_whereMostSlept 34 = .ok (.goto 22, 3) := by decide +kernel
theorem dX9_whereMostSlept_37 : decode cX9_whereMostSlept 37 = .ok (.iload 6, 2) := by decide +kernel
theorem dX9_whereMostSlept_39 : decode cX9_whereMostSlept 39 = .ok (.iload_n 3, 1) := by decide +kernel
theorem dX9_whereMostSlept_40 : decode cX9_whereMostSlept 40 = .ok (.if_icmp .le 10, 3) := by decide +kernel
theorem dX9_whereMostSlept_43 : decode cX9_whereMostSlept 43 = .ok (.iload 6, 2) := by decide +kernel
theorem dX9_whereMostSlept_45 : decode cX9_whereMostSlept 45 = .ok (.istore_n 3, 1) := by decide +kernel
theorem dX9_whereMostSlept_46 : decode cX9_whereMostSlept 46 = .ok (.iload 5, 2) := by decide +kernel
theorem dX9_whereMostSlept_48 : decode cX9_whereMostSlept 48 = .ok (.istore 4, 2) := by decide +kernel
theorem dX9_whereMostSlept_50 : decode cX9_whereMostSlept 50 = .ok (.iinc 5 1, 3) := by decide +kernel
theorem dX9_whereMostSlept_53 : decode cX9_whereMostSlept 53 = .ok (.goto (-39), 3) := by decide +kernel
theorem dX9_whereMostSlept_56 : decode cX9_whereMostSlept 56 = .ok (.iload 4, 2) := by decide +kernel
theorem dX9_whereMostSlept_58 : decode cX9_whereMostSlept 58 = .ok (.ireturn, 1) := by decide +kernel
set_option maxRecDepth 20000 in
theorem dX9_forged_0 : decode cX9_forged 0 = .ok (.aload_n 1, 1) := by decide +kernel
theorem dX9_forged_1 : decode cX9_forged 1 = .ok (.invokevirtual 291, 3) := by decide +kernel
theorem dX9_forged_4 : decode cX9_forged 4 = .ok (.istore_n 2, 1) := by decide +kernel
theorem dX9_forged_5 : decode cX9_forged 5 = .ok (.iconst 0, 1) := by decide +kernel
theorem dX9_forged_6 : decode cX9_forged 6 = .ok (.istore_n 3, 1) := by decide +kernel
theorem dX9_forged_7 : decode cX9_forged 7 = .ok (.iconst 0, 1) := by decide +kernel
theorem dX9_forged_8 : decode cX9_forged 8 = .ok (.istore 4, 2) := by decide +kernel
theorem dX9_forged_10 : decode cX9_forged 10 = .ok (.iload 4, 2) := by decide +kernel
theorem dX9_forged_12 : decode cX9_forged 12 = .ok (.iload_n 2, 1) := by decide +kernel
theorem dX9_forged_13 : decode cX9_forged 13 = .ok (.if_icmp .ge 22, 3) := by decide +kernel
theorem dX9_forged_16 : decode cX9_forged 16 = .ok (.aload_n 0, 1) := by decide +kernel
theorem dX9_forged_17 : decode cX9_forged 17 = .ok (.aload_n 1, 1) := by decide +kernel
theorem dX9_forged_18 : decode cX9_forged 18 = .ok (.iload 4, 2) := by decide +kernel
theorem dX9_forged_20 : decode cX9_forged 20 = .ok (.invokevirtual 294, 3) := by decide +kernel
theorem dX9_forged_23 : decode cX9_forged 23 = .ok (.ifCond .ge 6, 3) := by decide +kernel
theorem dX9_forged_26 : decode cX9_forged 26 = .ok (.iinc 3 1, 3) := by decide +kernel
theorem dX9_forged_29 : decode cX9_forged 29 = .ok (.iinc 4 1, 3) := by decide +kernel
theorem dX9_forged_32 : decode cX9_forged 32 = .ok (.goto (-22), 3) := by decide +kernel
theorem dX9_forged_35 : decode cX9_forged 35 = .ok (.iload_n 3, 1) := by decide +kernel
theorem dX9_forged_36 : decode cX9_forged 36 = .ok (.ireturn, 1) := by decide +kernel
set_option maxRecDepth 20000 in
theorem dX9_spare_0 : decode cX9_spare 0 = .ok (.iconst 2, 1) := by decide +kernel
theorem dX9_spare_1 : decode cX9_spare 1 = .ok (.iload_n 2, 1) := by decide +kernel
theorem dX9_spare_2 : decode cX9_spare 2 = .ok (.imul, 1) := by decide +kernel
theorem dX9_spare_3 : decode cX9_spare 3 = .ok (.istore_n 3, 1) := by decide +kernel
theorem dX9_spare_4 : decode cX9_spare 4 = .ok (.aload_n 1, 1) := by decide +kernel
theorem dX9_spare_5 : decode cX9_spare 5 = .ok (.iload_n 3, 1) := by decide +kernel
theorem dX9_spare_6 : decode cX9_spare 6 = .ok (.invokevirtual 119, 3) := by decide +kernel
theorem dX9_spare_9 : decode cX9_spare 9 = .ok (.l2i, 1) := by decide +kernel
theorem dX9_spare_10 : decode cX9_spare 10 = .ok (.istore 4, 2) := by decide +kernel
theorem dX9_spare_12 : decode cX9_spare 12 = .ok (.iload_n 3, 1) := by decide +kernel
theorem dX9_spare_13 : decode cX9_spare 13 = .ok (.iconst 1, 1) := by decide +kernel
theorem dX9_spare_14 : decode cX9_spare 14 = .ok (.iadd, 1) := by decide +kernel
theorem dX9_spare_15 : decode cX9_spare 15 = .ok (.aload_n 1, 1) := by decide +kernel
theorem dX9_spare_16 : decode cX9_spare 16 = .ok (.getfield 118, 3) := by decide +kernel
theorem dX9_spare_19 : decode cX9_spare 19 = .ok (.if_icmp .ge 15, 3) := by decide +kernel
theorem dX9_spare_22 : decode cX9_spare 22 = .ok (.aload_n 0, 1) := by decide +kernel
theorem dX9_spare_23 : decode cX9_spare 23 = .ok (.getfield 10, 3) := by decide +kernel
theorem dX9_spare_26 : decode cX9_spare 26 = .ok (.iload 4, 2) := by decide +kernel
theorem dX9_spare_28 : decode cX9_spare 28 = .ok (.invokevirtual 134, 3) := by decide +kernel
theorem dX9_spare_31 : decode cX9_spare 31 = .ok (.ifCond .ne 5, 3) := by decide +kernel
theorem dX9_spare_34 : decode cX9_spare 34 = .ok (.iconst (-1), 1) := by decide +kernel
theorem dX9_spare_35 : decode cX9_spare 35 = .ok (.ireturn, 1) := by decide +kernel
theorem dX9_spare_36 : decode cX9_spare 36 = .ok (.aload_n 0, 1) := by decide +kernel
theorem dX9_spare_37 : decode cX9_spare 37 = .ok (.getfield 10, 3) := by decide +kernel
theorem dX9_spare_40 : decode cX9_spare 40 = .ok (.bipush 9, 2) := by decide +kernel
theorem dX9_spare_42 : decode cX9_spare 42 = .ok (.iload 4, 2) := by decide +kernel
theorem dX9_spare_44 : decode cX9_spare 44 = .ok (.invokevirtual 298, 3) := by decide +kernel
theorem dX9_spare_47 : decode cX9_spare 47 = .ok (.istore 5, 2) := by decide +kernel
theorem dX9_spare_49 : decode cX9_spare 49 = .ok (.iload_n 2, 1) := by decide +kernel
theorem dX9_spare_50 : decode cX9_spare 50 = .ok (.ifCond .le 57, 3) := by decide +kernel
theorem dX9_spare_53 : decode cX9_spare 53 = .ok (.aload_n 1, 1) := by decide +kernel
theorem dX9_spare_54 : decode cX9_spare 54 = .ok (.iload_n 3, 1) := by decide +kernel
theorem dX9_spare_55 : decode cX9_spare 55 = .ok (.iconst 2, 1) := by decide +kernel
theorem dX9_spare_56 : decode cX9_spare 56 = .ok (.isub, 1) := by decide +kernel
theorem dX9_spare_57 : decode cX9_spare 57 = .ok (.invokevirtual 119, 3) := by decide +kernel
theorem dX9_spare_60 : decode cX9_spare 60 = .ok (.l2i, 1) := by decide +kernel
theorem dX9_spare_61 : decode cX9_spare 61 = .ok (.istore 6, 2) := by decide +kernel
theorem dX9_spare_63 : decode cX9_spare 63 = .ok (.aload_n 0, 1) := by decide +kernel
theorem dX9_spare_64 : decode cX9_spare 64 = .ok (.getfield 10, 3) := by decide +kernel
theorem dX9_spare_67 : decode cX9_spare 67 = .ok (.iload 6, 2) := by decide +kernel
theorem dX9_spare_69 : decode cX9_spare 69 = .ok (.invokevirtual 134, 3) := by decide +kernel
theorem dX9_spare_72 : decode cX9_spare 72 = .ok (.ifCond .ne 5, 3) := by decide +kernel
theorem dX9_spare_75 : decode cX9_spare 75 = .ok (.iconst (-1), 1) := by decide +kernel
theorem dX9_spare_76 : decode cX9_spare 76 = .ok (.ireturn, 1) := by decide +kernel
theorem dX9_spare_77 : decode cX9_spare 77 = .ok (.aload_n 1, 1) := by decide +kernel
theorem dX9_spare_78 : decode cX9_spare 78 = .ok (.iload_n 3, 1) := by decide +kernel
theorem dX9_spare_79 : decode cX9_spare 79 = .ok (.iconst 1, 1) := by decide +kernel
theorem dX9_spare_80 : decode cX9_spare 80 = .ok (.isub, 1) := by decide +kernel
theorem dX9_spare_81 : decode cX9_spare 81 = .ok (.invokevirtual 119, 3) := by decide +kernel
theorem dX9_spare_84 : decode cX9_spare 84 = .ok (.l2i, 1) := by decide +kernel
theorem dX9_spare_85 : decode cX9_spare 85 = .ok (.aload_n 0, 1) := by decide +kernel
theorem dX9_spare_86 : decode cX9_spare 86 = .ok (.getfield 10, 3) := by decide +kernel
theorem dX9_spare_89 : decode cX9_spare 89 = .ok (.invokevirtual 301, 3) := by decide +kernel
theorem dX9_spare_92 : decode cX9_spare 92 = .ok (.iadd, 1) := by decide +kernel
theorem dX9_spare_93 : decode cX9_spare 93 = .ok (.aload_n 0, 1) := by decide +kernel
theorem dX9_spare_94 : decode cX9_spare 94 = .ok (.getfield 10, 3) := by decide +kernel
theorem dX9_spare_97 : decode cX9_spare 97 = .ok (.iload 6, 2) := by decide +kernel
theorem dX9_spare_99 : decode cX9_spare 99 = .ok (.iload 4, 2) := by decide +kernel
theorem dX9_spare_101 : decode cX9_spare 101 = .ok (.invokevirtual 298, 3) := by decide +kernel
theorem dX9_spare_104 : decode cX9_spare 104 = .ok (.iadd, 1) := by decide +kernel
theorem dX9_spare_105 : decode cX9_spare 105 = .ok (.istore 5, 2) := by decide +kernel
theorem dX9_spare_107 : decode cX9_spare 107 = .ok (.iconst (-1), 1) := by decide +kernel
theorem dX9_spare_108 : decode cX9_spare 108 = .ok (.aload_n 1, 1) := by decide +kernel
theorem dX9_spare_109 : decode cX9_spare 109 = .ok (.iload_n 3, 1) := by decide +kernel
theorem dX9_spare_110 : decode cX9_spare 110 = .ok (.iconst 1, 1) := by decide +kernel
theorem dX9_spare_111 : decode cX9_spare 111 = .ok (.iadd, 1) := by decide +kernel
theorem dX9_spare_112 : decode cX9_spare 112 = .ok (.invokevirtual 119, 3) := by decide +kernel
theorem dX9_spare_115 : decode cX9_spare 115 = .ok (.l2i, 1) := by decide +kernel
theorem dX9_spare_116 : decode cX9_spare 116 = .ok (.iload 5, 2) := by decide +kernel
theorem dX9_spare_118 : decode cX9_spare 118 = .ok (.isub, 1) := by decide +kernel
theorem dX9_spare_119 : decode cX9_spare 119 = .ok (.invokestatic 249, 3) := by decide +kernel
theorem dX9_spare_122 : decode cX9_spare 122 = .ok (.ireturn, 1) := by decide +kernel
set_option maxRecDepth 20000 in
theorem dX9_which_0 : decode cX9_which 0 = .ok (.iload_n 1, 1) := by decide +kernel
theorem dX9_which_1 : decode cX9_which 1 = .ok (.ifCond .lt 23, 3) := by decide +kernel
theorem dX9_which_4 : decode cX9_which 4 = .ok (.iload_n 1, 1) := by decide +kernel
theorem dX9_which_5 : decode cX9_which 5 = .ok (.bipush 10, 2) := by decide +kernel
theorem dX9_which_7 : decode cX9_which 7 = .ok (.idiv, 1) := by decide +kernel
theorem dX9_which_8 : decode cX9_which 8 = .ok (.invokestatic 102, 3) := by decide +kernel
theorem dX9_which_11 : decode cX9_which 11 = .ok (.ifCond .eq 13, 3) := by decide +kernel
theorem dX9_which_14 : decode cX9_which 14 = .ok (.iload_n 1, 1) := by decide +kernel
theorem dX9_which_15 : decode cX9_which 15 = .ok (.bipush 10, 2) := by decide +kernel

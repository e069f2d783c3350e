theorem dX4_init_0 : decode cX4_init 0 = .ok (.aload_n 0, 1) := by decide +kernel
theorem dX4_init_1 : decode cX4_init 1 = .ok (.invokespecial 1, 3) := by decide +kernel
theorem dX4_init_4 : decode cX4_init 4 = .ok (.aload_n 0, 1) := by decide +kernel
theorem dX4_init_5 : decode cX4_init 5 = .ok (.new 7, 3) := by decide +kernel
theorem dX4_init_8 : decode cX4_init 8 = .ok (.dup, 1) := by decide +kernel
theorem dX4_init_9 : decode cX4_init 9 = .ok (.invokespecial 9, 3) := by decide +kernel
theorem dX4_init_12 : decode cX4_init 12 = .ok (.putfield 10, 3) := by decide +kernel
theorem dX4_init_15 : decode cX4_init 15 = .ok (.aload_n 0, 1) := by decide +kernel
theorem dX4_init_16 : decode cX4_init 16 = .ok (.new 7, 3) := by decide +kernel
theorem dX4_init_19 : decode cX4_init 19 = .ok (.dup, 1) := by decide +kernel
theorem dX4_init_20 : decode cX4_init 20 = .ok (.invokespecial 9, 3) := by decide +kernel
theorem dX4_init_23 : decode cX4_init 23 = .ok (.putfield 16, 3) := by decide +kernel
theorem dX4_init_26 : decode cX4_init 26 = .ok (.aload_n 0, 1) := by decide +kernel
theorem dX4_init_27 : decode cX4_init 27 = .ok (.iconst 0, 1) := by decide +kernel
theorem dX4_init_28 : decode cX4_init 28 = .ok (.putfield 19, 3) := by decide +kernel
theorem dX4_init_31 : decode cX4_init 31 = .ok (.aload_n 0, 1) := by decide +kernel
theorem dX4_init_32 : decode cX4_init 32 = .ok (.new 23, 3) := by decide +kernel
theorem dX4_init_35 : decode cX4_init 35 = .ok (.dup, 1) := by decide +kernel
theorem dX4_init_36 : decode cX4_init 36 = .ok (.invokespecial 25, 3) := by decide +kernel
theorem dX4_init_39 : decode cX4_init 39 = .ok (.putfield 26, 3) := by decide +kernel
theorem dX4_init_42 : decode cX4_init 42 = .ok (.aload_n 0, 1) := by decide +kernel
theorem dX4_init_43 : decode cX4_init 43 = .ok (.new 30, 3) := by decide +kernel
theorem dX4_init_46 : decode cX4_init 46 = .ok (.dup, 1) := by decide +kernel
theorem dX4_init_47 : decode cX4_init 47 = .ok (.invokespecial 32, 3) := by decide +kernel
theorem dX4_init_50 : decode cX4_init 50 = .ok (.putfield 33, 3) := by decide +kernel
theorem dX4_init_53 : decode cX4_init 53 = .ok (.aload_n 0, 1) := by decide +kernel
theorem dX4_init_54 : decode cX4_init 54 = .ok (.new 37, 3) := by decide +kernel
theorem dX4_init_57 : decode cX4_init 57 = .ok (.dup, 1) := by decide +kernel
theorem dX4_init_58 : decode cX4_init 58 = .ok (.invokespecial 39, 3) := by decide +kernel
theorem dX4_init_61 : decode cX4_init 61 = .ok (.putfield 40, 3) := by decide +kernel
theorem dX4_init_64 : decode cX4_init 64 = .ok (.aload_n 0, 1) := by decide +kernel
theorem dX4_init_65 : decode cX4_init 65 = .ok (.sipush 5120, 3) := by decide +kernel
theorem dX4_init_68 : decode cX4_init 68 = .ok (.newarray .int, 2) := by decide +kernel
theorem dX4_init_70 : decode cX4_init 70 = .ok (.putfield 44, 3) := by decide +kernel
theorem dX4_init_73 : decode cX4_init 73 = .ok (.aload_n 0, 1) := by decide +kernel
theorem dX4_init_74 : decode cX4_init 74 = .ok (.iconst (-1), 1) := by decide +kernel
theorem dX4_init_75 : decode cX4_init 75 = .ok (.putfield 48, 3) := by decide +kernel
theorem dX4_init_78 : decode cX4_init 78 = .ok (.aload_n 0, 1) := by decide +kernel
theorem dX4_init_79 : decode cX4_init 79 = .ok (.bipush 6, 2) := by decide +kernel
theorem dX4_init_81 : decode cX4_init 81 = .ok (.newarray .int, 2) := by decide +kernel
theorem dX4_init_83 : decode cX4_init 83 = .ok (.putfield 52, 3) := by decide +kernel
theorem dX4_init_86 : decode cX4_init 86 = .ok (.aload_n 0, 1) := by decide +kernel
theorem dX4_init_87 : decode cX4_init 87 = .ok (.bipush 6, 2) := by decide +kernel
theorem dX4_init_89 : decode cX4_init 89 = .ok (.newarray .int, 2) := by decide +kernel
theorem dX4_init_91 : decode cX4_init 91 = .ok (.putfield 55, 3) := by decide +kernel
theorem dX4_init_94 : decode cX4_init 94 = .ok (.aload_n 0, 1) := by decide +kernel
theorem dX4_init_95 : decode cX4_init 95 = .ok (.iconst 5, 1) := by decide +kernel
theorem dX4_init_96 : decode cX4_init 96 = .ok (.newarray .int, 2) := by decide +kernel
theorem dX4_init_98 : decode cX4_init 98 = .ok (.putfield 58, 3) := by decide +kernel
theorem dX4_init_101 : decode cX4_init 101 = .ok (.aload_n 0, 1) := by decide +kernel
theorem dX4_init_102 : decode cX4_init 102 = .ok (.bipush 6, 2) := by decide +kernel
theorem dX4_init_104 : decode cX4_init 104 = .ok (.newarray .int, 2) := by decide +kernel
theorem dX4_init_106 : decode cX4_init 106 = .ok (.putfield 61, 3) := by decide +kernel
theorem dX4_init_109 : decode cX4_init 109 = .ok (.return_, 1) := by decide +kernel
theorem dX4_rule_0 : decode cX4_rule 0 = .ok (.iload_n 1, 1) := by decide +kernel
theorem dX4_rule_1 : decode cX4_rule 1 = .ok (.iload_n 2, 1) := by decide +kernel
theorem dX4_rule_2 : decode cX4_rule 2 = .ok (.invokestatic 64, 3) := by decide +kernel
theorem dX4_rule_5 : decode cX4_rule 5 = .ok (.ifCond .ne 5, 3) := by decide +kernel
theorem dX4_rule_8 : decode cX4_rule 8 = .ok (.iconst (-1), 1) := by decide +kernel
theorem dX4_rule_9 : decode cX4_rule 9 = .ok (.ireturn, 1) := by decide +kernel
theorem dX4_rule_10 : decode cX4_rule 10 = .ok (.aload_n 0, 1) := by decide +kernel
theorem dX4_rule_11 : decode cX4_rule 11 = .ok (.getfield 10, 3) := by decide +kernel
theorem dX4_rule_14 : decode cX4_rule 14 = .ok (.getfield 68, 3) := by decide +kernel
theorem dX4_rule_17 : decode cX4_rule 17 = .ok (.iload_n 1, 1) := by decide +kernel
theorem dX4_rule_18 : decode cX4_rule 18 = .ok (.iaload, 1) := by decide +kernel
theorem dX4_rule_19 : decode cX4_rule 19 = .ok (.istore_n 3, 1) := by decide +kernel
theorem dX4_rule_20 : decode cX4_rule 20 = .ok (.aload_n 0, 1) := by decide +kernel
theorem dX4_rule_21 : decode cX4_rule 21 = .ok (.getfield 10, 3) := by decide +kernel
theorem dX4_rule_24 : decode cX4_rule 24 = .ok (.getfield 68, 3) := by decide +kernel
theorem dX4_rule_27 : decode cX4_rule 27 = .ok (.iload_n 1, 1) := by decide +kernel
theorem dX4_rule_28 : decode cX4_rule 28 = .ok (.iload_n 2, 1) := by decide +kernel
theorem dX4_rule_29 : decode cX4_rule 29 = .ok (.iastore, 1) := by decide +kernel
theorem dX4_rule_30 : decode cX4_rule 30 = .ok (.iload_n 3, 1) := by decide +kernel
theorem dX4_rule_31 : decode cX4_rule 31 = .ok (.ireturn, 1) := by decide +kernel
theorem dX4_buyer_0 : decode cX4_buyer 0 = .ok (.iload_n 1, 1) := by decide +kernel
theorem dX4_buyer_1 : decode cX4_buyer 1 = .ok (.ifCond .lt 19, 3) := by decide +kernel
theorem dX4_buyer_4 : decode cX4_buyer 4 = .ok (.iload_n 1, 1) := by decide +kernel
theorem dX4_buyer_5 : decode cX4_buyer 5 = .ok (.iconst 4, 1) := by decide +kernel
theorem dX4_buyer_6 : decode cX4_buyer 6 = .ok (.if_icmp .gt 14, 3) := by decide +kernel
theorem dX4_buyer_9 : decode cX4_buyer 9 = .ok (.iload_n 2, 1) := by decide +kernel
theorem dX4_buyer_10 : decode cX4_buyer 10 = .ok (.ifCond .lt 10, 3) := by decide +kernel
theorem dX4_buyer_13 : decode cX4_buyer 13 = .ok (.iload_n 2, 1) := by decide +kernel
theorem dX4_buyer_14 : decode cX4_buyer 14 = .ok (.sipush 999, 3) := by decide +kernel
theorem dX4_buyer_17 : decode cX4_buyer 17 = .ok (.if_icmp .le 5, 3) := by decide +kernel
theorem dX4_buyer_20 : decode cX4_buyer 20 = .ok (.iconst (-1), 1) := by decide +kernel
theorem dX4_buyer_21 : decode cX4_buyer 21 = .ok (.ireturn, 1) := by decide +kernel
theorem dX4_buyer_22 : decode cX4_buyer 22 = .ok (.aload_n 0, 1) := by decide +kernel
theorem dX4_buyer_23 : decode cX4_buyer 23 = .ok (.getfield 10, 3) := by decide +kernel
theorem dX4_buyer_26 : decode cX4_buyer 26 = .ok (.getfield 71, 3) := by decide +kernel
theorem dX4_buyer_29 : decode cX4_buyer 29 = .ok (.ifCond .lt 14, 3) := by decide +kernel
theorem dX4_buyer_32 : decode cX4_buyer 32 = .ok (.aload_n 0, 1) := by decide +kernel
theorem dX4_buyer_33 : decode cX4_buyer 33 = .ok (.getfield 10, 3) := by decide +kernel
theorem dX4_buyer_36 : decode cX4_buyer 36 = .ok (.getfield 71, 3) := by decide +kernel
theorem dX4_buyer_39 : decode cX4_buyer 39 = .ok (.iconst 5, 1) := by decide +kernel
theorem dX4_buyer_40 : decode cX4_buyer 40 = .ok (.if_icmp .lt 6, 3) := by decide +kernel
theorem dX4_buyer_43 : decode cX4_buyer 43 = .ok (.bipush (-3), 2) := by decide +kernel
theorem dX4_buyer_45 : decode cX4_buyer 45 = .ok (.ireturn, 1) := by decide +kernel
theorem dX4_buyer_46 : decode cX4_buyer 46 = .ok (.aload_n 0, 1) := by decide +kernel
theorem dX4_buyer_47 : decode cX4_buyer 47 = .ok (.getfield 10, 3) := by decide +kernel
theorem dX4_buyer_50 : decode cX4_buyer 50 = .ok (.getfield 71, 3) := by decide +kernel
theorem dX4_buyer_53 : decode cX4_buyer 53 = .ok (.istore_n 3, 1) := by decide +kernel
theorem dX4_buyer_54 : decode cX4_buyer 54 = .ok (.aload_n 0, 1) := by decide +kernel
theorem dX4_buyer_55 : decode cX4_buyer 55 = .ok (.getfield 10, 3) := by decide +kernel
theorem dX4_buyer_58 : decode cX4_buyer 58 = .ok (.getfield 74, 3) := by decide +kernel
theorem dX4_buyer_61 : decode cX4_buyer 61 = .ok (.iload_n 3, 1) := by decide +kernel
theorem dX4_buyer_62 : decode cX4_buyer 62 = .ok (.iload_n 1, 1) := by decide +kernel
theorem dX4_buyer_63 : decode cX4_buyer 63 = .ok (.iastore, 1) := by decide +kernel
theorem dX4_buyer_64 : decode cX4_buyer 64 = .ok (.aload_n 0, 1) := by decide +kernel
theorem dX4_buyer_65 : decode cX4_buyer 65 = .ok (.getfield 10, 3) := by decide +kernel
theorem dX4_buyer_68 : decode cX4_buyer 68 = .ok (.getfield 77, 3) := by decide +kernel
theorem dX4_buyer_71 : decode cX4_buyer 71 = .ok (.iload_n 3, 1) := by decide +kernel
theorem dX4_buyer_72 : decode cX4_buyer 72 = .ok (.iload_n 2, 1) := by decide +kernel
theorem dX4_buyer_73 : decode cX4_buyer 73 = .ok (.iastore, 1) := by decide +kernel
theorem dX4_buyer_74 : decode cX4_buyer 74 = .ok (.aload_n 0, 1) := by decide +kernel
theorem dX4_buyer_75 : decode cX4_buyer 75 = .ok (.getfield 10, 3) := by decide +kernel
theorem dX4_buyer_78 : decode cX4_buyer 78 = .ok (.iload_n 3, 1) := by decide +kernel
theorem dX4_buyer_79 : decode cX4_buyer 79 = .ok (.iconst 1, 1) := by decide +kernel
theorem dX4_buyer_80 : decode cX4_buyer 80 = .ok (.iadd, 1) := by decide +kernel
theorem dX4_buyer_81 : decode cX4_buyer 81 = .ok (.putfield 71, 3) := by decide +kernel
theorem dX4_buyer_84 : decode cX4_buyer 84 = .ok (.iload_n 3, 1) := by decide +kernel
theorem dX4_buyer_85 : decode cX4_buyer 85 = .ok (.ireturn, 1) := by decide +kernel
theorem dX4_worth_0 : decode cX4_worth 0 = .ok (.aload_n 0, 1) := by decide +kernel
theorem dX4_worth_1 : decode cX4_worth 1 = .ok (.getfield 10, 3) := by decide +kernel
theorem dX4_worth_4 : decode cX4_worth 4 = .ok (.iload_n 1, 1) := by decide +kernel
theorem dX4_worth_5 : decode cX4_worth 5 = .ok (.invokevirtual 80, 3) := by decide +kernel
theorem dX4_worth_8 : decode cX4_worth 8 = .ok (.ifCond .eq 20, 3) := by decide +kernel
theorem dX4_worth_11 : decode cX4_worth 11 = .ok (.iload_n 2, 1) := by decide +kernel
theorem dX4_worth_12 : decode cX4_worth 12 = .ok (.invokestatic 84, 3) := by decide +kernel
theorem dX4_worth_15 : decode cX4_worth 15 = .ok (.ifCond .eq 13, 3) := by decide +kernel
theorem dX4_worth_18 : decode cX4_worth 18 = .ok (.iload_n 3, 1) := by decide +kernel
theorem dX4_worth_19 : decode cX4_worth 19 = .ok (.ifCond .lt 9, 3) := by decide +kernel
theorem dX4_worth_22 : decode cX4_worth 22 = .ok (.iload_n 3, 1) := by decide +kernel
theorem dX4_worth_23 : decode cX4_worth 23 = .ok (.bipush 99, 2) := by decide +kernel
theorem dX4_worth_25 : decode cX4_worth 25 = .ok (.if_icmp .le 5, 3) := by decide +kernel
theorem dX4_worth_28 : decode cX4_worth 28 = .ok (.iconst (-1), 1) := by decide +kernel
theorem dX4_worth_29 : decode cX4_worth 29 = .ok (.ireturn, 1) := by decide +kernel
theorem dX4_worth_30 : decode cX4_worth 30 = .ok (.iload_n 1, 1) := by decide +kernel
theorem dX4_worth_31 : decode cX4_worth 31 = .ok (.iconst 4, 1) := by decide +kernel
theorem dX4_worth_32 : decode cX4_worth 32 = .ok (.imul, 1) := by decide +kernel
theorem dX4_worth_33 : decode cX4_worth 33 = .ok (.iload_n 2, 1) := by decide +kernel
theorem dX4_worth_34 : decode cX4_worth 34 = .ok (.iadd, 1) := by decide +kernel
theorem dX4_worth_35 : decode cX4_worth 35 = .ok (.istore 4, 2) := by decide +kernel
theorem dX4_worth_37 : decode cX4_worth 37 = .ok (.aload_n 0, 1) := by decide +kernel
theorem dX4_worth_38 : decode cX4_worth 38 = .ok (.getfield 10, 3) := by decide +kernel
theorem dX4_worth_41 : decode cX4_worth 41 = .ok (.getfield 87, 3) := by decide +kernel
theorem dX4_worth_44 : decode cX4_worth 44 = .ok (.iload 4, 2) := by decide +kernel
theorem dX4_worth_46 : decode cX4_worth 46 = .ok (.iaload, 1) := by decide +kernel
theorem dX4_worth_47 : decode cX4_worth 47 = .ok (.istore 5, 2) := by decide +kernel
theorem dX4_worth_49 : decode cX4_worth 49 = .ok (.aload_n 0, 1) := by decide +kernel
theorem dX4_worth_50 : decode cX4_worth 50 = .ok (.getfield 10, 3) := by decide +kernel
theorem dX4_worth_53 : decode cX4_worth 53 = .ok (.getfield 87, 3) := by decide +kernel
theorem dX4_worth_56 : decode cX4_worth 56 = .ok (.iload 4, 2) := by decide +kernel
theorem dX4_worth_58 : decode cX4_worth 58 = .ok (.iload_n 3, 1) := by decide +kernel
theorem dX4_worth_59 : decode cX4_worth 59 = .ok (.iastore, 1) := by decide +kernel
theorem dX4_worth_60 : decode cX4_worth 60 = .ok (.iload 5, 2) := by decide +kernel
theorem dX4_worth_62 : decode cX4_worth 62 = .ok (.ireturn, 1) := by decide +kernel
theorem dX4_margin_0 : decode cX4_margin 0 = .ok (.aload_n 0, 1) := by decide +kernel
theorem dX4_margin_1 : decode cX4_margin 1 = .ok (.getfield 10, 3) := by decide +kernel
theorem dX4_margin_4 : decode cX4_margin 4 = .ok (.iload_n 1, 1) := by decide +kernel
theorem dX4_margin_5 : decode cX4_margin 5 = .ok (.invokevirtual 80, 3) := by decide +kernel
theorem dX4_margin_8 : decode cX4_margin 8 = .ok (.ifCond .eq 13, 3) := by decide +kernel
theorem dX4_margin_11 : decode cX4_margin 11 = .ok (.iload_n 2, 1) := by decide +kernel
theorem dX4_margin_12 : decode cX4_margin 12 = .ok (.ifCond .lt 9, 3) := by decide +kernel
theorem dX4_margin_15 : decode cX4_margin 15 = .ok (.iload_n 2, 1) := by decide +kernel
theorem dX4_margin_16 : decode cX4_margin 16 = .ok (.bipush 40, 2) := by decide +kernel
theorem dX4_margin_18 : decode cX4_margin 18 = .ok (.if_icmp .le 5, 3) := by decide +kernel
theorem dX4_margin_21 : decode cX4_margin 21 = .ok (.iconst (-1), 1) := by decide +kernel
theorem dX4_margin_22 : decode cX4_margin 22 = .ok (.ireturn, 1) := by decide +kernel
theorem dX4_margin_23 : decode cX4_margin 23 = .ok (.aload_n 0, 1) := by decide +kernel
theorem dX4_margin_24 : decode cX4_margin 24 = .ok (.getfield 10, 3) := by decide +kernel
theorem dX4_margin_27 : decode cX4_margin 27 = .ok (.getfield 90, 3) := by decide +kernel
theorem dX4_margin_30 : decode cX4_margin 30 = .ok (.iload_n 1, 1) := by decide +kernel
theorem dX4_margin_31 : decode cX4_margin 31 = .ok (.iaload, 1) := by decide +kernel
theorem dX4_margin_32 : decode cX4_margin 32 = .ok (.istore_n 3, 1) := by decide +kernel
theorem dX4_margin_33 : decode cX4_margin 33 = .ok (.aload_n 0, 1) := by decide +kernel
theorem dX4_margin_34 : decode cX4_margin 34 = .ok (.getfield 10, 3) := by decide +kernel
theorem dX4_margin_37 : decode cX4_margin 37 = .ok (.getfield 90, 3) := by decide +kernel
theorem dX4_margin_40 : decode cX4_margin 40 = .ok (.iload_n 1, 1) := by decide +kernel
theorem dX4_margin_41 : decode cX4_margin 41 = .ok (.iload_n 2, 1) := by decide +kernel
theorem dX4_margin_42 : decode cX4_margin 42 = .ok (.iastore, 1) := by decide +kernel
theorem dX4_margin_43 : decode cX4_margin 43 = .ok (.iload_n 3, 1) := by decide +kernel
theorem dX4_margin_44 : decode cX4_margin 44 = .ok (.ireturn, 1) := by decide +kernel
theorem dX4_told_0 : decode cX4_told 0 = .ok (.aload_n 0, 1) := by decide +kernel
theorem dX4_told_1 : decode cX4_told 1 = .ok (.getfield 10, 3) := by decide +kernel
theorem dX4_told_4 : decode cX4_told 4 = .ok (.iload_n 1, 1) := by decide +kernel
theorem dX4_told_5 : decode cX4_told 5 = .ok (.invokevirtual 80, 3) := by decide +kernel
theorem dX4_told_8 : decode cX4_told 8 = .ok (.ifCond .eq 13, 3) := by decide +kernel
theorem dX4_told_11 : decode cX4_told 11 = .ok (.iload_n 2, 1) := by decide +kernel
theorem dX4_told_12 : decode cX4_told 12 = .ok (.ifCond .lt 9, 3) := by decide +kernel
theorem dX4_told_15 : decode cX4_told 15 = .ok (.iload_n 2, 1) := by decide +kernel
theorem dX4_told_16 : decode cX4_told 16 = .ok (.bipush 6, 2) := by decide +kernel
theorem dX4_told_18 : decode cX4_told 18 = .ok (.if_icmp .le 6, 3) := by decide +kernel
theorem dX4_told_21 : decode cX4_told 21 = .ok (.ldc 93, 2) := by decide +kernel
theorem dX4_told_23 : decode cX4_told 23 = .ok (.ireturn, 1) := by decide +kernel
theorem dX4_told_24 : decode cX4_told 24 = .ok (.iload_n 2, 1) := by decide +kernel
theorem dX4_told_25 : decode cX4_told 25 = .ok (.ifCond .ne 13, 3) := by decide +kernel
theorem dX4_told_28 : decode cX4_told 28 = .ok (.aload_n 0, 1) := by decide +kernel
theorem dX4_told_29 : decode cX4_told 29 = .ok (.getfield 10, 3) := by decide +kernel
theorem dX4_told_32 : decode cX4_told 32 = .ok (.getfield 74, 3) := by decide +kernel
theorem dX4_told_35 : decode cX4_told 35 = .ok (.iload_n 1, 1) := by decide +kernel
theorem dX4_told_36 : decode cX4_told 36 = .ok (.iaload, 1) := by decide +kernel
theorem dX4_told_37 : decode cX4_told 37 = .ok (.ireturn, 1) := by decide +kernel
theorem dX4_told_38 : decode cX4_told 38 = .ok (.iload_n 2, 1) := by decide +kernel
theorem dX4_told_39 : decode cX4_told 39 = .ok (.iconst 1, 1) := by decide +kernel
theorem dX4_told_40 : decode cX4_told 40 = .ok (.if_icmp .ne 13, 3) := by decide +kernel
theorem dX4_told_43 : decode cX4_told 43 = .ok (.aload_n 0, 1) := by decide +kernel
theorem dX4_told_44 : decode cX4_told 44 = .ok (.getfield 10, 3) := by decide +kernel
theorem dX4_told_47 : decode cX4_told 47 = .ok (.getfield 90, 3) := by decide +kernel
theorem dX4_told_50 : decode cX4_told 50 = .ok (.iload_n 1, 1) := by decide +kernel
theorem dX4_told_51 : decode cX4_told 51 = .ok (.iaload, 1) := by decide +kernel
theorem dX4_told_52 : decode cX4_told 52 = .ok (.ireturn, 1) := by decide +kernel
theorem dX4_told_53 : decode cX4_told 53 = .ok (.iload_n 2, 1) := by decide +kernel
theorem dX4_told_54 : decode cX4_told 54 = .ok (.bipush 6, 2) := by decide +kernel
theorem dX4_told_56 : decode cX4_told 56 = .ok (.if_icmp .ne 13, 3) := by decide +kernel
theorem dX4_told_59 : decode cX4_told 59 = .ok (.aload_n 0, 1) := by decide +kernel
theorem dX4_told_60 : decode cX4_told 60 = .ok (.getfield 10, 3) := by decide +kernel
theorem dX4_told_63 : decode cX4_told 63 = .ok (.getfield 77, 3) := by decide +kernel
theorem dX4_told_66 : decode cX4_told 66 = .ok (.iload_n 1, 1) := by decide +kernel
theorem dX4_told_67 : decode cX4_told 67 = .ok (.iaload, 1) := by decide +kernel
theorem dX4_told_68 : decode cX4_told 68 = .ok (.ireturn, 1) := by decide +kernel
theorem dX4_told_69 : decode cX4_told 69 = .ok (.aload_n 0, 1) := by decide +kernel
theorem dX4_told_70 : decode cX4_told 70 = .ok (.getfield 10, 3) := by decide +kernel
theorem dX4_told_73 : decode cX4_told 73 = .ok (.iload_n 1, 1) := by decide +kernel
theorem dX4_told_74 : decode cX4_told 74 = .ok (.iload_n 2, 1) := by decide +kernel
theorem dX4_told_75 : decode cX4_told 75 = .ok (.iconst 2, 1) := by decide +kernel
theorem dX4_told_76 : decode cX4_told 76 = .ok (.isub, 1) := by decide +kernel
theorem dX4_told_77 : decode cX4_told 77 = .ok (.invokevirtual 94, 3) := by decide +kernel
theorem dX4_told_80 : decode cX4_told 80 = .ok (.ireturn, 1) := by decide +kernel
theorem dX4_earn_0 : decode cX4_earn 0 = .ok (.aload_n 0, 1) := by decide +kernel
theorem dX4_earn_1 : decode cX4_earn 1 = .ok (.getfield 10, 3) := by decide +kernel
theorem dX4_earn_4 : decode cX4_earn 4 = .ok (.iload_n 1, 1) := by decide +kernel
theorem dX4_earn_5 : decode cX4_earn 5 = .ok (.invokevirtual 80, 3) := by decide +kernel
theorem dX4_earn_8 : decode cX4_earn 8 = .ok (.ifCond .eq 15, 3) := by decide +kernel
theorem dX4_earn_11 : decode cX4_earn 11 = .ok (.iload_n 2, 1) := by decide +kernel
theorem dX4_earn_12 : decode cX4_earn 12 = .ok (.iconst 1, 1) := by decide +kernel
theorem dX4_earn_13 : decode cX4_earn 13 = .ok (.if_icmp .lt 10, 3) := by decide +kernel
theorem dX4_earn_16 : decode cX4_earn 16 = .ok (.iload_n 2, 1) := by decide +kernel
theorem dX4_earn_17 : decode cX4_earn 17 = .ok (.sipush 999, 3) := by decide +kernel
theorem dX4_earn_20 : decode cX4_earn 20 = .ok (.if_icmp .le 6, 3) := by decide +kernel
theorem dX4_earn_23 : decode cX4_earn 23 = .ok (.ldc 93, 2) := by decide +kernel
theorem dX4_earn_25 : decode cX4_earn 25 = .ok (.ireturn, 1) := by decide +kernel
theorem dX4_earn_26 : decode cX4_earn 26 = .ok (.aload_n 0, 1) := by decide +kernel
theorem dX4_earn_27 : decode cX4_earn 27 = .ok (.getfield 10, 3) := by decide +kernel
theorem dX4_earn_30 : decode cX4_earn 30 = .ok (.getfield 77, 3) := by decide +kernel
theorem dX4_earn_33 : decode cX4_earn 33 = .ok (.iload_n 1, 1) := by decide +kernel
theorem dX4_earn_34 : decode cX4_earn 34 = .ok (.iaload, 1) := by decide +kernel
theorem dX4_earn_35 : decode cX4_earn 35 = .ok (.iload_n 2, 1) := by decide +kernel
theorem dX4_earn_36 : decode cX4_earn 36 = .ok (.iadd, 1) := by decide +kernel
theorem dX4_earn_37 : decode cX4_earn 37 = .ok (.istore_n 3, 1) := by decide +kernel
theorem dX4_earn_38 : decode cX4_earn 38 = .ok (.iload_n 3, 1) := by decide +kernel
theorem dX4_earn_39 : decode cX4_earn 39 = .ok (.sipush 9999, 3) := by decide +kernel
theorem dX4_earn_42 : decode cX4_earn 42 = .ok (.if_icmp .le 6, 3) := by decide +kernel
theorem dX4_earn_45 : decode cX4_earn 45 = .ok (.ldc 98, 2) := by decide +kernel
theorem dX4_earn_47 : decode cX4_earn 47 = .ok (.ireturn, 1) := by decide +kernel
theorem dX4_earn_48 : decode cX4_earn 48 = .ok (.aload_n 0, 1) := by decide +kernel
theorem dX4_earn_49 : decode cX4_earn 49 = .ok (.getfield 10, 3) := by decide +kernel
theorem dX4_earn_52 : decode cX4_earn 52 = .ok (.getfield 77, 3) := by decide +kernel
theorem dX4_earn_55 : decode cX4_earn 55 = .ok (.iload_n 1, 1) := by decide +kernel
theorem dX4_earn_56 : decode cX4_earn 56 = .ok (.iload_n 3, 1) := by decide +kernel
theorem dX4_earn_57 : decode cX4_earn 57 = .ok (.iastore, 1) := by decide +kernel
theorem dX4_earn_58 : decode cX4_earn 58 = .ok (.iload_n 3, 1) := by decide +kernel
theorem dX4_earn_59 : decode cX4_earn 59 = .ok (.ireturn, 1) := by decide +kernel
theorem dX4_type_0 : decode cX4_type 0 = .ok (.aload_n 0, 1) := by decide +kernel
theorem dX4_type_1 : decode cX4_type 1 = .ok (.getfield 33, 3) := by decide +kernel
theorem dX4_type_4 : decode cX4_type 4 = .ok (.lload_n 1, 1) := by decide +kernel
theorem dX4_type_5 : decode cX4_type 5 = .ok (.iload_n 3, 1) := by decide +kernel
theorem dX4_type_6 : decode cX4_type 6 = .ok (.invokevirtual 99, 3) := by decide +kernel
theorem dX4_type_9 : decode cX4_type 9 = .ok (.ireturn, 1) := by decide +kernel
theorem dX4_rules_0 : decode cX4_rules 0 = .ok (.aload_n 0, 1) := by decide +kernel
theorem dX4_rules_1 : decode cX4_rules 1 = .ok (.getfield 33, 3) := by decide +kernel
theorem dX4_rules_4 : decode cX4_rules 4 = .ok (.aload_n 0, 1) := by decide +kernel
theorem dX4_rules_5 : decode cX4_rules 5 = .ok (.getfield 58, 3) := by decide +kernel
theorem dX4_rules_8 : decode cX4_rules 8 = .ok (.invokevirtual 103, 3) := by decide +kernel
theorem dX4_rules_11 : decode cX4_rules 11 = .ok (.istore_n 1, 1) := by decide +kernel
theorem dX4_rules_12 : decode cX4_rules 12 = .ok (.aload_n 0, 1) := by decide +kernel
theorem dX4_rules_13 : decode cX4_rules 13 = .ok (.getfield 33, 3) := by decide +kernel
theorem dX4_rules_16 : decode cX4_rules 16 = .ok (.iconst 0, 1) := by decide +kernel
theorem dX4_rules_17 : decode cX4_rules 17 = .ok (.putfield 107, 3) := by decide +kernel
theorem dX4_rules_20 : decode cX4_rules 20 = .ok (.iconst 0, 1) := by decide +kernel
theorem dX4_rules_21 : decode cX4_rules 21 = .ok (.istore_n 2, 1) := by decide +kernel
theorem dX4_rules_22 : decode cX4_rules 22 = .ok (.iload_n 1, 1) := by decide +kernel
theorem dX4_rules_23 : decode cX4_rules 23 = .ok (.ifCond .le 42, 3) := by decide +kernel
theorem dX4_rules_26 : decode cX4_rules 26 = .ok (.iload_n 2, 1) := by decide +kernel
theorem dX4_rules_27 : decode cX4_rules 27 = .ok (.iconst 5, 1) := by decide +kernel
theorem dX4_rules_28 : decode cX4_rules 28 = .ok (.if_icmp .ge 37, 3) := by decide +kernel
theorem dX4_rules_31 : decode cX4_rules 31 = .ok (.iload_n 2, 1) := by decide +kernel
theorem dX4_rules_32 : decode cX4_rules 32 = .ok (.aload_n 0, 1) := by decide +kernel
theorem dX4_rules_33 : decode cX4_rules 33 = .ok (.getfield 58, 3) := by decide +kernel
theorem dX4_rules_36 : decode cX4_rules 36 = .ok (.iload_n 2, 1) := by decide +kernel
theorem dX4_rules_37 : decode cX4_rules 37 = .ok (.iaload, 1) := by decide +kernel
theorem dX4_rules_38 : decode cX4_rules 38 = .ok (.invokestatic 64, 3) := by decide +kernel
theorem dX4_rules_41 : decode cX4_rules 41 = .ok (.ifCond .eq 18, 3) := by decide +kernel
theorem dX4_rules_44 : decode cX4_rules 44 = .ok (.aload_n 0, 1) := by decide +kernel
theorem dX4_rules_45 : decode cX4_rules 45 = .ok (.getfield 10, 3) := by decide +kernel
theorem dX4_rules_48 : decode cX4_rules 48 = .ok (.getfield 68, 3) := by decide +kernel
theorem dX4_rules_51 : decode cX4_rules 51 = .ok (.iload_n 2, 1) := by decide +kernel
theorem dX4_rules_52 : decode cX4_rules 52 = .ok (.aload_n 0, 1) := by decide +kernel
theorem dX4_rules_53 : decode cX4_rules 53 = .ok (.getfield 58, 3) := by decide +kernel
theorem dX4_rules_56 : decode cX4_rules 56 = .ok (.iload_n 2, 1) := by decide +kernel
theorem dX4_rules_57 : decode cX4_rules 57 = .ok (.iaload, 1) := by decide +kernel
theorem dX4_rules_58 : decode cX4_rules 58 = .ok (.iastore, 1) := by decide +kernel
theorem dX4_rules_59 : decode cX4_rules 59 = .ok (.iinc 2 1, 3) := by decide +kernel
theorem dX4_rules_62 : decode cX4_rules 62 = .ok (.goto (-40), 3) := by decide +kernel
theorem dX4_rules_65 : decode cX4_rules 65 = .ok (.iload_n 1, 1) := by decide +kernel
theorem dX4_rules_66 : decode cX4_rules 66 = .ok (.ireturn, 1) := by decide +kernel
theorem dX4_lots_0 : decode cX4_lots 0 = .ok (.aload_n 0, 1) := by decide +kernel
theorem dX4_lots_1 : decode cX4_lots 1 = .ok (.getfield 33, 3) := by decide +kernel
theorem dX4_lots_4 : decode cX4_lots 4 = .ok (.aload_n 0, 1) := by decide +kernel
theorem dX4_lots_5 : decode cX4_lots 5 = .ok (.getfield 61, 3) := by decide +kernel
theorem dX4_lots_8 : decode cX4_lots 8 = .ok (.invokevirtual 110, 3) := by decide +kernel
theorem dX4_lots_11 : decode cX4_lots 11 = .ok (.istore_n 1, 1) := by decide +kernel
theorem dX4_lots_12 : decode cX4_lots 12 = .ok (.aload_n 0, 1) := by decide +kernel
theorem dX4_lots_13 : decode cX4_lots 13 = .ok (.getfield 33, 3) := by decide +kernel
theorem dX4_lots_16 : decode cX4_lots 16 = .ok (.iconst 0, 1) := by decide +kernel
theorem dX4_lots_17 : decode cX4_lots 17 = .ok (.putfield 107, 3) := by decide +kernel
theorem dX4_lots_20 : decode cX4_lots 20 = .ok (.iload_n 1, 1) := by decide +kernel
theorem dX4_lots_21 : decode cX4_lots 21 = .ok (.iconst 1, 1) := by decide +kernel
theorem dX4_lots_22 : decode cX4_lots 22 = .ok (.if_icmp .lt 35, 3) := by decide +kernel
theorem dX4_lots_25 : decode cX4_lots 25 = .ok (.iload_n 1, 1) := by decide +kernel
theorem dX4_lots_26 : decode cX4_lots 26 = .ok (.bipush 6, 2) := by decide +kernel
theorem dX4_lots_28 : decode cX4_lots 28 = .ok (.if_icmp .gt 29, 3) := by decide +kernel
theorem dX4_lots_31 : decode cX4_lots 31 = .ok (.aload_n 0, 1) := by decide +kernel
theorem dX4_lots_32 : decode cX4_lots 32 = .ok (.getfield 61, 3) := by decide +kernel
theorem dX4_lots_35 : decode cX4_lots 35 = .ok (.iconst 0, 1) := by decide +kernel
theorem dX4_lots_36 : decode cX4_lots 36 = .ok (.aload_n 0, 1) := by decide +kernel
theorem dX4_lots_37 : decode cX4_lots 37 = .ok (.getfield 10, 3) := by decide +kernel
theorem dX4_lots_40 : decode cX4_lots 40 = .ok (.getfield 113, 3) := by decide +kernel
theorem dX4_lots_43 : decode cX4_lots 43 = .ok (.iconst 0, 1) := by decide +kernel
theorem dX4_lots_44 : decode cX4_lots 44 = .ok (.bipush 6, 2) := by decide +kernel
theorem dX4_lots_46 : decode cX4_lots 46 = .ok (.invokestatic 116, 3) := by decide +kernel
theorem dX4_lots_49 : decode cX4_lots 49 = .ok (.aload_n 0, 1) := by decide +kernel
theorem dX4_lots_50 : decode cX4_lots 50 = .ok (.getfield 10, 3) := by decide +kernel
theorem dX4_lots_53 : decode cX4_lots 53 = .ok (.iload_n 1, 1) := by decide +kernel
theorem dX4_lots_54 : decode cX4_lots 54 = .ok (.putfield 122, 3) := by decide +kernel
theorem dX4_lots_57 : decode cX4_lots 57 = .ok (.iload_n 1, 1) := by decide +kernel
theorem dX4_lots_58 : decode cX4_lots 58 = .ok (.ireturn, 1) := by decide +kernel
theorem dX4_count_0 : decode cX4_count 0 = .ok (.iload_n 1, 1) := by decide +kernel
theorem dX4_count_1 : decode cX4_count 1 = .ok (.tableswitch 75 0 4 #[35, 43, 51, 59, 67], 35) := by decide +kernel
theorem dX4_count_36 : decode cX4_count 36 = .ok (.aload_n 0, 1) := by decide +kernel
theorem dX4_count_37 : decode cX4_count 37 = .ok (.getfield 10, 3) := by decide +kernel
theorem dX4_count_40 : decode cX4_count 40 = .ok (.getfield 122, 3) := by decide +kernel
theorem dX4_count_43 : decode cX4_count 43 = .ok (.ireturn, 1) := by decide +kernel
theorem dX4_count_44 : decode cX4_count 44 = .ok (.aload_n 0, 1) := by decide +kernel
theorem dX4_count_45 : decode cX4_count 45 = .ok (.getfield 10, 3) := by decide +kernel
theorem dX4_count_48 : decode cX4_count 48 = .ok (.getfield 71, 3) := by decide +kernel
theorem dX4_count_51 : decode cX4_count 51 = .ok (.ireturn, 1) := by decide +kernel
theorem dX4_count_52 : decode cX4_count 52 = .ok (.aload_n 0, 1) := by decide +kernel
theorem dX4_count_53 : decode cX4_count 53 = .ok (.getfield 10, 3) := by decide +kernel
theorem dX4_count_56 : decode cX4_count 56 = .ok (.getfield 125, 3) := by decide +kernel
theorem dX4_count_59 : decode cX4_count 59 = .ok (.ireturn, 1) := by decide +kernel
theorem dX4_count_60 : decode cX4_count 60 = .ok (.aload_n 0, 1) := by decide +kernel
theorem dX4_count_61 : decode cX4_count 61 = .ok (.getfield 10, 3) := by decide +kernel
theorem dX4_count_64 : decode cX4_count 64 = .ok (.invokevirtual 128, 3) := by decide +kernel
theorem dX4_count_67 : decode cX4_count 67 = .ok (.ireturn, 1) := by decide +kernel
theorem dX4_count_68 : decode cX4_count 68 = .ok (.aload_n 0, 1) := by decide +kernel
theorem dX4_count_69 : decode cX4_count 69 = .ok (.getfield 10, 3) := by decide +kernel
theorem dX4_count_72 : decode cX4_count 72 = .ok (.invokevirtual 132, 3) := by decide +kernel
theorem dX4_count_75 : decode cX4_count 75 = .ok (.ireturn, 1) := by decide +kernel
theorem dX4_count_76 : decode cX4_count 76 = .ok (.iconst (-1), 1) := by decide +kernel
theorem dX4_count_77 : decode cX4_count 77 = .ok (.ireturn, 1) := by decide +kernel
theorem dX4_lot_0 : decode cX4_lot 0 = .ok (.iload_n 1, 1) := by decide +kernel
theorem dX4_lot_1 : decode cX4_lot 1 = .ok (.ifCond .lt 29, 3) := by decide +kernel
theorem dX4_lot_4 : decode cX4_lot 4 = .ok (.iload_n 1, 1) := by decide +kernel
theorem dX4_lot_5 : decode cX4_lot 5 = .ok (.bipush 6, 2) := by decide +kernel
theorem dX4_lot_7 : decode cX4_lot 7 = .ok (.if_icmp .ge 23, 3) := by decide +kernel
theorem dX4_lot_10 : decode cX4_lot 10 = .ok (.iload_n 1, 1) := by decide +kernel
theorem dX4_lot_11 : decode cX4_lot 11 = .ok (.aload_n 0, 1) := by decide +kernel
theorem dX4_lot_12 : decode cX4_lot 12 = .ok (.getfield 10, 3) := by decide +kernel
theorem dX4_lot_15 : decode cX4_lot 15 = .ok (.getfield 122, 3) := by decide +kernel
theorem dX4_lot_18 : decode cX4_lot 18 = .ok (.if_icmp .ge 12, 3) := by decide +kernel
theorem dX4_lot_21 : decode cX4_lot 21 = .ok (.iload_n 2, 1) := by decide +kernel
theorem dX4_lot_22 : decode cX4_lot 22 = .ok (.ifCond .lt 8, 3) := by decide +kernel
theorem dX4_lot_25 : decode cX4_lot 25 = .ok (.iload_n 2, 1) := by decide +kernel
theorem dX4_lot_26 : decode cX4_lot 26 = .ok (.iconst 4, 1) := by decide +kernel
theorem dX4_lot_27 : decode cX4_lot 27 = .ok (.if_icmp .le 5, 3) := by decide +kernel
theorem dX4_lot_30 : decode cX4_lot 30 = .ok (.iconst (-1), 1) := by decide +kernel
theorem dX4_lot_31 : decode cX4_lot 31 = .ok (.ireturn, 1) := by decide +kernel
theorem dX4_lot_32 : decode cX4_lot 32 = .ok (.iload_n 2, 1) := by decide +kernel
theorem dX4_lot_33 : decode cX4_lot 33 = .ok (.ifCond .ne 13, 3) := by decide +kernel
theorem dX4_lot_36 : decode cX4_lot 36 = .ok (.aload_n 0, 1) := by decide +kernel
theorem dX4_lot_37 : decode cX4_lot 37 = .ok (.getfield 10, 3) := by decide +kernel
theorem dX4_lot_40 : decode cX4_lot 40 = .ok (.getfield 113, 3) := by decide +kernel
theorem dX4_lot_43 : decode cX4_lot 43 = .ok (.iload_n 1, 1) := by decide +kernel
theorem dX4_lot_44 : decode cX4_lot 44 = .ok (.iaload, 1) := by decide +kernel
theorem dX4_lot_45 : decode cX4_lot 45 = .ok (.ireturn, 1) := by decide +kernel
theorem dX4_lot_46 : decode cX4_lot 46 = .ok (.aload_n 0, 1) := by decide +kernel
theorem dX4_lot_47 : decode cX4_lot 47 = .ok (.getfield 26, 3) := by decide +kernel
theorem dX4_lot_50 : decode cX4_lot 50 = .ok (.aload_n 0, 1) := by decide +kernel
theorem dX4_lot_51 : decode cX4_lot 51 = .ok (.getfield 10, 3) := by decide +kernel
theorem dX4_lot_54 : decode cX4_lot 54 = .ok (.invokevirtual 135, 3) := by decide +kernel
theorem dX4_lot_57 : decode cX4_lot 57 = .ok (.iload_n 2, 1) := by decide +kernel
theorem dX4_lot_58 : decode cX4_lot 58 = .ok (.iconst 1, 1) := by decide +kernel
theorem dX4_lot_59 : decode cX4_lot 59 = .ok (.if_icmp .ne 30, 3) := by decide +kernel
theorem dX4_lot_62 : decode cX4_lot 62 = .ok (.aload_n 0, 1) := by decide +kernel
theorem dX4_lot_63 : decode cX4_lot 63 = .ok (.getfield 26, 3) := by decide +kernel
theorem dX4_lot_66 : decode cX4_lot 66 = .ok (.getfield 139, 3) := by decide +kernel
theorem dX4_lot_69 : decode cX4_lot 69 = .ok (.iload_n 1, 1) := by decide +kernel
theorem dX4_lot_70 : decode cX4_lot 70 = .ok (.iaload, 1) := by decide +kernel
theorem dX4_lot_71 : decode cX4_lot 71 = .ok (.ifCond .ge 8, 3) := by decide +kernel
theorem dX4_lot_74 : decode cX4_lot 74 = .ok (.bipush (-4), 2) := by decide +kernel
theorem dX4_lot_76 : decode cX4_lot 76 = .ok (.goto 12, 3) := by decide +kernel
theorem dX4_lot_79 : decode cX4_lot 79 = .ok (.aload_n 0, 1) := by decide +kernel
theorem dX4_lot_80 : decode cX4_lot 80 = .ok (.getfield 26, 3) := by decide +kernel
theorem dX4_lot_83 : decode cX4_lot 83 = .ok (.getfield 139, 3) := by decide +kernel
theorem dX4_lot_86 : decode cX4_lot 86 = .ok (.iload_n 1, 1) := by decide +kernel
theorem dX4_lot_87 : decode cX4_lot 87 = .ok (.iaload, 1) := by decide +kernel
theorem dX4_lot_88 : decode cX4_lot 88 = .ok (.ireturn, 1) := by decide +kernel
theorem dX4_lot_89 : decode cX4_lot 89 = .ok (.iload_n 2, 1) := by decide +kernel
theorem dX4_lot_90 : decode cX4_lot 90 = .ok (.iconst 2, 1) := by decide +kernel
theorem dX4_lot_91 : decode cX4_lot 91 = .ok (.if_icmp .ne 30, 3) := by decide +kernel
theorem dX4_lot_94 : decode cX4_lot 94 = .ok (.aload_n 0, 1) := by decide +kernel
theorem dX4_lot_95 : decode cX4_lot 95 = .ok (.getfield 26, 3) := by decide +kernel
theorem dX4_lot_98 : decode cX4_lot 98 = .ok (.getfield 139, 3) := by decide +kernel
theorem dX4_lot_101 : decode cX4_lot 101 = .ok (.iload_n 1, 1) := by decide +kernel
theorem dX4_lot_102 : decode cX4_lot 102 = .ok (.iaload, 1) := by decide +kernel
theorem dX4_lot_103 : decode cX4_lot 103 = .ok (.ifCond .ge 8, 3) := by decide +kernel
theorem dX4_lot_106 : decode cX4_lot 106 = .ok (.bipush (-4), 2) := by decide +kernel
theorem dX4_lot_108 : decode cX4_lot 108 = .ok (.goto 12, 3) := by decide +kernel
theorem dX4_lot_111 : decode cX4_lot 111 = .ok (.aload_n 0, 1) := by decide +kernel
theorem dX4_lot_112 : decode cX4_lot 112 = .ok (.getfield 26, 3) := by decide +kernel
theorem dX4_lot_115 : decode cX4_lot 115 = .ok (.getfield 142, 3) := by decide +kernel
theorem dX4_lot_118 : decode cX4_lot 118 = .ok (.iload_n 1, 1) := by decide +kernel
theorem dX4_lot_119 : decode cX4_lot 119 = .ok (.iaload, 1) := by decide +kernel
theorem dX4_lot_120 : decode cX4_lot 120 = .ok (.ireturn, 1) := by decide +kernel
theorem dX4_lot_121 : decode cX4_lot 121 = .ok (.iload_n 2, 1) := by decide +kernel
theorem dX4_lot_122 : decode cX4_lot 122 = .ok (.iconst 3, 1) := by decide +kernel
theorem dX4_lot_123 : decode cX4_lot 123 = .ok (.if_icmp .ne 30, 3) := by decide +kernel
theorem dX4_lot_126 : decode cX4_lot 126 = .ok (.aload_n 0, 1) := by decide +kernel
theorem dX4_lot_127 : decode cX4_lot 127 = .ok (.getfield 26, 3) := by decide +kernel
theorem dX4_lot_130 : decode cX4_lot 130 = .ok (.getfield 145, 3) := by decide +kernel
theorem dX4_lot_133 : decode cX4_lot 133 = .ok (.iload_n 1, 1) := by decide +kernel
theorem dX4_lot_134 : decode cX4_lot 134 = .ok (.iaload, 1) := by decide +kernel
theorem dX4_lot_135 : decode cX4_lot 135 = .ok (.ifCond .ge 8, 3) := by decide +kernel
theorem dX4_lot_138 : decode cX4_lot 138 = .ok (.bipush (-4), 2) := by decide +kernel
theorem dX4_lot_140 : decode cX4_lot 140 = .ok (.goto 12, 3) := by decide +kernel
theorem dX4_lot_143 : decode cX4_lot 143 = .ok (.aload_n 0, 1) := by decide +kernel
theorem dX4_lot_144 : decode cX4_lot 144 = .ok (.getfield 26, 3) := by decide +kernel
theorem dX4_lot_147 : decode cX4_lot 147 = .ok (.getfield 145, 3) := by decide +kernel
theorem dX4_lot_150 : decode cX4_lot 150 = .ok (.iload_n 1, 1) := by decide +kernel
theorem dX4_lot_151 : decode cX4_lot 151 = .ok (.iaload, 1) := by decide +kernel
theorem dX4_lot_152 : decode cX4_lot 152 = .ok (.ireturn, 1) := by decide +kernel
theorem dX4_lot_153 : decode cX4_lot 153 = .ok (.aload_n 0, 1) := by decide +kernel
theorem dX4_lot_154 : decode cX4_lot 154 = .ok (.getfield 26, 3) := by decide +kernel
theorem dX4_lot_157 : decode cX4_lot 157 = .ok (.getfield 148, 3) := by decide +kernel
theorem dX4_lot_160 : decode cX4_lot 160 = .ok (.iload_n 1, 1) := by decide +kernel
theorem dX4_lot_161 : decode cX4_lot 161 = .ok (.iaload, 1) := by decide +kernel
theorem dX4_lot_162 : decode cX4_lot 162 = .ok (.ireturn, 1) := by decide +kernel
theorem dX4_gain_0 : decode cX4_gain 0 = .ok (.aload_n 0, 1) := by decide +kernel
theorem dX4_gain_1 : decode cX4_gain 1 = .ok (.getfield 10, 3) := by decide +kernel
theorem dX4_gain_4 : decode cX4_gain 4 = .ok (.iload_n 1, 1) := by decide +kernel
theorem dX4_gain_5 : decode cX4_gain 5 = .ok (.invokevirtual 80, 3) := by decide +kernel
theorem dX4_gain_8 : decode cX4_gain 8 = .ok (.ifCond .ne 6, 3) := by decide +kernel
theorem dX4_gain_11 : decode cX4_gain 11 = .ok (.ldc 93, 2) := by decide +kernel
theorem dX4_gain_13 : decode cX4_gain 13 = .ok (.ireturn, 1) := by decide +kernel
theorem dX4_gain_14 : decode cX4_gain 14 = .ok (.aload_n 0, 1) := by decide +kernel
theorem dX4_gain_15 : decode cX4_gain 15 = .ok (.getfield 26, 3) := by decide +kernel
theorem dX4_gain_18 : decode cX4_gain 18 = .ok (.aload_n 0, 1) := by decide +kernel
theorem dX4_gain_19 : decode cX4_gain 19 = .ok (.getfield 10, 3) := by decide +kernel
theorem dX4_gain_22 : decode cX4_gain 22 = .ok (.invokevirtual 135, 3) := by decide +kernel
theorem dX4_gain_25 : decode cX4_gain 25 = .ok (.aload_n 0, 1) := by decide +kernel
theorem dX4_gain_26 : decode cX4_gain 26 = .ok (.getfield 26, 3) := by decide +kernel
theorem dX4_gain_29 : decode cX4_gain 29 = .ok (.getfield 151, 3) := by decide +kernel
theorem dX4_gain_32 : decode cX4_gain 32 = .ok (.iload_n 1, 1) := by decide +kernel
theorem dX4_gain_33 : decode cX4_gain 33 = .ok (.iaload, 1) := by decide +kernel
theorem dX4_gain_34 : decode cX4_gain 34 = .ok (.ireturn, 1) := by decide +kernel
theorem dX4_till_0 : decode cX4_till 0 = .ok (.iload_n 1, 1) := by decide +kernel
theorem dX4_till_1 : decode cX4_till 1 = .ok (.ifCond .lt 8, 3) := by decide +kernel
theorem dX4_till_4 : decode cX4_till 4 = .ok (.iload_n 1, 1) := by decide +kernel
theorem dX4_till_5 : decode cX4_till 5 = .ok (.iconst 2, 1) := by decide +kernel
theorem dX4_till_6 : decode cX4_till 6 = .ok (.if_icmp .le 5, 3) := by decide +kernel
theorem dX4_till_9 : decode cX4_till 9 = .ok (.iconst (-1), 1) := by decide +kernel
theorem dX4_till_10 : decode cX4_till 10 = .ok (.ireturn, 1) := by decide +kernel
theorem dX4_till_11 : decode cX4_till 11 = .ok (.aload_n 0, 1) := by decide +kernel
theorem dX4_till_12 : decode cX4_till 12 = .ok (.getfield 26, 3) := by decide +kernel
theorem dX4_till_15 : decode cX4_till 15 = .ok (.aload_n 0, 1) := by decide +kernel
theorem dX4_till_16 : decode cX4_till 16 = .ok (.getfield 10, 3) := by decide +kernel
theorem dX4_till_19 : decode cX4_till 19 = .ok (.invokevirtual 154, 3) := by decide +kernel
theorem dX4_till_22 : decode cX4_till 22 = .ok (.aload_n 0, 1) := by decide +kernel
theorem dX4_till_23 : decode cX4_till 23 = .ok (.getfield 26, 3) := by decide +kernel
theorem dX4_till_26 : decode cX4_till 26 = .ok (.aload_n 0, 1) := by decide +kernel
theorem dX4_till_27 : decode cX4_till 27 = .ok (.getfield 10, 3) := by decide +kernel
theorem dX4_till_30 : decode cX4_till 30 = .ok (.iload_n 1, 1) := by decide +kernel
theorem dX4_till_31 : decode cX4_till 31 = .ok (.invokevirtual 157, 3) := by decide +kernel
theorem dX4_till_34 : decode cX4_till 34 = .ok (.ireturn, 1) := by decide +kernel
theorem dX4_morning_0 : decode cX4_morning 0 = .ok (.aload_n 0, 1) := by decide +kernel
theorem dX4_morning_1 : decode cX4_morning 1 = .ok (.getfield 10, 3) := by decide +kernel
theorem dX4_morning_4 : decode cX4_morning 4 = .ok (.getfield 122, 3) := by decide +kernel
theorem dX4_morning_7 : decode cX4_morning 7 = .ok (.ifCond .gt 6, 3) := by decide +kernel
theorem dX4_morning_10 : decode cX4_morning 10 = .ok (.bipush (-2), 2) := by decide +kernel
theorem dX4_morning_12 : decode cX4_morning 12 = .ok (.ireturn, 1) := by decide +kernel
theorem dX4_morning_13 : decode cX4_morning 13 = .ok (.aload_n 0, 1) := by decide +kernel
theorem dX4_morning_14 : decode cX4_morning 14 = .ok (.getfield 10, 3) := by decide +kernel
theorem dX4_morning_17 : decode cX4_morning 17 = .ok (.getfield 125, 3) := by decide +kernel
theorem dX4_morning_20 : decode cX4_morning 20 = .ok (.sipush 9999, 3) := by decide +kernel
theorem dX4_morning_23 : decode cX4_morning 23 = .ok (.if_icmp .lt 6, 3) := by decide +kernel
theorem dX4_morning_26 : decode cX4_morning 26 = .ok (.bipush (-3), 2) := by decide +kernel
theorem dX4_morning_28 : decode cX4_morning 28 = .ok (.ireturn, 1) := by decide +kernel
theorem dX4_morning_29 : decode cX4_morning 29 = .ok (.aload_n 0, 1) := by decide +kernel
theorem dX4_morning_30 : decode cX4_morning 30 = .ok (.getfield 26, 3) := by decide +kernel
theorem dX4_morning_33 : decode cX4_morning 33 = .ok (.aload_n 0, 1) := by decide +kernel
theorem dX4_morning_34 : decode cX4_morning 34 = .ok (.getfield 10, 3) := by decide +kernel
theorem dX4_morning_37 : decode cX4_morning 37 = .ok (.invokevirtual 154, 3) := by decide +kernel
theorem dX4_morning_40 : decode cX4_morning 40 = .ok (.aload_n 0, 1) := by decide +kernel
theorem dX4_morning_41 : decode cX4_morning 41 = .ok (.getfield 26, 3) := by decide +kernel
theorem dX4_morning_44 : decode cX4_morning 44 = .ok (.aload_n 0, 1) := by decide +kernel
theorem dX4_morning_45 : decode cX4_morning 45 = .ok (.getfield 10, 3) := by decide +kernel
theorem dX4_morning_48 : decode cX4_morning 48 = .ok (.invokevirtual 161, 3) := by decide +kernel
theorem dX4_morning_51 : decode cX4_morning 51 = .ok (.iconst 0, 1) := by decide +kernel
theorem dX4_morning_52 : decode cX4_morning 52 = .ok (.istore_n 1, 1) := by decide +kernel
theorem dX4_morning_53 : decode cX4_morning 53 = .ok (.iconst 0, 1) := by decide +kernel
theorem dX4_morning_54 : decode cX4_morning 54 = .ok (.istore_n 2, 1) := by decide +kernel
theorem dX4_morning_55 : decode cX4_morning 55 = .ok (.iload_n 2, 1) := by decide +kernel
theorem dX4_morning_56 : decode cX4_morning 56 = .ok (.bipush 6, 2) := by decide +kernel
theorem dX4_morning_58 : decode cX4_morning 58 = .ok (.if_icmp .ge 60, 3) := by decide +kernel
theorem dX4_morning_61 : decode cX4_morning 61 = .ok (.iload_n 2, 1) := by decide +kernel
theorem dX4_morning_62 : decode cX4_morning 62 = .ok (.aload_n 0, 1) := by decide +kernel
theorem dX4_morning_63 : decode cX4_morning 63 = .ok (.getfield 10, 3) := by decide +kernel
theorem dX4_morning_66 : decode cX4_morning 66 = .ok (.getfield 122, 3) := by decide +kernel
theorem dX4_morning_69 : decode cX4_morning 69 = .ok (.if_icmp .ge 49, 3) := by decide +kernel
theorem dX4_morning_72 : decode cX4_morning 72 = .ok (.aload_n 0, 1) := by decide +kernel
theorem dX4_morning_73 : decode cX4_morning 73 = .ok (.getfield 26, 3) := by decide +kernel
theorem dX4_morning_76 : decode cX4_morning 76 = .ok (.aload_n 0, 1) := by decide +kernel
theorem dX4_morning_77 : decode cX4_morning 77 = .ok (.getfield 10, 3) := by decide +kernel
theorem dX4_morning_80 : decode cX4_morning 80 = .ok (.iload_n 2, 1) := by decide +kernel
theorem dX4_morning_81 : decode cX4_morning 81 = .ok (.iconst 0, 1) := by decide +kernel
theorem dX4_morning_82 : decode cX4_morning 82 = .ok (.invokevirtual 164, 3) := by decide +kernel
theorem dX4_morning_85 : decode cX4_morning 85 = .ok (.aload_n 0, 1) := by decide +kernel
theorem dX4_morning_86 : decode cX4_morning 86 = .ok (.getfield 26, 3) := by decide +kernel
theorem dX4_morning_89 : decode cX4_morning 89 = .ok (.aload_n 0, 1) := by decide +kernel
theorem dX4_morning_90 : decode cX4_morning 90 = .ok (.getfield 10, 3) := by decide +kernel
theorem dX4_morning_93 : decode cX4_morning 93 = .ok (.iload_n 2, 1) := by decide +kernel
theorem dX4_morning_94 : decode cX4_morning 94 = .ok (.invokevirtual 168, 3) := by decide +kernel
theorem dX4_morning_97 : decode cX4_morning 97 = .ok (.iload_n 1, 1) := by decide +kernel
theorem dX4_morning_98 : decode cX4_morning 98 = .ok (.aload_n 0, 1) := by decide +kernel
theorem dX4_morning_99 : decode cX4_morning 99 = .ok (.getfield 26, 3) := by decide +kernel
theorem dX4_morning_102 : decode cX4_morning 102 = .ok (.aload_n 0, 1) := by decide +kernel
theorem dX4_morning_103 : decode cX4_morning 103 = .ok (.getfield 10, 3) := by decide +kernel
theorem dX4_morning_106 : decode cX4_morning 106 = .ok (.iload_n 2, 1) := by decide +kernel
theorem dX4_morning_107 : decode cX4_morning 107 = .ok (.invokevirtual 172, 3) := by decide +kernel
theorem dX4_morning_110 : decode cX4_morning 110 = .ok (.iadd, 1) := by decide +kernel
theorem dX4_morning_111 : decode cX4_morning 111 = .ok (.istore_n 1, 1) := by decide +kernel
theorem dX4_morning_112 : decode cX4_morning 112 = .ok (.iinc 2 1, 3) := by decide +kernel
theorem dX4_morning_115 : decode cX4_morning 115 = .ok (.goto (-60), 3) := by decide +kernel
theorem dX4_morning_118 : decode cX4_morning 118 = .ok (.aload_n 0, 1) := by decide +kernel
theorem dX4_morning_119 : decode cX4_morning 119 = .ok (.getfield 26, 3) := by decide +kernel
theorem dX4_morning_122 : decode cX4_morning 122 = .ok (.getfield 175, 3) := by decide +kernel
theorem dX4_morning_125 : decode cX4_morning 125 = .ok (.iconst 0, 1) := by decide +kernel
theorem dX4_morning_126 : decode cX4_morning 126 = .ok (.aload_n 0, 1) := by decide +kernel
theorem dX4_morning_127 : decode cX4_morning 127 = .ok (.getfield 10, 3) := by decide +kernel
theorem dX4_morning_130 : decode cX4_morning 130 = .ok (.getfield 77, 3) := by decide +kernel
theorem dX4_morning_133 : decode cX4_morning 133 = .ok (.iconst 0, 1) := by decide +kernel
theorem dX4_morning_134 : decode cX4_morning 134 = .ok (.iconst 5, 1) := by decide +kernel
theorem dX4_morning_135 : decode cX4_morning 135 = .ok (.invokestatic 116, 3) := by decide +kernel
theorem dX4_morning_138 : decode cX4_morning 138 = .ok (.aload_n 0, 1) := by decide +kernel
theorem dX4_morning_139 : decode cX4_morning 139 = .ok (.getfield 10, 3) := by decide +kernel
theorem dX4_morning_142 : decode cX4_morning 142 = .ok (.dup, 1) := by decide +kernel
theorem dX4_morning_143 : decode cX4_morning 143 = .ok (.getfield 125, 3) := by decide +kernel
theorem dX4_morning_146 : decode cX4_morning 146 = .ok (.iconst 1, 1) := by decide +kernel
theorem dX4_morning_147 : decode cX4_morning 147 = .ok (.iadd, 1) := by decide +kernel
theorem dX4_morning_148 : decode cX4_morning 148 = .ok (.putfield 125, 3) := by decide +kernel
theorem dX4_morning_151 : decode cX4_morning 151 = .ok (.iload_n 1, 1) := by decide +kernel
theorem dX4_morning_152 : decode cX4_morning 152 = .ok (.ireturn, 1) := by decide +kernel
theorem dX4_span_0 : decode cX4_span 0 = .ok (.aload_n 0, 1) := by decide +kernel
theorem dX4_span_1 : decode cX4_span 1 = .ok (.getfield 10, 3) := by decide +kernel
theorem dX4_span_4 : decode cX4_span 4 = .ok (.iload_n 1, 1) := by decide +kernel
theorem dX4_span_5 : decode cX4_span 5 = .ok (.invokevirtual 80, 3) := by decide +kernel
theorem dX4_span_8 : decode cX4_span 8 = .ok (.ifCond .eq 19, 3) := by decide +kernel
theorem dX4_span_11 : decode cX4_span 11 = .ok (.iload_n 2, 1) := by decide +kernel
theorem dX4_span_12 : decode cX4_span 12 = .ok (.invokestatic 84, 3) := by decide +kernel
theorem dX4_span_15 : decode cX4_span 15 = .ok (.ifCond .eq 12, 3) := by decide +kernel
theorem dX4_span_18 : decode cX4_span 18 = .ok (.iload_n 3, 1) := by decide +kernel
theorem dX4_span_19 : decode cX4_span 19 = .ok (.ifCond .lt 8, 3) := by decide +kernel
theorem dX4_span_22 : decode cX4_span 22 = .ok (.iload_n 3, 1) := by decide +kernel
theorem dX4_span_23 : decode cX4_span 23 = .ok (.iconst 1, 1) := by decide +kernel
theorem dX4_span_24 : decode cX4_span 24 = .ok (.if_icmp .le 5, 3) := by decide +kernel
theorem dX4_span_27 : decode cX4_span 27 = .ok (.iconst (-1), 1) := by decide +kernel
theorem dX4_span_28 : decode cX4_span 28 = .ok (.ireturn, 1) := by decide +kernel
theorem dX4_span_29 : decode cX4_span 29 = .ok (.iload_n 1, 1) := by decide +kernel
theorem dX4_span_30 : decode cX4_span 30 = .ok (.iconst 4, 1) := by decide +kernel
theorem dX4_span_31 : decode cX4_span 31 = .ok (.imul, 1) := by decide +kernel
theorem dX4_span_32 : decode cX4_span 32 = .ok (.iload_n 2, 1) := by decide +kernel
theorem dX4_span_33 : decode cX4_span 33 = .ok (.iadd, 1) := by decide +kernel
theorem dX4_span_34 : decode cX4_span 34 = .ok (.istore 4, 2) := by decide +kernel
theorem dX4_span_36 : decode cX4_span 36 = .ok (.iload_n 3, 1) := by decide +kernel
theorem dX4_span_37 : decode cX4_span 37 = .ok (.ifCond .ne 16, 3) := by decide +kernel
theorem dX4_span_40 : decode cX4_span 40 = .ok (.aload_n 0, 1) := by decide +kernel
theorem dX4_span_41 : decode cX4_span 41 = .ok (.getfield 10, 3) := by decide +kernel
theorem dX4_span_44 : decode cX4_span 44 = .ok (.getfield 176, 3) := by decide +kernel
theorem dX4_span_47 : decode cX4_span 47 = .ok (.iload 4, 2) := by decide +kernel
theorem dX4_span_49 : decode cX4_span 49 = .ok (.iaload, 1) := by decide +kernel
theorem dX4_span_50 : decode cX4_span 50 = .ok (.goto 13, 3) := by decide +kernel
theorem dX4_span_53 : decode cX4_span 53 = .ok (.aload_n 0, 1) := by decide +kernel
theorem dX4_span_54 : decode cX4_span 54 = .ok (.getfield 10, 3) := by decide +kernel
theorem dX4_span_57 : decode cX4_span 57 = .ok (.getfield 179, 3) := by decide +kernel
theorem dX4_span_60 : decode cX4_span 60 = .ok (.iload 4, 2) := by decide +kernel
theorem dX4_span_62 : decode cX4_span 62 = .ok (.iaload, 1) := by decide +kernel
theorem dX4_span_63 : decode cX4_span 63 = .ok (.ireturn, 1) := by decide +kernel
theorem dX4_hush_0 : decode cX4_hush 0 = .ok (.aload_n 0, 1) := by decide +kernel
theorem dX4_hush_1 : decode cX4_hush 1 = .ok (.getfield 10, 3) := by decide +kernel
theorem dX4_hush_4 : decode cX4_hush 4 = .ok (.invokevirtual 182, 3) := by decide +kernel
theorem dX4_hush_7 : decode cX4_hush 7 = .ok (.ireturn, 1) := by decide +kernel
theorem dX4_best_0 : decode cX4_best 0 = .ok (.aload_n 0, 1) := by decide +kernel
theorem dX4_best_1 : decode cX4_best 1 = .ok (.getfield 10, 3) := by decide +kernel
theorem dX4_best_4 : decode cX4_best 4 = .ok (.iload_n 1, 1) := by decide +kernel
theorem dX4_best_5 : decode cX4_best 5 = .ok (.invokevirtual 80, 3) := by decide +kernel
theorem dX4_best_8 : decode cX4_best 8 = .ok (.ifCond .ne 5, 3) := by decide +kernel
theorem dX4_best_11 : decode cX4_best 11 = .ok (.iconst (-1), 1) := by decide +kernel
theorem dX4_best_12 : decode cX4_best 12 = .ok (.ireturn, 1) := by decide +kernel
theorem dX4_best_13 : decode cX4_best 13 = .ok (.aload_n 0, 1) := by decide +kernel
theorem dX4_best_14 : decode cX4_best 14 = .ok (.getfield 26, 3) := by decide +kernel
theorem dX4_best_17 : decode cX4_best 17 = .ok (.aload_n 0, 1) := by decide +kernel
theorem dX4_best_18 : decode cX4_best 18 = .ok (.getfield 10, 3) := by decide +kernel
theorem dX4_best_21 : decode cX4_best 21 = .ok (.invokevirtual 154, 3) := by decide +kernel
theorem dX4_best_24 : decode cX4_best 24 = .ok (.iconst 0, 1) := by decide +kernel
theorem dX4_best_25 : decode cX4_best 25 = .ok (.istore_n 2, 1) := by decide +kernel
theorem dX4_best_26 : decode cX4_best 26 = .ok (.iconst 0, 1) := by decide +kernel
theorem dX4_best_27 : decode cX4_best 27 = .ok (.istore_n 3, 1) := by decide +kernel
theorem dX4_best_28 : decode cX4_best 28 = .ok (.iconst 0, 1) := by decide +kernel
theorem dX4_best_29 : decode cX4_best 29 = .ok (.istore 4, 2) := by decide +kernel
theorem dX4_best_31 : decode cX4_best 31 = .ok (.iload 4, 2) := by decide +kernel
theorem dX4_best_33 : decode cX4_best 33 = .ok (.bipush 40, 2) := by decide +kernel
theorem dX4_best_35 : decode cX4_best 35 = .ok (.if_icmp .gt 60, 3) := by decide +kernel
theorem dX4_best_38 : decode cX4_best 38 = .ok (.aload_n 0, 1) := by decide +kernel
theorem dX4_best_39 : decode cX4_best 39 = .ok (.getfield 26, 3) := by decide +kernel
theorem dX4_best_42 : decode cX4_best 42 = .ok (.getfield 185, 3) := by decide +kernel
theorem dX4_best_45 : decode cX4_best 45 = .ok (.iload_n 1, 1) := by decide +kernel
theorem dX4_best_46 : decode cX4_best 46 = .ok (.iload 4, 2) := by decide +kernel
theorem dX4_best_48 : decode cX4_best 48 = .ok (.iastore, 1) := by decide +kernel
theorem dX4_best_49 : decode cX4_best 49 = .ok (.aload_n 0, 1) := by decide +kernel
theorem dX4_best_50 : decode cX4_best 50 = .ok (.getfield 26, 3) := by decide +kernel
theorem dX4_best_53 : decode cX4_best 53 = .ok (.aload_n 0, 1) := by decide +kernel
theorem dX4_best_54 : decode cX4_best 54 = .ok (.getfield 10, 3) := by decide +kernel
theorem dX4_best_57 : decode cX4_best 57 = .ok (.iconst 0, 1) := by decide +kernel
theorem dX4_best_58 : decode cX4_best 58 = .ok (.invokevirtual 186, 3) := by decide +kernel
theorem dX4_best_61 : decode cX4_best 61 = .ok (.aload_n 0, 1) := by decide +kernel
theorem dX4_best_62 : decode cX4_best 62 = .ok (.getfield 26, 3) := by decide +kernel
theorem dX4_best_65 : decode cX4_best 65 = .ok (.getfield 151, 3) := by decide +kernel
theorem dX4_best_68 : decode cX4_best 68 = .ok (.iload_n 1, 1) := by decide +kernel
theorem dX4_best_69 : decode cX4_best 69 = .ok (.iaload, 1) := by decide +kernel
theorem dX4_best_70 : decode cX4_best 70 = .ok (.istore 5, 2) := by decide +kernel
theorem dX4_best_72 : decode cX4_best 72 = .ok (.iload 4, 2) := by decide +kernel
theorem dX4_best_74 : decode cX4_best 74 = .ok (.ifCond .eq 9, 3) := by decide +kernel
theorem dX4_best_77 : decode cX4_best 77 = .ok (.iload 5, 2) := by decide +kernel
theorem dX4_best_79 : decode cX4_best 79 = .ok (.iload_n 3, 1) := by decide +kernel
theorem dX4_best_80 : decode cX4_best 80 = .ok (.if_icmp .le 9, 3) := by decide +kernel
theorem dX4_best_83 : decode cX4_best 83 = .ok (.iload 4, 2) := by decide +kernel
theorem dX4_best_85 : decode cX4_best 85 = .ok (.istore_n 2, 1) := by decide +kernel
theorem dX4_best_86 : decode cX4_best 86 = .ok (.iload 5, 2) := by decide +kernel
theorem dX4_best_88 : decode cX4_best 88 = .ok (.istore_n 3, 1) := by decide +kernel
theorem dX4_best_89 : decode cX4_best 89 = .ok (.iinc 4 1, 3) := by decide +kernel
theorem dX4_best_92 : decode cX4_best 92 = .ok (.goto (-61), 3) := by decide +kernel
theorem dX4_best_95 : decode cX4_best 95 = .ok (.iload_n 2, 1) := by decide +kernel
theorem dX4_best_96 : decode cX4_best 96 = .ok (.ireturn, 1) := by decide +kernel
theorem dX4_rests_0 : decode cX4_rests 0 = .ok (.iload_n 1, 1) := by decide +kernel
theorem dX4_rests_1 : decode cX4_rests 1 = .ok (.iconst (-1), 1) := by decide +kernel
theorem dX4_rests_2 : decode cX4_rests 2 = .ok (.if_icmp .lt 8, 3) := by decide +kernel
theorem dX4_rests_5 : decode cX4_rests 5 = .ok (.iload_n 1, 1) := by decide +kernel
theorem dX4_rests_6 : decode cX4_rests 6 = .ok (.iconst 5, 1) := by decide +kernel
theorem dX4_rests_7 : decode cX4_rests 7 = .ok (.if_icmp .lt 5, 3) := by decide +kernel
theorem dX4_rests_10 : decode cX4_rests 10 = .ok (.iconst (-1), 1) := by decide +kernel
theorem dX4_rests_11 : decode cX4_rests 11 = .ok (.ireturn, 1) := by decide +kernel
theorem dX4_rests_12 : decode cX4_rests 12 = .ok (.aload_n 0, 1) := by decide +kernel
theorem dX4_rests_13 : decode cX4_rests 13 = .ok (.getfield 10, 3) := by decide +kernel
theorem dX4_rests_16 : decode cX4_rests 16 = .ok (.getfield 71, 3) := by decide +kernel
theorem dX4_rests_19 : decode cX4_rests 19 = .ok (.ifCond .gt 6, 3) := by decide +kernel
theorem dX4_rests_22 : decode cX4_rests 22 = .ok (.bipush (-2), 2) := by decide +kernel
theorem dX4_rests_24 : decode cX4_rests 24 = .ok (.ireturn, 1) := by decide +kernel
theorem dX4_rests_25 : decode cX4_rests 25 = .ok (.iload_n 1, 1) := by decide +kernel
theorem dX4_rests_26 : decode cX4_rests 26 = .ok (.aload_n 0, 1) := by decide +kernel
theorem dX4_rests_27 : decode cX4_rests 27 = .ok (.getfield 10, 3) := by decide +kernel
theorem dX4_rests_30 : decode cX4_rests 30 = .ok (.getfield 71, 3) := by decide +kernel
theorem dX4_rests_33 : decode cX4_rests 33 = .ok (.if_icmp .lt 6, 3) := by decide +kernel
theorem dX4_rests_36 : decode cX4_rests 36 = .ok (.bipush (-4), 2) := by decide +kernel
theorem dX4_rests_38 : decode cX4_rests 38 = .ok (.ireturn, 1) := by decide +kernel
theorem dX4_rests_39 : decode cX4_rests 39 = .ok (.aload_n 0, 1) := by decide +kernel
theorem dX4_rests_40 : decode cX4_rests 40 = .ok (.invokevirtual 189, 3) := by decide +kernel
theorem dX4_rests_43 : decode cX4_rests 43 = .ok (.istore_n 2, 1) := by decide +kernel
theorem dX4_rests_44 : decode cX4_rests 44 = .ok (.iload_n 1, 1) := by decide +kernel
theorem dX4_rests_45 : decode cX4_rests 45 = .ok (.ifCond .ge 5, 3) := by decide +kernel
theorem dX4_rests_48 : decode cX4_rests 48 = .ok (.iload_n 2, 1) := by decide +kernel
theorem dX4_rests_49 : decode cX4_rests 49 = .ok (.ireturn, 1) := by decide +kernel
theorem dX4_rests_50 : decode cX4_rests 50 = .ok (.aload_n 0, 1) := by decide +kernel
theorem dX4_rests_51 : decode cX4_rests 51 = .ok (.getfield 48, 3) := by decide +kernel
theorem dX4_rests_54 : decode cX4_rests 54 = .ok (.ifCond .ge 8, 3) := by decide +kernel
theorem dX4_rests_57 : decode cX4_rests 57 = .ok (.bipush (-4), 2) := by decide +kernel
theorem dX4_rests_59 : decode cX4_rests 59 = .ok (.goto 15, 3) := by decide +kernel
theorem dX4_rests_62 : decode cX4_rests 62 = .ok (.bipush 8, 2) := by decide +kernel
theorem dX4_rests_64 : decode cX4_rests 64 = .ok (.aload_n 0, 1) := by decide +kernel
theorem dX4_rests_65 : decode cX4_rests 65 = .ok (.aload_n 0, 1) := by decide +kernel
theorem dX4_rests_66 : decode cX4_rests 66 = .ok (.getfield 48, 3) := by decide +kernel
theorem dX4_rests_69 : decode cX4_rests 69 = .ok (.iload_n 1, 1) := by decide +kernel
theorem dX4_rests_70 : decode cX4_rests 70 = .ok (.invokevirtual 192, 3) := by decide +kernel
theorem dX4_rests_73 : decode cX4_rests 73 = .ok (.imul, 1) := by decide +kernel
theorem dX4_rests_74 : decode cX4_rests 74 = .ok (.ireturn, 1) := by decide +kernel
theorem dX4_order_0 : decode cX4_order 0 = .ok (.iload_n 1, 1) := by decide +kernel
theorem dX4_order_1 : decode cX4_order 1 = .ok (.iconst (-1), 1) := by decide +kernel
theorem dX4_order_2 : decode cX4_order 2 = .ok (.if_icmp .lt 9, 3) := by decide +kernel
theorem dX4_order_5 : decode cX4_order 5 = .ok (.iload_n 1, 1) := by decide +kernel
theorem dX4_order_6 : decode cX4_order 6 = .ok (.bipush 6, 2) := by decide +kernel
theorem dX4_order_8 : decode cX4_order 8 = .ok (.if_icmp .lt 5, 3) := by decide +kernel
theorem dX4_order_11 : decode cX4_order 11 = .ok (.iconst (-1), 1) := by decide +kernel
theorem dX4_order_12 : decode cX4_order 12 = .ok (.ireturn, 1) := by decide +kernel
theorem dX4_order_13 : decode cX4_order 13 = .ok (.aload_n 0, 1) := by decide +kernel
theorem dX4_order_14 : decode cX4_order 14 = .ok (.getfield 10, 3) := by decide +kernel
theorem dX4_order_17 : decode cX4_order 17 = .ok (.getfield 122, 3) := by decide +kernel
theorem dX4_order_20 : decode cX4_order 20 = .ok (.ifCond .gt 6, 3) := by decide +kernel
theorem dX4_order_23 : decode cX4_order 23 = .ok (.bipush (-2), 2) := by decide +kernel
theorem dX4_order_25 : decode cX4_order 25 = .ok (.ireturn, 1) := by decide +kernel
theorem dX4_order_26 : decode cX4_order 26 = .ok (.iload_n 1, 1) := by decide +kernel
theorem dX4_order_27 : decode cX4_order 27 = .ok (.aload_n 0, 1) := by decide +kernel
theorem dX4_order_28 : decode cX4_order 28 = .ok (.getfield 10, 3) := by decide +kernel
theorem dX4_order_31 : decode cX4_order 31 = .ok (.getfield 122, 3) := by decide +kernel
theorem dX4_order_34 : decode cX4_order 34 = .ok (.if_icmp .lt 6, 3) := by decide +kernel
theorem dX4_order_37 : decode cX4_order 37 = .ok (.bipush (-4), 2) := by decide +kernel
theorem dX4_order_39 : decode cX4_order 39 = .ok (.ireturn, 1) := by decide +kernel
theorem dX4_order_40 : decode cX4_order 40 = .ok (.aload_n 0, 1) := by decide +kernel
theorem dX4_order_41 : decode cX4_order 41 = .ok (.invokevirtual 195, 3) := by decide +kernel
theorem dX4_order_44 : decode cX4_order 44 = .ok (.istore_n 2, 1) := by decide +kernel
theorem dX4_order_45 : decode cX4_order 45 = .ok (.iload_n 1, 1) := by decide +kernel
theorem dX4_order_46 : decode cX4_order 46 = .ok (.ifCond .ge 7, 3) := by decide +kernel
theorem dX4_order_49 : decode cX4_order 49 = .ok (.iload_n 2, 1) := by decide +kernel
theorem dX4_order_50 : decode cX4_order 50 = .ok (.goto 9, 3) := by decide +kernel
theorem dX4_order_53 : decode cX4_order 53 = .ok (.aload_n 0, 1) := by decide +kernel
theorem dX4_order_54 : decode cX4_order 54 = .ok (.getfield 55, 3) := by decide +kernel
theorem dX4_order_57 : decode cX4_order 57 = .ok (.iload_n 1, 1) := by decide +kernel
theorem dX4_order_58 : decode cX4_order 58 = .ok (.iaload, 1) := by decide +kernel
theorem dX4_order_59 : decode cX4_order 59 = .ok (.ireturn, 1) := by decide +kernel
theorem dX4_ring_0 : decode cX4_ring 0 = .ok (.aload_n 0, 1) := by decide +kernel
theorem dX4_ring_1 : decode cX4_ring 1 = .ok (.iload_n 1, 1) := by decide +kernel
theorem dX4_ring_2 : decode cX4_ring 2 = .ok (.invokevirtual 198, 3) := by decide +kernel
theorem dX4_ring_5 : decode cX4_ring 5 = .ok (.ifCond .ne 6, 3) := by decide +kernel
theorem dX4_ring_8 : decode cX4_ring 8 = .ok (.ldc 93, 2) := by decide +kernel
theorem dX4_ring_10 : decode cX4_ring 10 = .ok (.ireturn, 1) := by decide +kernel
theorem dX4_ring_11 : decode cX4_ring 11 = .ok (.aload_n 0, 1) := by decide +kernel
theorem dX4_ring_12 : decode cX4_ring 12 = .ok (.getfield 26, 3) := by decide +kernel
theorem dX4_ring_15 : decode cX4_ring 15 = .ok (.aload_n 0, 1) := by decide +kernel
theorem dX4_ring_16 : decode cX4_ring 16 = .ok (.getfield 10, 3) := by decide +kernel
theorem dX4_ring_19 : decode cX4_ring 19 = .ok (.invokevirtual 154, 3) := by decide +kernel
theorem dX4_ring_22 : decode cX4_ring 22 = .ok (.aload_n 0, 1) := by decide +kernel
theorem dX4_ring_23 : decode cX4_ring 23 = .ok (.getfield 26, 3) := by decide +kernel
theorem dX4_ring_26 : decode cX4_ring 26 = .ok (.aload_n 0, 1) := by decide +kernel
theorem dX4_ring_27 : decode cX4_ring 27 = .ok (.getfield 10, 3) := by decide +kernel
theorem dX4_ring_30 : decode cX4_ring 30 = .ok (.iload_n 1, 1) := by decide +kernel
theorem dX4_ring_31 : decode cX4_ring 31 = .ok (.invokevirtual 186, 3) := by decide +kernel
theorem dX4_ring_34 : decode cX4_ring 34 = .ok (.aload_n 0, 1) := by decide +kernel
theorem dX4_ring_35 : decode cX4_ring 35 = .ok (.getfield 26, 3) := by decide +kernel
theorem dX4_ring_38 : decode cX4_ring 38 = .ok (.iload_n 1, 1) := by decide +kernel
theorem dX4_ring_39 : decode cX4_ring 39 = .ok (.invokevirtual 201, 3) := by decide +kernel
theorem dX4_ring_42 : decode cX4_ring 42 = .ok (.istore_n 2, 1) := by decide +kernel
theorem dX4_ring_43 : decode cX4_ring 43 = .ok (.aload_n 0, 1) := by decide +kernel
theorem dX4_ring_44 : decode cX4_ring 44 = .ok (.getfield 26, 3) := by decide +kernel
theorem dX4_ring_47 : decode cX4_ring 47 = .ok (.aload_n 0, 1) := by decide +kernel
theorem dX4_ring_48 : decode cX4_ring 48 = .ok (.getfield 10, 3) := by decide +kernel
theorem dX4_ring_51 : decode cX4_ring 51 = .ok (.iconst 0, 1) := by decide +kernel
theorem dX4_ring_52 : decode cX4_ring 52 = .ok (.invokevirtual 186, 3) := by decide +kernel
theorem dX4_ring_55 : decode cX4_ring 55 = .ok (.iload_n 2, 1) := by decide +kernel
theorem dX4_ring_56 : decode cX4_ring 56 = .ok (.aload_n 0, 1) := by decide +kernel
theorem dX4_ring_57 : decode cX4_ring 57 = .ok (.getfield 26, 3) := by decide +kernel
theorem dX4_ring_60 : decode cX4_ring 60 = .ok (.iload_n 1, 1) := by decide +kernel
theorem dX4_ring_61 : decode cX4_ring 61 = .ok (.invokevirtual 201, 3) := by decide +kernel
theorem dX4_ring_64 : decode cX4_ring 64 = .ok (.isub, 1) := by decide +kernel
theorem dX4_ring_65 : decode cX4_ring 65 = .ok (.ireturn, 1) := by decide +kernel
theorem dX4_image_0 : decode cX4_image 0 = .ok (.aload_n 0, 1) := by decide +kernel
theorem dX4_image_1 : decode cX4_image 1 = .ok (.getfield 16, 3) := by decide +kernel
theorem dX4_image_4 : decode cX4_image 4 = .ok (.aload_n 0, 1) := by decide +kernel
theorem dX4_image_5 : decode cX4_image 5 = .ok (.getfield 10, 3) := by decide +kernel
theorem dX4_image_8 : decode cX4_image 8 = .ok (.invokevirtual 205, 3) := by decide +kernel
theorem dX4_image_11 : decode cX4_image 11 = .ok (.aload_n 0, 1) := by decide +kernel
theorem dX4_image_12 : decode cX4_image 12 = .ok (.iconst 1, 1) := by decide +kernel
theorem dX4_image_13 : decode cX4_image 13 = .ok (.putfield 19, 3) := by decide +kernel
theorem dX4_image_16 : decode cX4_image 16 = .ok (.iconst 1, 1) := by decide +kernel
theorem dX4_image_17 : decode cX4_image 17 = .ok (.ireturn, 1) := by decide +kernel
theorem dX4_restore_0 : decode cX4_restore 0 = .ok (.aload_n 0, 1) := by decide +kernel
theorem dX4_restore_1 : decode cX4_restore 1 = .ok (.getfield 19, 3) := by decide +kernel
theorem dX4_restore_4 : decode cX4_restore 4 = .ok (.ifCond .ne 6, 3) := by decide +kernel
theorem dX4_restore_7 : decode cX4_restore 7 = .ok (.bipush (-4), 2) := by decide +kernel
theorem dX4_restore_9 : decode cX4_restore 9 = .ok (.ireturn, 1) := by decide +kernel
theorem dX4_restore_10 : decode cX4_restore 10 = .ok (.aload_n 0, 1) := by decide +kernel
theorem dX4_restore_11 : decode cX4_restore 11 = .ok (.getfield 10, 3) := by decide +kernel
theorem dX4_restore_14 : decode cX4_restore 14 = .ok (.aload_n 0, 1) := by decide +kernel
theorem dX4_restore_15 : decode cX4_restore 15 = .ok (.getfield 16, 3) := by decide +kernel
theorem dX4_restore_18 : decode cX4_restore 18 = .ok (.invokevirtual 205, 3) := by decide +kernel
theorem dX4_restore_21 : decode cX4_restore 21 = .ok (.iconst 1, 1) := by decide +kernel
theorem dX4_restore_22 : decode cX4_restore 22 = .ok (.ireturn, 1) := by decide +kernel
theorem dX4_which_0 : decode cX4_which 0 = .ok (.iload 4, 2) := by decide +kernel
theorem dX4_which_2 : decode cX4_which 2 = .ok (.ifCond .lt 9, 3) := by decide +kernel
theorem dX4_which_5 : decode cX4_which 5 = .ok (.iload 4, 2) := by decide +kernel
theorem dX4_which_7 : decode cX4_which 7 = .ok (.iconst 1, 1) := by decide +kernel
theorem dX4_which_8 : decode cX4_which 8 = .ok (.if_icmp .le 5, 3) := by decide +kernel
theorem dX4_which_11 : decode cX4_which 11 = .ok (.iconst (-1), 1) := by decide +kernel
theorem dX4_which_12 : decode cX4_which 12 = .ok (.ireturn, 1) := by decide +kernel
theorem dX4_which_13 : decode cX4_which 13 = .ok (.aload_n 0, 1) := by decide +kernel
theorem dX4_which_14 : decode cX4_which 14 = .ok (.getfield 40, 3) := by decide +kernel
theorem dX4_which_17 : decode cX4_which 17 = .ok (.iload_n 1, 1) := by decide +kernel
theorem dX4_which_18 : decode cX4_which 18 = .ok (.iload_n 2, 1) := by decide +kernel
theorem dX4_which_19 : decode cX4_which 19 = .ok (.iload_n 3, 1) := by decide +kernel
theorem dX4_which_20 : decode cX4_which 20 = .ok (.iconst 2, 1) := by decide +kernel
theorem dX4_which_21 : decode cX4_which 21 = .ok (.aload_n 0, 1) := by decide +kernel
theorem dX4_which_22 : decode cX4_which 22 = .ok (.getfield 10, 3) := by decide +kernel
theorem dX4_which_25 : decode cX4_which 25 = .ok (.getfield 122, 3) := by decide +kernel
theorem dX4_which_28 : decode cX4_which 28 = .ok (.imul, 1) := by decide +kernel
theorem dX4_which_29 : decode cX4_which 29 = .ok (.invokevirtual 208, 3) := by decide +kernel
theorem dX4_which_32 : decode cX4_which 32 = .ok (.istore 5, 2) := by decide +kernel
theorem dX4_which_34 : decode cX4_which 34 = .ok (.iload 5, 2) := by decide +kernel
theorem dX4_which_36 : decode cX4_which 36 = .ok (.ifCond .ge 6, 3) := by decide +kernel
theorem dX4_which_39 : decode cX4_which 39 = .ok (.iload 5, 2) := by decide +kernel
theorem dX4_which_41 : decode cX4_which 41 = .ok (.ireturn, 1) := by decide +kernel
theorem dX4_which_42 : decode cX4_which 42 = .ok (.aload_n 0, 1) := by decide +kernel
theorem dX4_which_43 : decode cX4_which 43 = .ok (.getfield 10, 3) := by decide +kernel
theorem dX4_which_46 : decode cX4_which 46 = .ok (.getfield 122, 3) := by decide +kernel
theorem dX4_which_49 : decode cX4_which 49 = .ok (.ifCond .gt 6, 3) := by decide +kernel
theorem dX4_which_52 : decode cX4_which 52 = .ok (.bipush (-2), 2) := by decide +kernel
theorem dX4_which_54 : decode cX4_which 54 = .ok (.ireturn, 1) := by decide +kernel
theorem dX4_which_55 : decode cX4_which 55 = .ok (.iconst 0, 1) := by decide +kernel
theorem dX4_which_56 : decode cX4_which 56 = .ok (.istore 6, 2) := by decide +kernel
theorem dX4_which_58 : decode cX4_which 58 = .ok (.bipush (-4), 2) := by decide +kernel
theorem dX4_which_60 : decode cX4_which 60 = .ok (.istore 7, 2) := by decide +kernel
theorem dX4_which_62 : decode cX4_which 62 = .ok (.aload_n 0, 1) := by decide +kernel
theorem dX4_which_63 : decode cX4_which 63 = .ok (.getfield 26, 3) := by decide +kernel
theorem dX4_which_66 : decode cX4_which 66 = .ok (.aload_n 0, 1) := by decide +kernel
theorem dX4_which_67 : decode cX4_which 67 = .ok (.getfield 10, 3) := by decide +kernel
theorem dX4_which_70 : decode cX4_which 70 = .ok (.invokevirtual 154, 3) := by decide +kernel
theorem dX4_which_73 : decode cX4_which 73 = .ok (.iconst 0, 1) := by decide +kernel
theorem dX4_which_74 : decode cX4_which 74 = .ok (.istore 8, 2) := by decide +kernel
theorem dX4_which_76 : decode cX4_which 76 = .ok (.iload 8, 2) := by decide +kernel

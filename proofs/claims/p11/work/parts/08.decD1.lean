theorem dX5_rules_82 : decode cX5_rules 82 = .ok (.ireturn, 1) := by decide +kernel
theorem dX5_lots_0 : decode cX5_lots 0 = .ok (.aload_n 0, 1) := by decide +kernel
theorem dX5_lots_1 : decode cX5_lots 1 = .ok (.iconst 0, 1) := by decide +kernel
theorem dX5_lots_2 : decode cX5_lots 2 = .ok (.putfield 118, 3) := by decide +kernel
theorem dX5_lots_5 : decode cX5_lots 5 = .ok (.iconst 0, 1) := by decide +kernel
theorem dX5_lots_6 : decode cX5_lots 6 = .ok (.istore_n 1, 1) := by decide +kernel
theorem dX5_lots_7 : decode cX5_lots 7 = .ok (.iconst 1, 1) := by decide +kernel
theorem dX5_lots_8 : decode cX5_lots 8 = .ok (.istore_n 2, 1) := by decide +kernel
theorem dX5_lots_9 : decode cX5_lots 9 = .ok (.iload_n 2, 1) := by decide +kernel
theorem dX5_lots_10 : decode cX5_lots 10 = .ok (.ifCond .eq 75, 3) := by decide +kernel
theorem dX5_lots_13 : decode cX5_lots 13 = .ok (.iload_n 1, 1) := by decide +kernel
theorem dX5_lots_14 : decode cX5_lots 14 = .ok (.ifCond .eq 10, 3) := by decide +kernel
theorem dX5_lots_17 : decode cX5_lots 17 = .ok (.aload_n 0, 1) := by decide +kernel
theorem dX5_lots_18 : decode cX5_lots 18 = .ok (.invokevirtual 121, 3) := by decide +kernel
theorem dX5_lots_21 : decode cX5_lots 21 = .ok (.ifCond .lt 64, 3) := by decide +kernel
theorem dX5_lots_24 : decode cX5_lots 24 = .ok (.aload_n 0, 1) := by decide +kernel
theorem dX5_lots_25 : decode cX5_lots 25 = .ok (.invokevirtual 121, 3) := by decide +kernel
theorem dX5_lots_28 : decode cX5_lots 28 = .ok (.istore_n 3, 1) := by decide +kernel
theorem dX5_lots_29 : decode cX5_lots 29 = .ok (.iload_n 1, 1) := by decide +kernel
theorem dX5_lots_30 : decode cX5_lots 30 = .ok (.bipush 6, 2) := by decide +kernel
theorem dX5_lots_32 : decode cX5_lots 32 = .ok (.if_icmp .ge 21, 3) := by decide +kernel
theorem dX5_lots_35 : decode cX5_lots 35 = .ok (.iload_n 3, 1) := by decide +kernel
theorem dX5_lots_36 : decode cX5_lots 36 = .ok (.i2l, 1) := by decide +kernel
theorem dX5_lots_37 : decode cX5_lots 37 = .ok (.ldc2_w 128, 3) := by decide +kernel
theorem dX5_lots_40 : decode cX5_lots 40 = .ok (.ldc2_w 139, 3) := by decide +kernel
theorem dX5_lots_43 : decode cX5_lots 43 = .ok (.invokestatic 77, 3) := by decide +kernel
theorem dX5_lots_46 : decode cX5_lots 46 = .ok (.ifCond .eq 7, 3) := by decide +kernel
theorem dX5_lots_49 : decode cX5_lots 49 = .ok (.iconst 1, 1) := by decide +kernel
theorem dX5_lots_50 : decode cX5_lots 50 = .ok (.goto 4, 3) := by decide +kernel
theorem dX5_lots_53 : decode cX5_lots 53 = .ok (.iconst 0, 1) := by decide +kernel
theorem dX5_lots_54 : decode cX5_lots 54 = .ok (.istore_n 2, 1) := by decide +kernel
theorem dX5_lots_55 : decode cX5_lots 55 = .ok (.iload_n 2, 1) := by decide +kernel
theorem dX5_lots_56 : decode cX5_lots 56 = .ok (.ifCond .eq 26, 3) := by decide +kernel
theorem dX5_lots_59 : decode cX5_lots 59 = .ok (.aload_n 0, 1) := by decide +kernel
theorem dX5_lots_60 : decode cX5_lots 60 = .ok (.getfield 19, 3) := by decide +kernel
theorem dX5_lots_63 : decode cX5_lots 63 = .ok (.iload_n 1, 1) := by decide +kernel
theorem dX5_lots_64 : decode cX5_lots 64 = .ok (.iload_n 3, 1) := by decide +kernel
theorem dX5_lots_65 : decode cX5_lots 65 = .ok (.bipush 48, 2) := by decide +kernel
theorem dX5_lots_67 : decode cX5_lots 67 = .ok (.isub, 1) := by decide +kernel
theorem dX5_lots_68 : decode cX5_lots 68 = .ok (.iastore, 1) := by decide +kernel
theorem dX5_lots_69 : decode cX5_lots 69 = .ok (.iinc 1 1, 3) := by decide +kernel
theorem dX5_lots_72 : decode cX5_lots 72 = .ok (.aload_n 0, 1) := by decide +kernel
theorem dX5_lots_73 : decode cX5_lots 73 = .ok (.dup, 1) := by decide +kernel
theorem dX5_lots_74 : decode cX5_lots 74 = .ok (.getfield 118, 3) := by decide +kernel
theorem dX5_lots_77 : decode cX5_lots 77 = .ok (.iconst 1, 1) := by decide +kernel
theorem dX5_lots_78 : decode cX5_lots 78 = .ok (.iadd, 1) := by decide +kernel
theorem dX5_lots_79 : decode cX5_lots 79 = .ok (.putfield 118, 3) := by decide +kernel
theorem dX5_lots_82 : decode cX5_lots 82 = .ok (.goto (-73), 3) := by decide +kernel
theorem dX5_lots_85 : decode cX5_lots 85 = .ok (.aload_n 0, 1) := by decide +kernel
theorem dX5_lots_86 : decode cX5_lots 86 = .ok (.iconst 0, 1) := by decide +kernel
theorem dX5_lots_87 : decode cX5_lots 87 = .ok (.putfield 114, 3) := by decide +kernel
theorem dX5_lots_90 : decode cX5_lots 90 = .ok (.iload_n 2, 1) := by decide +kernel
theorem dX5_lots_91 : decode cX5_lots 91 = .ok (.ifCond .ne 11, 3) := by decide +kernel
theorem dX5_lots_94 : decode cX5_lots 94 = .ok (.bipush (-20), 2) := by decide +kernel
theorem dX5_lots_96 : decode cX5_lots 96 = .ok (.aload_n 0, 1) := by decide +kernel
theorem dX5_lots_97 : decode cX5_lots 97 = .ok (.getfield 118, 3) := by decide +kernel
theorem dX5_lots_100 : decode cX5_lots 100 = .ok (.isub, 1) := by decide +kernel
theorem dX5_lots_101 : decode cX5_lots 101 = .ok (.ireturn, 1) := by decide +kernel
theorem dX5_lots_102 : decode cX5_lots 102 = .ok (.aload_n 0, 1) := by decide +kernel
theorem dX5_lots_103 : decode cX5_lots 103 = .ok (.getfield 7, 3) := by decide +kernel
theorem dX5_lots_106 : decode cX5_lots 106 = .ok (.iconst 5, 1) := by decide +kernel
theorem dX5_lots_107 : decode cX5_lots 107 = .ok (.iload_n 1, 1) := by decide +kernel
theorem dX5_lots_108 : decode cX5_lots 108 = .ok (.iastore, 1) := by decide +kernel
theorem dX5_lots_109 : decode cX5_lots 109 = .ok (.iconst 0, 1) := by decide +kernel
theorem dX5_lots_110 : decode cX5_lots 110 = .ok (.istore_n 3, 1) := by decide +kernel
theorem dX5_lots_111 : decode cX5_lots 111 = .ok (.iload_n 3, 1) := by decide +kernel
theorem dX5_lots_112 : decode cX5_lots 112 = .ok (.iload_n 1, 1) := by decide +kernel
theorem dX5_lots_113 : decode cX5_lots 113 = .ok (.if_icmp .ge 24, 3) := by decide +kernel
theorem dX5_lots_116 : decode cX5_lots 116 = .ok (.aload_n 0, 1) := by decide +kernel
theorem dX5_lots_117 : decode cX5_lots 117 = .ok (.getfield 7, 3) := by decide +kernel
theorem dX5_lots_120 : decode cX5_lots 120 = .ok (.bipush 6, 2) := by decide +kernel
theorem dX5_lots_122 : decode cX5_lots 122 = .ok (.iload_n 3, 1) := by decide +kernel
theorem dX5_lots_123 : decode cX5_lots 123 = .ok (.iadd, 1) := by decide +kernel
theorem dX5_lots_124 : decode cX5_lots 124 = .ok (.aload_n 0, 1) := by decide +kernel
theorem dX5_lots_125 : decode cX5_lots 125 = .ok (.getfield 19, 3) := by decide +kernel
theorem dX5_lots_128 : decode cX5_lots 128 = .ok (.iload_n 3, 1) := by decide +kernel
theorem dX5_lots_129 : decode cX5_lots 129 = .ok (.iaload, 1) := by decide +kernel
theorem dX5_lots_130 : decode cX5_lots 130 = .ok (.iastore, 1) := by decide +kernel
theorem dX5_lots_131 : decode cX5_lots 131 = .ok (.iinc 3 1, 3) := by decide +kernel
theorem dX5_lots_134 : decode cX5_lots 134 = .ok (.goto (-23), 3) := by decide +kernel
theorem dX5_lots_137 : decode cX5_lots 137 = .ok (.iload_n 1, 1) := by decide +kernel
theorem dX5_lots_138 : decode cX5_lots 138 = .ok (.ireturn, 1) := by decide +kernel
theorem dX5_owing_0 : decode cX5_owing 0 = .ok (.iconst 0, 1) := by decide +kernel
theorem dX5_owing_1 : decode cX5_owing 1 = .ok (.istore_n 1, 1) := by decide +kernel
theorem dX5_owing_2 : decode cX5_owing 2 = .ok (.iconst 0, 1) := by decide +kernel
theorem dX5_owing_3 : decode cX5_owing 3 = .ok (.istore_n 2, 1) := by decide +kernel
theorem dX5_owing_4 : decode cX5_owing 4 = .ok (.iload_n 2, 1) := by decide +kernel
theorem dX5_owing_5 : decode cX5_owing 5 = .ok (.aload_n 0, 1) := by decide +kernel
theorem dX5_owing_6 : decode cX5_owing 6 = .ok (.getfield 7, 3) := by decide +kernel
theorem dX5_owing_9 : decode cX5_owing 9 = .ok (.bipush 12, 2) := by decide +kernel
theorem dX5_owing_11 : decode cX5_owing 11 = .ok (.iaload, 1) := by decide +kernel
theorem dX5_owing_12 : decode cX5_owing 12 = .ok (.if_icmp .ge 29, 3) := by decide +kernel
theorem dX5_owing_15 : decode cX5_owing 15 = .ok (.iload_n 1, 1) := by decide +kernel
theorem dX5_owing_16 : decode cX5_owing 16 = .ok (.aload_n 0, 1) := by decide +kernel
theorem dX5_owing_17 : decode cX5_owing 17 = .ok (.getfield 7, 3) := by decide +kernel
theorem dX5_owing_20 : decode cX5_owing 20 = .ok (.bipush 18, 2) := by decide +kernel
theorem dX5_owing_22 : decode cX5_owing 22 = .ok (.iload_n 2, 1) := by decide +kernel
theorem dX5_owing_23 : decode cX5_owing 23 = .ok (.iadd, 1) := by decide +kernel
theorem dX5_owing_24 : decode cX5_owing 24 = .ok (.iaload, 1) := by decide +kernel
theorem dX5_owing_25 : decode cX5_owing 25 = .ok (.ifCond .ge 7, 3) := by decide +kernel
theorem dX5_owing_28 : decode cX5_owing 28 = .ok (.iconst 1, 1) := by decide +kernel
theorem dX5_owing_29 : decode cX5_owing 29 = .ok (.goto 4, 3) := by decide +kernel
theorem dX5_owing_32 : decode cX5_owing 32 = .ok (.iconst 0, 1) := by decide +kernel
theorem dX5_owing_33 : decode cX5_owing 33 = .ok (.iadd, 1) := by decide +kernel
theorem dX5_owing_34 : decode cX5_owing 34 = .ok (.istore_n 1, 1) := by decide +kernel
theorem dX5_owing_35 : decode cX5_owing 35 = .ok (.iinc 2 1, 3) := by decide +kernel
theorem dX5_owing_38 : decode cX5_owing 38 = .ok (.goto (-34), 3) := by decide +kernel
theorem dX5_owing_41 : decode cX5_owing 41 = .ok (.iload_n 1, 1) := by decide +kernel
theorem dX5_owing_42 : decode cX5_owing 42 = .ok (.ireturn, 1) := by decide +kernel
theorem dX5_kindsToldOf_0 : decode cX5_kindsToldOf 0 = .ok (.iconst 0, 1) := by decide +kernel
theorem dX5_kindsToldOf_1 : decode cX5_kindsToldOf 1 = .ok (.istore_n 1, 1) := by decide +kernel
theorem dX5_kindsToldOf_2 : decode cX5_kindsToldOf 2 = .ok (.iconst 0, 1) := by decide +kernel
theorem dX5_kindsToldOf_3 : decode cX5_kindsToldOf 3 = .ok (.istore_n 2, 1) := by decide +kernel
theorem dX5_kindsToldOf_4 : decode cX5_kindsToldOf 4 = .ok (.iload_n 2, 1) := by decide +kernel
theorem dX5_kindsToldOf_5 : decode cX5_kindsToldOf 5 = .ok (.aload_n 0, 1) := by decide +kernel
theorem dX5_kindsToldOf_6 : decode cX5_kindsToldOf 6 = .ok (.getfield 7, 3) := by decide +kernel
theorem dX5_kindsToldOf_9 : decode cX5_kindsToldOf 9 = .ok (.iconst 5, 1) := by decide +kernel
theorem dX5_kindsToldOf_10 : decode cX5_kindsToldOf 10 = .ok (.iaload, 1) := by decide +kernel
theorem dX5_kindsToldOf_11 : decode cX5_kindsToldOf 11 = .ok (.if_icmp .ge 23, 3) := by decide +kernel
theorem dX5_kindsToldOf_14 : decode cX5_kindsToldOf 14 = .ok (.iload_n 1, 1) := by decide +kernel
theorem dX5_kindsToldOf_15 : decode cX5_kindsToldOf 15 = .ok (.iconst 1, 1) := by decide +kernel
theorem dX5_kindsToldOf_16 : decode cX5_kindsToldOf 16 = .ok (.aload_n 0, 1) := by decide +kernel
theorem dX5_kindsToldOf_17 : decode cX5_kindsToldOf 17 = .ok (.getfield 7, 3) := by decide +kernel
theorem dX5_kindsToldOf_20 : decode cX5_kindsToldOf 20 = .ok (.bipush 6, 2) := by decide +kernel
theorem dX5_kindsToldOf_22 : decode cX5_kindsToldOf 22 = .ok (.iload_n 2, 1) := by decide +kernel
theorem dX5_kindsToldOf_23 : decode cX5_kindsToldOf 23 = .ok (.iadd, 1) := by decide +kernel
theorem dX5_kindsToldOf_24 : decode cX5_kindsToldOf 24 = .ok (.iaload, 1) := by decide +kernel
theorem dX5_kindsToldOf_25 : decode cX5_kindsToldOf 25 = .ok (.ishl, 1) := by decide +kernel
theorem dX5_kindsToldOf_26 : decode cX5_kindsToldOf 26 = .ok (.ior, 1) := by decide +kernel
theorem dX5_kindsToldOf_27 : decode cX5_kindsToldOf 27 = .ok (.istore_n 1, 1) := by decide +kernel
theorem dX5_kindsToldOf_28 : decode cX5_kindsToldOf 28 = .ok (.iinc 2 1, 3) := by decide +kernel
theorem dX5_kindsToldOf_31 : decode cX5_kindsToldOf 31 = .ok (.goto (-27), 3) := by decide +kernel
theorem dX5_kindsToldOf_34 : decode cX5_kindsToldOf 34 = .ok (.iload_n 1, 1) := by decide +kernel
theorem dX5_kindsToldOf_35 : decode cX5_kindsToldOf 35 = .ok (.iconst 1, 1) := by decide +kernel
theorem dX5_kindsToldOf_36 : decode cX5_kindsToldOf 36 = .ok (.iand, 1) := by decide +kernel
theorem dX5_kindsToldOf_37 : decode cX5_kindsToldOf 37 = .ok (.iload_n 1, 1) := by decide +kernel
theorem dX5_kindsToldOf_38 : decode cX5_kindsToldOf 38 = .ok (.iconst 1, 1) := by decide +kernel
theorem dX5_kindsToldOf_39 : decode cX5_kindsToldOf 39 = .ok (.ishr, 1) := by decide +kernel
theorem dX5_kindsToldOf_40 : decode cX5_kindsToldOf 40 = .ok (.iconst 1, 1) := by decide +kernel
theorem dX5_kindsToldOf_41 : decode cX5_kindsToldOf 41 = .ok (.iand, 1) := by decide +kernel
theorem dX5_kindsToldOf_42 : decode cX5_kindsToldOf 42 = .ok (.iadd, 1) := by decide +kernel
theorem dX5_kindsToldOf_43 : decode cX5_kindsToldOf 43 = .ok (.iload_n 1, 1) := by decide +kernel
theorem dX5_kindsToldOf_44 : decode cX5_kindsToldOf 44 = .ok (.iconst 2, 1) := by decide +kernel
theorem dX5_kindsToldOf_45 : decode cX5_kindsToldOf 45 = .ok (.ishr, 1) := by decide +kernel
theorem dX5_kindsToldOf_46 : decode cX5_kindsToldOf 46 = .ok (.iconst 1, 1) := by decide +kernel
theorem dX5_kindsToldOf_47 : decode cX5_kindsToldOf 47 = .ok (.iand, 1) := by decide +kernel
theorem dX5_kindsToldOf_48 : decode cX5_kindsToldOf 48 = .ok (.iadd, 1) := by decide +kernel
theorem dX5_kindsToldOf_49 : decode cX5_kindsToldOf 49 = .ok (.iload_n 1, 1) := by decide +kernel
theorem dX5_kindsToldOf_50 : decode cX5_kindsToldOf 50 = .ok (.iconst 3, 1) := by decide +kernel
theorem dX5_kindsToldOf_51 : decode cX5_kindsToldOf 51 = .ok (.ishr, 1) := by decide +kernel
theorem dX5_kindsToldOf_52 : decode cX5_kindsToldOf 52 = .ok (.iconst 1, 1) := by decide +kernel
theorem dX5_kindsToldOf_53 : decode cX5_kindsToldOf 53 = .ok (.iand, 1) := by decide +kernel
theorem dX5_kindsToldOf_54 : decode cX5_kindsToldOf 54 = .ok (.iadd, 1) := by decide +kernel
theorem dX5_kindsToldOf_55 : decode cX5_kindsToldOf 55 = .ok (.ireturn, 1) := by decide +kernel
theorem dX5_count_0 : decode cX5_count 0 = .ok (.iload_n 1, 1) := by decide +kernel
theorem dX5_count_1 : decode cX5_count 1 = .ok (.tableswitch 68 0 4 #[35, 42, 50, 58, 63], 35) := by decide +kernel
theorem dX5_count_36 : decode cX5_count 36 = .ok (.aload_n 0, 1) := by decide +kernel
theorem dX5_count_37 : decode cX5_count 37 = .ok (.getfield 7, 3) := by decide +kernel
theorem dX5_count_40 : decode cX5_count 40 = .ok (.iconst 5, 1) := by decide +kernel
theorem dX5_count_41 : decode cX5_count 41 = .ok (.iaload, 1) := by decide +kernel
theorem dX5_count_42 : decode cX5_count 42 = .ok (.ireturn, 1) := by decide +kernel
theorem dX5_count_43 : decode cX5_count 43 = .ok (.aload_n 0, 1) := by decide +kernel
theorem dX5_count_44 : decode cX5_count 44 = .ok (.getfield 7, 3) := by decide +kernel
theorem dX5_count_47 : decode cX5_count 47 = .ok (.bipush 12, 2) := by decide +kernel
theorem dX5_count_49 : decode cX5_count 49 = .ok (.iaload, 1) := by decide +kernel
theorem dX5_count_50 : decode cX5_count 50 = .ok (.ireturn, 1) := by decide +kernel
theorem dX5_count_51 : decode cX5_count 51 = .ok (.aload_n 0, 1) := by decide +kernel
theorem dX5_count_52 : decode cX5_count 52 = .ok (.getfield 7, 3) := by decide +kernel
theorem dX5_count_55 : decode cX5_count 55 = .ok (.bipush 88, 2) := by decide +kernel
theorem dX5_count_57 : decode cX5_count 57 = .ok (.iaload, 1) := by decide +kernel
theorem dX5_count_58 : decode cX5_count 58 = .ok (.ireturn, 1) := by decide +kernel
theorem dX5_count_59 : decode cX5_count 59 = .ok (.aload_n 0, 1) := by decide +kernel
theorem dX5_count_60 : decode cX5_count 60 = .ok (.invokevirtual 141, 3) := by decide +kernel
theorem dX5_count_63 : decode cX5_count 63 = .ok (.ireturn, 1) := by decide +kernel
theorem dX5_count_64 : decode cX5_count 64 = .ok (.aload_n 0, 1) := by decide +kernel
theorem dX5_count_65 : decode cX5_count 65 = .ok (.invokevirtual 144, 3) := by decide +kernel
theorem dX5_count_68 : decode cX5_count 68 = .ok (.ireturn, 1) := by decide +kernel
theorem dX5_count_69 : decode cX5_count 69 = .ok (.iconst (-1), 1) := by decide +kernel
theorem dX5_count_70 : decode cX5_count 70 = .ok (.ireturn, 1) := by decide +kernel
theorem dX5_payOf_0 : decode cX5_payOf 0 = .ok (.aload_n 0, 1) := by decide +kernel
theorem dX5_payOf_1 : decode cX5_payOf 1 = .ok (.getfield 28, 3) := by decide +kernel
theorem dX5_payOf_4 : decode cX5_payOf 4 = .ok (.iload_n 1, 1) := by decide +kernel
theorem dX5_payOf_5 : decode cX5_payOf 5 = .ok (.iaload, 1) := by decide +kernel
theorem dX5_payOf_6 : decode cX5_payOf 6 = .ok (.aload_n 0, 1) := by decide +kernel
theorem dX5_payOf_7 : decode cX5_payOf 7 = .ok (.getfield 7, 3) := by decide +kernel
theorem dX5_payOf_10 : decode cX5_payOf 10 = .ok (.bipush 13, 2) := by decide +kernel
theorem dX5_payOf_12 : decode cX5_payOf 12 = .ok (.iload_n 1, 1) := by decide +kernel
theorem dX5_payOf_13 : decode cX5_payOf 13 = .ok (.iadd, 1) := by decide +kernel
theorem dX5_payOf_14 : decode cX5_payOf 14 = .ok (.iaload, 1) := by decide +kernel
theorem dX5_payOf_15 : decode cX5_payOf 15 = .ok (.iconst 4, 1) := by decide +kernel
theorem dX5_payOf_16 : decode cX5_payOf 16 = .ok (.if_icmp .ne 12, 3) := by decide +kernel
theorem dX5_payOf_19 : decode cX5_payOf 19 = .ok (.aload_n 0, 1) := by decide +kernel
theorem dX5_payOf_20 : decode cX5_payOf 20 = .ok (.getfield 7, 3) := by decide +kernel
theorem dX5_payOf_23 : decode cX5_payOf 23 = .ok (.iconst 4, 1) := by decide +kernel
theorem dX5_payOf_24 : decode cX5_payOf 24 = .ok (.iaload, 1) := by decide +kernel
theorem dX5_payOf_25 : decode cX5_payOf 25 = .ok (.goto 4, 3) := by decide +kernel
theorem dX5_payOf_28 : decode cX5_payOf 28 = .ok (.iconst 0, 1) := by decide +kernel
theorem dX5_payOf_29 : decode cX5_payOf 29 = .ok (.iadd, 1) := by decide +kernel
theorem dX5_payOf_30 : decode cX5_payOf 30 = .ok (.ireturn, 1) := by decide +kernel
theorem dX5_worthOf_0 : decode cX5_worthOf 0 = .ok (.aload_n 0, 1) := by decide +kernel
theorem dX5_worthOf_1 : decode cX5_worthOf 1 = .ok (.getfield 7, 3) := by decide +kernel
theorem dX5_worthOf_4 : decode cX5_worthOf 4 = .ok (.bipush 28, 2) := by decide +kernel
theorem dX5_worthOf_6 : decode cX5_worthOf 6 = .ok (.iconst 4, 1) := by decide +kernel
theorem dX5_worthOf_7 : decode cX5_worthOf 7 = .ok (.iload_n 1, 1) := by decide +kernel
theorem dX5_worthOf_8 : decode cX5_worthOf 8 = .ok (.imul, 1) := by decide +kernel
theorem dX5_worthOf_9 : decode cX5_worthOf 9 = .ok (.iadd, 1) := by decide +kernel
theorem dX5_worthOf_10 : decode cX5_worthOf 10 = .ok (.iload_n 2, 1) := by decide +kernel
theorem dX5_worthOf_11 : decode cX5_worthOf 11 = .ok (.iadd, 1) := by decide +kernel
theorem dX5_worthOf_12 : decode cX5_worthOf 12 = .ok (.iaload, 1) := by decide +kernel
theorem dX5_worthOf_13 : decode cX5_worthOf 13 = .ok (.ireturn, 1) := by decide +kernel
theorem dX5_marginOf_0 : decode cX5_marginOf 0 = .ok (.aload_n 0, 1) := by decide +kernel
theorem dX5_marginOf_1 : decode cX5_marginOf 1 = .ok (.getfield 7, 3) := by decide +kernel
theorem dX5_marginOf_4 : decode cX5_marginOf 4 = .ok (.bipush 13, 2) := by decide +kernel
theorem dX5_marginOf_6 : decode cX5_marginOf 6 = .ok (.iload_n 1, 1) := by decide +kernel
theorem dX5_marginOf_7 : decode cX5_marginOf 7 = .ok (.iadd, 1) := by decide +kernel
theorem dX5_marginOf_8 : decode cX5_marginOf 8 = .ok (.iaload, 1) := by decide +kernel
theorem dX5_marginOf_9 : decode cX5_marginOf 9 = .ok (.iconst 3, 1) := by decide +kernel
theorem dX5_marginOf_10 : decode cX5_marginOf 10 = .ok (.if_icmp .ne 14, 3) := by decide +kernel
theorem dX5_marginOf_13 : decode cX5_marginOf 13 = .ok (.aload_n 0, 1) := by decide +kernel
theorem dX5_marginOf_14 : decode cX5_marginOf 14 = .ok (.getfield 25, 3) := by decide +kernel
theorem dX5_marginOf_17 : decode cX5_marginOf 17 = .ok (.iload_n 1, 1) := by decide +kernel
theorem dX5_marginOf_18 : decode cX5_marginOf 18 = .ok (.iaload, 1) := by decide +kernel
theorem dX5_marginOf_19 : decode cX5_marginOf 19 = .ok (.iconst 2, 1) := by decide +kernel
theorem dX5_marginOf_20 : decode cX5_marginOf 20 = .ok (.idiv, 1) := by decide +kernel
theorem dX5_marginOf_21 : decode cX5_marginOf 21 = .ok (.goto 9, 3) := by decide +kernel
theorem dX5_marginOf_24 : decode cX5_marginOf 24 = .ok (.aload_n 0, 1) := by decide +kernel
theorem dX5_marginOf_25 : decode cX5_marginOf 25 = .ok (.getfield 25, 3) := by decide +kernel
theorem dX5_marginOf_28 : decode cX5_marginOf 28 = .ok (.iload_n 1, 1) := by decide +kernel
theorem dX5_marginOf_29 : decode cX5_marginOf 29 = .ok (.iaload, 1) := by decide +kernel
theorem dX5_marginOf_30 : decode cX5_marginOf 30 = .ok (.ireturn, 1) := by decide +kernel
theorem dX5_openMorning_0 : decode cX5_openMorning 0 = .ok (.aload_n 0, 1) := by decide +kernel
theorem dX5_openMorning_1 : decode cX5_openMorning 1 = .ok (.iconst 0, 1) := by decide +kernel
theorem dX5_openMorning_2 : decode cX5_openMorning 2 = .ok (.putfield 147, 3) := by decide +kernel
theorem dX5_openMorning_5 : decode cX5_openMorning 5 = .ok (.iconst 0, 1) := by decide +kernel
theorem dX5_openMorning_6 : decode cX5_openMorning 6 = .ok (.istore_n 1, 1) := by decide +kernel
theorem dX5_openMorning_7 : decode cX5_openMorning 7 = .ok (.iload_n 1, 1) := by decide +kernel
theorem dX5_openMorning_8 : decode cX5_openMorning 8 = .ok (.aload_n 0, 1) := by decide +kernel
theorem dX5_openMorning_9 : decode cX5_openMorning 9 = .ok (.getfield 7, 3) := by decide +kernel
theorem dX5_openMorning_12 : decode cX5_openMorning 12 = .ok (.bipush 12, 2) := by decide +kernel
theorem dX5_openMorning_14 : decode cX5_openMorning 14 = .ok (.iaload, 1) := by decide +kernel
theorem dX5_openMorning_15 : decode cX5_openMorning 15 = .ok (.if_icmp .ge 55, 3) := by decide +kernel
theorem dX5_openMorning_18 : decode cX5_openMorning 18 = .ok (.aload_n 0, 1) := by decide +kernel
theorem dX5_openMorning_19 : decode cX5_openMorning 19 = .ok (.getfield 28, 3) := by decide +kernel
theorem dX5_openMorning_22 : decode cX5_openMorning 22 = .ok (.iload_n 1, 1) := by decide +kernel
theorem dX5_openMorning_23 : decode cX5_openMorning 23 = .ok (.aload_n 0, 1) := by decide +kernel
theorem dX5_openMorning_24 : decode cX5_openMorning 24 = .ok (.getfield 7, 3) := by decide +kernel
theorem dX5_openMorning_27 : decode cX5_openMorning 27 = .ok (.bipush 18, 2) := by decide +kernel
theorem dX5_openMorning_29 : decode cX5_openMorning 29 = .ok (.iload_n 1, 1) := by decide +kernel
theorem dX5_openMorning_30 : decode cX5_openMorning 30 = .ok (.iadd, 1) := by decide +kernel
theorem dX5_openMorning_31 : decode cX5_openMorning 31 = .ok (.iaload, 1) := by decide +kernel
theorem dX5_openMorning_32 : decode cX5_openMorning 32 = .ok (.iastore, 1) := by decide +kernel
theorem dX5_openMorning_33 : decode cX5_openMorning 33 = .ok (.aload_n 0, 1) := by decide +kernel
theorem dX5_openMorning_34 : decode cX5_openMorning 34 = .ok (.getfield 31, 3) := by decide +kernel
theorem dX5_openMorning_37 : decode cX5_openMorning 37 = .ok (.iload_n 1, 1) := by decide +kernel
theorem dX5_openMorning_38 : decode cX5_openMorning 38 = .ok (.aload_n 0, 1) := by decide +kernel
theorem dX5_openMorning_39 : decode cX5_openMorning 39 = .ok (.getfield 7, 3) := by decide +kernel
theorem dX5_openMorning_42 : decode cX5_openMorning 42 = .ok (.bipush 13, 2) := by decide +kernel
theorem dX5_openMorning_44 : decode cX5_openMorning 44 = .ok (.iload_n 1, 1) := by decide +kernel
theorem dX5_openMorning_45 : decode cX5_openMorning 45 = .ok (.iadd, 1) := by decide +kernel
theorem dX5_openMorning_46 : decode cX5_openMorning 46 = .ok (.iaload, 1) := by decide +kernel
theorem dX5_openMorning_47 : decode cX5_openMorning 47 = .ok (.iconst 2, 1) := by decide +kernel
theorem dX5_openMorning_48 : decode cX5_openMorning 48 = .ok (.if_icmp .ne 7, 3) := by decide +kernel
theorem dX5_openMorning_51 : decode cX5_openMorning 51 = .ok (.iconst 2, 1) := by decide +kernel
theorem dX5_openMorning_52 : decode cX5_openMorning 52 = .ok (.goto 4, 3) := by decide +kernel
theorem dX5_openMorning_55 : decode cX5_openMorning 55 = .ok (.iconst 1, 1) := by decide +kernel
theorem dX5_openMorning_56 : decode cX5_openMorning 56 = .ok (.iastore, 1) := by decide +kernel
theorem dX5_openMorning_57 : decode cX5_openMorning 57 = .ok (.aload_n 0, 1) := by decide +kernel
theorem dX5_openMorning_58 : decode cX5_openMorning 58 = .ok (.getfield 34, 3) := by decide +kernel
theorem dX5_openMorning_61 : decode cX5_openMorning 61 = .ok (.iload_n 1, 1) := by decide +kernel
theorem dX5_openMorning_62 : decode cX5_openMorning 62 = .ok (.iconst 0, 1) := by decide +kernel
theorem dX5_openMorning_63 : decode cX5_openMorning 63 = .ok (.iastore, 1) := by decide +kernel
theorem dX5_openMorning_64 : decode cX5_openMorning 64 = .ok (.iinc 1 1, 3) := by decide +kernel
theorem dX5_openMorning_67 : decode cX5_openMorning 67 = .ok (.goto (-60), 3) := by decide +kernel
theorem dX5_openMorning_70 : decode cX5_openMorning 70 = .ok (.return_, 1) := by decide +kernel
theorem dX5_sell_0 : decode cX5_sell 0 = .ok (.aload_n 0, 1) := by decide +kernel
theorem dX5_sell_1 : decode cX5_sell 1 = .ok (.dup, 1) := by decide +kernel
theorem dX5_sell_2 : decode cX5_sell 2 = .ok (.getfield 147, 3) := by decide +kernel
theorem dX5_sell_5 : decode cX5_sell 5 = .ok (.iload_n 3, 1) := by decide +kernel
theorem dX5_sell_6 : decode cX5_sell 6 = .ok (.iadd, 1) := by decide +kernel
theorem dX5_sell_7 : decode cX5_sell 7 = .ok (.putfield 147, 3) := by decide +kernel
theorem dX5_sell_10 : decode cX5_sell 10 = .ok (.aload_n 0, 1) := by decide +kernel
theorem dX5_sell_11 : decode cX5_sell 11 = .ok (.getfield 28, 3) := by decide +kernel
theorem dX5_sell_14 : decode cX5_sell 14 = .ok (.iload_n 1, 1) := by decide +kernel
theorem dX5_sell_15 : decode cX5_sell 15 = .ok (.dup2, 1) := by decide +kernel
theorem dX5_sell_16 : decode cX5_sell 16 = .ok (.iaload, 1) := by decide +kernel
theorem dX5_sell_17 : decode cX5_sell 17 = .ok (.iload_n 3, 1) := by decide +kernel
theorem dX5_sell_18 : decode cX5_sell 18 = .ok (.isub, 1) := by decide +kernel
theorem dX5_sell_19 : decode cX5_sell 19 = .ok (.iastore, 1) := by decide +kernel
theorem dX5_sell_20 : decode cX5_sell 20 = .ok (.aload_n 0, 1) := by decide +kernel
theorem dX5_sell_21 : decode cX5_sell 21 = .ok (.getfield 31, 3) := by decide +kernel
theorem dX5_sell_24 : decode cX5_sell 24 = .ok (.iload_n 1, 1) := by decide +kernel
theorem dX5_sell_25 : decode cX5_sell 25 = .ok (.dup2, 1) := by decide +kernel
theorem dX5_sell_26 : decode cX5_sell 26 = .ok (.iaload, 1) := by decide +kernel
theorem dX5_sell_27 : decode cX5_sell 27 = .ok (.iconst 1, 1) := by decide +kernel
theorem dX5_sell_28 : decode cX5_sell 28 = .ok (.isub, 1) := by decide +kernel
theorem dX5_sell_29 : decode cX5_sell 29 = .ok (.iastore, 1) := by decide +kernel
theorem dX5_sell_30 : decode cX5_sell 30 = .ok (.aload_n 0, 1) := by decide +kernel
theorem dX5_sell_31 : decode cX5_sell 31 = .ok (.getfield 34, 3) := by decide +kernel
theorem dX5_sell_34 : decode cX5_sell 34 = .ok (.iload_n 1, 1) := by decide +kernel
theorem dX5_sell_35 : decode cX5_sell 35 = .ok (.dup2, 1) := by decide +kernel
theorem dX5_sell_36 : decode cX5_sell 36 = .ok (.iaload, 1) := by decide +kernel
theorem dX5_sell_37 : decode cX5_sell 37 = .ok (.aload_n 0, 1) := by decide +kernel
theorem dX5_sell_38 : decode cX5_sell 38 = .ok (.iload_n 1, 1) := by decide +kernel
theorem dX5_sell_39 : decode cX5_sell 39 = .ok (.iload_n 2, 1) := by decide +kernel
theorem dX5_sell_40 : decode cX5_sell 40 = .ok (.invokevirtual 150, 3) := by decide +kernel
theorem dX5_sell_43 : decode cX5_sell 43 = .ok (.iload_n 3, 1) := by decide +kernel
theorem dX5_sell_44 : decode cX5_sell 44 = .ok (.isub, 1) := by decide +kernel
theorem dX5_sell_45 : decode cX5_sell 45 = .ok (.iadd, 1) := by decide +kernel
theorem dX5_sell_46 : decode cX5_sell 46 = .ok (.iastore, 1) := by decide +kernel
theorem dX5_sell_47 : decode cX5_sell 47 = .ok (.return_, 1) := by decide +kernel
theorem dX5_listening_0 : decode cX5_listening 0 = .ok (.iconst 0, 1) := by decide +kernel
theorem dX5_listening_1 : decode cX5_listening 1 = .ok (.istore_n 2, 1) := by decide +kernel
theorem dX5_listening_2 : decode cX5_listening 2 = .ok (.iconst (-1), 1) := by decide +kernel
theorem dX5_listening_3 : decode cX5_listening 3 = .ok (.istore_n 3, 1) := by decide +kernel
theorem dX5_listening_4 : decode cX5_listening 4 = .ok (.iconst 0, 1) := by decide +kernel
theorem dX5_listening_5 : decode cX5_listening 5 = .ok (.istore 4, 2) := by decide +kernel
theorem dX5_listening_7 : decode cX5_listening 7 = .ok (.iload 4, 2) := by decide +kernel
theorem dX5_listening_9 : decode cX5_listening 9 = .ok (.aload_n 0, 1) := by decide +kernel
theorem dX5_listening_10 : decode cX5_listening 10 = .ok (.getfield 7, 3) := by decide +kernel
theorem dX5_listening_13 : decode cX5_listening 13 = .ok (.bipush 12, 2) := by decide +kernel
theorem dX5_listening_15 : decode cX5_listening 15 = .ok (.iaload, 1) := by decide +kernel
theorem dX5_listening_16 : decode cX5_listening 16 = .ok (.if_icmp .ge 78, 3) := by decide +kernel
theorem dX5_listening_19 : decode cX5_listening 19 = .ok (.aload_n 0, 1) := by decide +kernel
theorem dX5_listening_20 : decode cX5_listening 20 = .ok (.getfield 31, 3) := by decide +kernel
theorem dX5_listening_23 : decode cX5_listening 23 = .ok (.iload 4, 2) := by decide +kernel
theorem dX5_listening_25 : decode cX5_listening 25 = .ok (.iaload, 1) := by decide +kernel
theorem dX5_listening_26 : decode cX5_listening 26 = .ok (.ifCond .le 45, 3) := by decide +kernel
theorem dX5_listening_29 : decode cX5_listening 29 = .ok (.aload_n 0, 1) := by decide +kernel
theorem dX5_listening_30 : decode cX5_listening 30 = .ok (.getfield 153, 3) := by decide +kernel
theorem dX5_listening_33 : decode cX5_listening 33 = .ok (.iload 4, 2) := by decide +kernel
theorem dX5_listening_35 : decode cX5_listening 35 = .ok (.invokestatic 156, 3) := by decide +kernel
theorem dX5_listening_38 : decode cX5_listening 38 = .ok (.ifCond .eq 33, 3) := by decide +kernel
theorem dX5_listening_41 : decode cX5_listening 41 = .ok (.iload_n 3, 1) := by decide +kernel
theorem dX5_listening_42 : decode cX5_listening 42 = .ok (.ifCond .lt 19, 3) := by decide +kernel
theorem dX5_listening_45 : decode cX5_listening 45 = .ok (.aload_n 0, 1) := by decide +kernel
theorem dX5_listening_46 : decode cX5_listening 46 = .ok (.iload 4, 2) := by decide +kernel
theorem dX5_listening_48 : decode cX5_listening 48 = .ok (.iload_n 1, 1) := by decide +kernel
theorem dX5_listening_49 : decode cX5_listening 49 = .ok (.invokevirtual 150, 3) := by decide +kernel
theorem dX5_listening_52 : decode cX5_listening 52 = .ok (.aload_n 0, 1) := by decide +kernel
theorem dX5_listening_53 : decode cX5_listening 53 = .ok (.iload_n 3, 1) := by decide +kernel
theorem dX5_listening_54 : decode cX5_listening 54 = .ok (.iload_n 1, 1) := by decide +kernel
theorem dX5_listening_55 : decode cX5_listening 55 = .ok (.invokevirtual 150, 3) := by decide +kernel
theorem dX5_listening_58 : decode cX5_listening 58 = .ok (.if_icmp .le 8, 3) := by decide +kernel
theorem dX5_listening_61 : decode cX5_listening 61 = .ok (.iload 4, 2) := by decide +kernel
theorem dX5_listening_63 : decode cX5_listening 63 = .ok (.goto 4, 3) := by decide +kernel
theorem dX5_listening_66 : decode cX5_listening 66 = .ok (.iload_n 3, 1) := by decide +kernel
theorem dX5_listening_67 : decode cX5_listening 67 = .ok (.istore_n 3, 1) := by decide +kernel
theorem dX5_listening_68 : decode cX5_listening 68 = .ok (.goto 20, 3) := by decide +kernel
theorem dX5_listening_71 : decode cX5_listening 71 = .ok (.aload_n 0, 1) := by decide +kernel
theorem dX5_listening_72 : decode cX5_listening 72 = .ok (.getfield 31, 3) := by decide +kernel
theorem dX5_listening_75 : decode cX5_listening 75 = .ok (.iload 4, 2) := by decide +kernel
theorem dX5_listening_77 : decode cX5_listening 77 = .ok (.iaload, 1) := by decide +kernel
theorem dX5_listening_78 : decode cX5_listening 78 = .ok (.ifCond .le 10, 3) := by decide +kernel
theorem dX5_listening_81 : decode cX5_listening 81 = .ok (.iload_n 2, 1) := by decide +kernel
theorem dX5_listening_82 : decode cX5_listening 82 = .ok (.iconst 1, 1) := by decide +kernel
theorem dX5_listening_83 : decode cX5_listening 83 = .ok (.iload 4, 2) := by decide +kernel
theorem dX5_listening_85 : decode cX5_listening 85 = .ok (.ishl, 1) := by decide +kernel
theorem dX5_listening_86 : decode cX5_listening 86 = .ok (.ior, 1) := by decide +kernel
theorem dX5_listening_87 : decode cX5_listening 87 = .ok (.istore_n 2, 1) := by decide +kernel
theorem dX5_listening_88 : decode cX5_listening 88 = .ok (.iinc 4 1, 3) := by decide +kernel
theorem dX5_listening_91 : decode cX5_listening 91 = .ok (.goto (-84), 3) := by decide +kernel
theorem dX5_listening_94 : decode cX5_listening 94 = .ok (.iload_n 3, 1) := by decide +kernel
theorem dX5_listening_95 : decode cX5_listening 95 = .ok (.ifCond .ge 7, 3) := by decide +kernel
theorem dX5_listening_98 : decode cX5_listening 98 = .ok (.iload_n 2, 1) := by decide +kernel
theorem dX5_listening_99 : decode cX5_listening 99 = .ok (.goto 8, 3) := by decide +kernel
theorem dX5_listening_102 : decode cX5_listening 102 = .ok (.iload_n 2, 1) := by decide +kernel
theorem dX5_listening_103 : decode cX5_listening 103 = .ok (.iconst 1, 1) := by decide +kernel
theorem dX5_listening_104 : decode cX5_listening 104 = .ok (.iload_n 3, 1) := by decide +kernel
theorem dX5_listening_105 : decode cX5_listening 105 = .ok (.ishl, 1) := by decide +kernel
theorem dX5_listening_106 : decode cX5_listening 106 = .ok (.ior, 1) := by decide +kernel
theorem dX5_listening_107 : decode cX5_listening 107 = .ok (.ireturn, 1) := by decide +kernel
theorem dX5_up_0 : decode cX5_up 0 = .ok (.iload_n 0, 1) := by decide +kernel
theorem dX5_up_1 : decode cX5_up 1 = .ok (.ifCond .gt 7, 3) := by decide +kernel
theorem dX5_up_4 : decode cX5_up 4 = .ok (.iconst 0, 1) := by decide +kernel
theorem dX5_up_5 : decode cX5_up 5 = .ok (.goto 10, 3) := by decide +kernel
theorem dX5_up_8 : decode cX5_up 8 = .ok (.iload_n 0, 1) := by decide +kernel
theorem dX5_up_9 : decode cX5_up 9 = .ok (.iload_n 1, 1) := by decide +kernel
theorem dX5_up_10 : decode cX5_up 10 = .ok (.iadd, 1) := by decide +kernel
theorem dX5_up_11 : decode cX5_up 11 = .ok (.iconst 1, 1) := by decide +kernel
theorem dX5_up_12 : decode cX5_up 12 = .ok (.isub, 1) := by decide +kernel
theorem dX5_up_13 : decode cX5_up 13 = .ok (.iload_n 1, 1) := by decide +kernel
theorem dX5_up_14 : decode cX5_up 14 = .ok (.idiv, 1) := by decide +kernel
theorem dX5_up_15 : decode cX5_up 15 = .ok (.ireturn, 1) := by decide +kernel
theorem dX5_waits_0 : decode cX5_waits 0 = .ok (.aload_n 0, 1) := by decide +kernel
theorem dX5_waits_1 : decode cX5_waits 1 = .ok (.iload_n 1, 1) := by decide +kernel
theorem dX5_waits_2 : decode cX5_waits 2 = .ok (.iload_n 2, 1) := by decide +kernel
theorem dX5_waits_3 : decode cX5_waits 3 = .ok (.invokevirtual 150, 3) := by decide +kernel
theorem dX5_waits_6 : decode cX5_waits 6 = .ok (.aload_n 0, 1) := by decide +kernel
theorem dX5_waits_7 : decode cX5_waits 7 = .ok (.iload_n 1, 1) := by decide +kernel
theorem dX5_waits_8 : decode cX5_waits 8 = .ok (.invokevirtual 160, 3) := by decide +kernel
theorem dX5_waits_11 : decode cX5_waits 11 = .ok (.isub, 1) := by decide +kernel
theorem dX5_waits_12 : decode cX5_waits 12 = .ok (.istore 5, 2) := by decide +kernel
theorem dX5_waits_14 : decode cX5_waits 14 = .ok (.iload_n 3, 1) := by decide +kernel
theorem dX5_waits_15 : decode cX5_waits 15 = .ok (.aload_n 0, 1) := by decide +kernel
theorem dX5_waits_16 : decode cX5_waits 16 = .ok (.iload_n 1, 1) := by decide +kernel
theorem dX5_waits_17 : decode cX5_waits 17 = .ok (.invokevirtual 163, 3) := by decide +kernel
theorem dX5_waits_20 : decode cX5_waits 20 = .ok (.isub, 1) := by decide +kernel
theorem dX5_waits_21 : decode cX5_waits 21 = .ok (.aload_n 0, 1) := by decide +kernel
theorem dX5_waits_22 : decode cX5_waits 22 = .ok (.getfield 7, 3) := by decide +kernel
theorem dX5_waits_25 : decode cX5_waits 25 = .ok (.iconst 1, 1) := by decide +kernel
theorem dX5_waits_26 : decode cX5_waits 26 = .ok (.iaload, 1) := by decide +kernel
theorem dX5_waits_27 : decode cX5_waits 27 = .ok (.invokestatic 166, 3) := by decide +kernel
theorem dX5_waits_30 : decode cX5_waits 30 = .ok (.istore 6, 2) := by decide +kernel
theorem dX5_waits_32 : decode cX5_waits 32 = .ok (.aload_n 0, 1) := by decide +kernel
theorem dX5_waits_33 : decode cX5_waits 33 = .ok (.getfield 7, 3) := by decide +kernel
theorem dX5_waits_36 : decode cX5_waits 36 = .ok (.bipush 13, 2) := by decide +kernel
theorem dX5_waits_38 : decode cX5_waits 38 = .ok (.iload_n 1, 1) := by decide +kernel
theorem dX5_waits_39 : decode cX5_waits 39 = .ok (.iadd, 1) := by decide +kernel
theorem dX5_waits_40 : decode cX5_waits 40 = .ok (.iaload, 1) := by decide +kernel
theorem dX5_waits_41 : decode cX5_waits 41 = .ok (.iconst 1, 1) := by decide +kernel
theorem dX5_waits_42 : decode cX5_waits 42 = .ok (.if_icmp .eq 22, 3) := by decide +kernel
theorem dX5_waits_45 : decode cX5_waits 45 = .ok (.iload 6, 2) := by decide +kernel
theorem dX5_waits_47 : decode cX5_waits 47 = .ok (.iload_n 3, 1) := by decide +kernel
theorem dX5_waits_48 : decode cX5_waits 48 = .ok (.iload 5, 2) := by decide +kernel
theorem dX5_waits_50 : decode cX5_waits 50 = .ok (.isub, 1) := by decide +kernel
theorem dX5_waits_51 : decode cX5_waits 51 = .ok (.aload_n 0, 1) := by decide +kernel
theorem dX5_waits_52 : decode cX5_waits 52 = .ok (.getfield 7, 3) := by decide +kernel
theorem dX5_waits_55 : decode cX5_waits 55 = .ok (.iconst 1, 1) := by decide +kernel
theorem dX5_waits_56 : decode cX5_waits 56 = .ok (.iaload, 1) := by decide +kernel
theorem dX5_waits_57 : decode cX5_waits 57 = .ok (.invokestatic 166, 3) := by decide +kernel
theorem dX5_waits_60 : decode cX5_waits 60 = .ok (.invokestatic 169, 3) := by decide +kernel
theorem dX5_waits_63 : decode cX5_waits 63 = .ok (.ireturn, 1) := by decide +kernel
theorem dX5_waits_64 : decode cX5_waits 64 = .ok (.iload 4, 2) := by decide +kernel
theorem dX5_waits_66 : decode cX5_waits 66 = .ok (.iload 5, 2) := by decide +kernel
theorem dX5_waits_68 : decode cX5_waits 68 = .ok (.if_icmp .gt 12, 3) := by decide +kernel
theorem dX5_waits_71 : decode cX5_waits 71 = .ok (.iload 6, 2) := by decide +kernel
theorem dX5_waits_73 : decode cX5_waits 73 = .ok (.ifCond .ne 7, 3) := by decide +kernel
theorem dX5_waits_76 : decode cX5_waits 76 = .ok (.iconst 0, 1) := by decide +kernel
theorem dX5_waits_77 : decode cX5_waits 77 = .ok (.goto 23, 3) := by decide +kernel
theorem dX5_waits_80 : decode cX5_waits 80 = .ok (.iload 6, 2) := by decide +kernel
theorem dX5_waits_82 : decode cX5_waits 82 = .ok (.iconst 1, 1) := by decide +kernel
theorem dX5_waits_83 : decode cX5_waits 83 = .ok (.iload_n 3, 1) := by decide +kernel
theorem dX5_waits_84 : decode cX5_waits 84 = .ok (.iload 5, 2) := by decide +kernel
theorem dX5_waits_86 : decode cX5_waits 86 = .ok (.isub, 1) := by decide +kernel
theorem dX5_waits_87 : decode cX5_waits 87 = .ok (.aload_n 0, 1) := by decide +kernel
theorem dX5_waits_88 : decode cX5_waits 88 = .ok (.getfield 7, 3) := by decide +kernel
theorem dX5_waits_91 : decode cX5_waits 91 = .ok (.iconst 1, 1) := by decide +kernel
theorem dX5_waits_92 : decode cX5_waits 92 = .ok (.iaload, 1) := by decide +kernel
theorem dX5_waits_93 : decode cX5_waits 93 = .ok (.invokestatic 166, 3) := by decide +kernel
theorem dX5_waits_96 : decode cX5_waits 96 = .ok (.iadd, 1) := by decide +kernel
theorem dX5_waits_97 : decode cX5_waits 97 = .ok (.invokestatic 169, 3) := by decide +kernel
theorem dX5_waits_100 : decode cX5_waits 100 = .ok (.ireturn, 1) := by decide +kernel
theorem dX5_cry_0 : decode cX5_cry 0 = .ok (.aload_n 0, 1) := by decide +kernel
theorem dX5_cry_1 : decode cX5_cry 1 = .ok (.getfield 7, 3) := by decide +kernel
theorem dX5_cry_4 : decode cX5_cry 4 = .ok (.bipush 6, 2) := by decide +kernel
theorem dX5_cry_6 : decode cX5_cry 6 = .ok (.iload_n 1, 1) := by decide +kernel
theorem dX5_cry_7 : decode cX5_cry 7 = .ok (.iadd, 1) := by decide +kernel
theorem dX5_cry_8 : decode cX5_cry 8 = .ok (.iaload, 1) := by decide +kernel
theorem dX5_cry_9 : decode cX5_cry 9 = .ok (.istore_n 2, 1) := by decide +kernel
theorem dX5_cry_10 : decode cX5_cry 10 = .ok (.aload_n 0, 1) := by decide +kernel
theorem dX5_cry_11 : decode cX5_cry 11 = .ok (.iload_n 2, 1) := by decide +kernel
theorem dX5_cry_12 : decode cX5_cry 12 = .ok (.invokevirtual 172, 3) := by decide +kernel
theorem dX5_cry_15 : decode cX5_cry 15 = .ok (.istore_n 3, 1) := by decide +kernel
theorem dX5_cry_16 : decode cX5_cry 16 = .ok (.aload_n 0, 1) := by decide +kernel
theorem dX5_cry_17 : decode cX5_cry 17 = .ok (.getfield 7, 3) := by decide +kernel
theorem dX5_cry_20 : decode cX5_cry 20 = .ok (.iconst 0, 1) := by decide +kernel
theorem dX5_cry_21 : decode cX5_cry 21 = .ok (.iaload, 1) := by decide +kernel
theorem dX5_cry_22 : decode cX5_cry 22 = .ok (.istore 4, 2) := by decide +kernel
theorem dX5_cry_24 : decode cX5_cry 24 = .ok (.ldc 175, 2) := by decide +kernel
theorem dX5_cry_26 : decode cX5_cry 26 = .ok (.istore 5, 2) := by decide +kernel
theorem dX5_cry_28 : decode cX5_cry 28 = .ok (.iconst 0, 1) := by decide +kernel
theorem dX5_cry_29 : decode cX5_cry 29 = .ok (.istore 6, 2) := by decide +kernel
theorem dX5_cry_31 : decode cX5_cry 31 = .ok (.aload_n 0, 1) := by decide +kernel
theorem dX5_cry_32 : decode cX5_cry 32 = .ok (.getfield 37, 3) := by decide +kernel
theorem dX5_cry_35 : decode cX5_cry 35 = .ok (.iload_n 1, 1) := by decide +kernel
theorem dX5_cry_36 : decode cX5_cry 36 = .ok (.bipush (-4), 2) := by decide +kernel
theorem dX5_cry_38 : decode cX5_cry 38 = .ok (.iastore, 1) := by decide +kernel
theorem dX5_cry_39 : decode cX5_cry 39 = .ok (.aload_n 0, 1) := by decide +kernel
theorem dX5_cry_40 : decode cX5_cry 40 = .ok (.getfield 40, 3) := by decide +kernel
theorem dX5_cry_43 : decode cX5_cry 43 = .ok (.iload_n 1, 1) := by decide +kernel
theorem dX5_cry_44 : decode cX5_cry 44 = .ok (.bipush (-4), 2) := by decide +kernel
theorem dX5_cry_46 : decode cX5_cry 46 = .ok (.iastore, 1) := by decide +kernel
theorem dX5_cry_47 : decode cX5_cry 47 = .ok (.aload_n 0, 1) := by decide +kernel
theorem dX5_cry_48 : decode cX5_cry 48 = .ok (.getfield 46, 3) := by decide +kernel
theorem dX5_cry_51 : decode cX5_cry 51 = .ok (.iload_n 1, 1) := by decide +kernel
theorem dX5_cry_52 : decode cX5_cry 52 = .ok (.iconst 0, 1) := by decide +kernel
theorem dX5_cry_53 : decode cX5_cry 53 = .ok (.iastore, 1) := by decide +kernel
theorem dX5_cry_54 : decode cX5_cry 54 = .ok (.aload_n 0, 1) := by decide +kernel
theorem dX5_cry_55 : decode cX5_cry 55 = .ok (.getfield 52, 3) := by decide +kernel
theorem dX5_cry_58 : decode cX5_cry 58 = .ok (.iload_n 1, 1) := by decide +kernel
theorem dX5_cry_59 : decode cX5_cry 59 = .ok (.iconst 0, 1) := by decide +kernel
theorem dX5_cry_60 : decode cX5_cry 60 = .ok (.iastore, 1) := by decide +kernel
theorem dX5_cry_61 : decode cX5_cry 61 = .ok (.iload 4, 2) := by decide +kernel
theorem dX5_cry_63 : decode cX5_cry 63 = .ok (.aload_n 0, 1) := by decide +kernel
theorem dX5_cry_64 : decode cX5_cry 64 = .ok (.getfield 7, 3) := by decide +kernel
theorem dX5_cry_67 : decode cX5_cry 67 = .ok (.iconst 2, 1) := by decide +kernel
theorem dX5_cry_68 : decode cX5_cry 68 = .ok (.iaload, 1) := by decide +kernel
theorem dX5_cry_69 : decode cX5_cry 69 = .ok (.if_icmp .lt 297, 3) := by decide +kernel
theorem dX5_cry_72 : decode cX5_cry 72 = .ok (.ldc 175, 2) := by decide +kernel
theorem dX5_cry_74 : decode cX5_cry 74 = .ok (.istore 7, 2) := by decide +kernel
theorem dX5_cry_76 : decode cX5_cry 76 = .ok (.iconst 0, 1) := by decide +kernel
theorem dX5_cry_77 : decode cX5_cry 77 = .ok (.istore 8, 2) := by decide +kernel
theorem dX5_cry_79 : decode cX5_cry 79 = .ok (.iconst 0, 1) := by decide +kernel
theorem dX5_cry_80 : decode cX5_cry 80 = .ok (.istore 9, 2) := by decide +kernel
theorem dX5_cry_82 : decode cX5_cry 82 = .ok (.iload 9, 2) := by decide +kernel
theorem dX5_cry_84 : decode cX5_cry 84 = .ok (.aload_n 0, 1) := by decide +kernel
theorem dX5_cry_85 : decode cX5_cry 85 = .ok (.getfield 7, 3) := by decide +kernel
theorem dX5_cry_88 : decode cX5_cry 88 = .ok (.bipush 12, 2) := by decide +kernel
theorem dX5_cry_90 : decode cX5_cry 90 = .ok (.iaload, 1) := by decide +kernel
theorem dX5_cry_91 : decode cX5_cry 91 = .ok (.if_icmp .ge 87, 3) := by decide +kernel
theorem dX5_cry_94 : decode cX5_cry 94 = .ok (.iload_n 3, 1) := by decide +kernel
theorem dX5_cry_95 : decode cX5_cry 95 = .ok (.iload 9, 2) := by decide +kernel
theorem dX5_cry_97 : decode cX5_cry 97 = .ok (.invokestatic 156, 3) := by decide +kernel
theorem dX5_cry_100 : decode cX5_cry 100 = .ok (.ifCond .eq 17, 3) := by decide +kernel
theorem dX5_cry_103 : decode cX5_cry 103 = .ok (.aload_n 0, 1) := by decide +kernel
theorem dX5_cry_104 : decode cX5_cry 104 = .ok (.iload 9, 2) := by decide +kernel
theorem dX5_cry_106 : decode cX5_cry 106 = .ok (.iload_n 2, 1) := by decide +kernel
theorem dX5_cry_107 : decode cX5_cry 107 = .ok (.iload 4, 2) := by decide +kernel
theorem dX5_cry_109 : decode cX5_cry 109 = .ok (.iload 5, 2) := by decide +kernel
theorem dX5_cry_111 : decode cX5_cry 111 = .ok (.invokevirtual 176, 3) := by decide +kernel
theorem dX5_cry_114 : decode cX5_cry 114 = .ok (.goto 5, 3) := by decide +kernel
theorem dX5_cry_117 : decode cX5_cry 117 = .ok (.ldc 175, 2) := by decide +kernel
theorem dX5_cry_119 : decode cX5_cry 119 = .ok (.istore 10, 2) := by decide +kernel
theorem dX5_cry_121 : decode cX5_cry 121 = .ok (.iload 10, 2) := by decide +kernel
theorem dX5_cry_123 : decode cX5_cry 123 = .ok (.iload 7, 2) := by decide +kernel
theorem dX5_cry_125 : decode cX5_cry 125 = .ok (.if_icmp .ge 10, 3) := by decide +kernel
theorem dX5_cry_128 : decode cX5_cry 128 = .ok (.iconst 1, 1) := by decide +kernel
theorem dX5_cry_129 : decode cX5_cry 129 = .ok (.iload 9, 2) := by decide +kernel
theorem dX5_cry_131 : decode cX5_cry 131 = .ok (.ishl, 1) := by decide +kernel
theorem dX5_cry_132 : decode cX5_cry 132 = .ok (.goto 29, 3) := by decide +kernel
theorem dX5_cry_135 : decode cX5_cry 135 = .ok (.iload 10, 2) := by decide +kernel
theorem dX5_cry_137 : decode cX5_cry 137 = .ok (.iload 7, 2) := by decide +kernel
theorem dX5_cry_139 : decode cX5_cry 139 = .ok (.if_icmp .ne 20, 3) := by decide +kernel
theorem dX5_cry_142 : decode cX5_cry 142 = .ok (.iload 10, 2) := by decide +kernel
theorem dX5_cry_144 : decode cX5_cry 144 = .ok (.ldc 175, 2) := by decide +kernel
theorem dX5_cry_146 : decode cX5_cry 146 = .ok (.if_icmp .ge 13, 3) := by decide +kernel
theorem dX5_cry_149 : decode cX5_cry 149 = .ok (.iload 8, 2) := by decide +kernel
theorem dX5_cry_151 : decode cX5_cry 151 = .ok (.iconst 1, 1) := by decide +kernel
theorem dX5_cry_152 : decode cX5_cry 152 = .ok (.iload 9, 2) := by decide +kernel
theorem dX5_cry_154 : decode cX5_cry 154 = .ok (.ishl, 1) := by decide +kernel
theorem dX5_cry_155 : decode cX5_cry 155 = .ok (.ior, 1) := by decide +kernel
theorem dX5_cry_156 : decode cX5_cry 156 = .ok (.goto 5, 3) := by decide +kernel
theorem dX5_cry_159 : decode cX5_cry 159 = .ok (.iload 8, 2) := by decide +kernel
theorem dX5_cry_161 : decode cX5_cry 161 = .ok (.istore 8, 2) := by decide +kernel
theorem dX5_cry_163 : decode cX5_cry 163 = .ok (.iload 7, 2) := by decide +kernel
theorem dX5_cry_165 : decode cX5_cry 165 = .ok (.iload 10, 2) := by decide +kernel
theorem dX5_cry_167 : decode cX5_cry 167 = .ok (.invokestatic 132, 3) := by decide +kernel
theorem dX5_cry_170 : decode cX5_cry 170 = .ok (.istore 7, 2) := by decide +kernel
theorem dX5_cry_172 : decode cX5_cry 172 = .ok (.iinc 9 1, 3) := by decide +kernel
theorem dX5_cry_175 : decode cX5_cry 175 = .ok (.goto (-93), 3) := by decide +kernel
theorem dX5_cry_178 : decode cX5_cry 178 = .ok (.iload 4, 2) := by decide +kernel
theorem dX5_cry_180 : decode cX5_cry 180 = .ok (.aload_n 0, 1) := by decide +kernel
theorem dX5_cry_181 : decode cX5_cry 181 = .ok (.getfield 7, 3) := by decide +kernel
theorem dX5_cry_184 : decode cX5_cry 184 = .ok (.iconst 2, 1) := by decide +kernel
theorem dX5_cry_185 : decode cX5_cry 185 = .ok (.iaload, 1) := by decide +kernel
theorem dX5_cry_186 : decode cX5_cry 186 = .ok (.isub, 1) := by decide +kernel
theorem dX5_cry_187 : decode cX5_cry 187 = .ok (.aload_n 0, 1) := by decide +kernel
theorem dX5_cry_188 : decode cX5_cry 188 = .ok (.getfield 7, 3) := by decide +kernel
theorem dX5_cry_191 : decode cX5_cry 191 = .ok (.iconst 1, 1) := by decide +kernel
theorem dX5_cry_192 : decode cX5_cry 192 = .ok (.iaload, 1) := by decide +kernel
theorem dX5_cry_193 : decode cX5_cry 193 = .ok (.idiv, 1) := by decide +kernel
theorem dX5_cry_194 : decode cX5_cry 194 = .ok (.istore 9, 2) := by decide +kernel
theorem dX5_cry_196 : decode cX5_cry 196 = .ok (.iload 7, 2) := by decide +kernel
theorem dX5_cry_198 : decode cX5_cry 198 = .ok (.iload 9, 2) := by decide +kernel
theorem dX5_cry_200 : decode cX5_cry 200 = .ok (.invokestatic 132, 3) := by decide +kernel
theorem dX5_cry_203 : decode cX5_cry 203 = .ok (.istore 10, 2) := by decide +kernel
theorem dX5_cry_205 : decode cX5_cry 205 = .ok (.iload 4, 2) := by decide +kernel
theorem dX5_cry_207 : decode cX5_cry 207 = .ok (.iload 10, 2) := by decide +kernel
theorem dX5_cry_209 : decode cX5_cry 209 = .ok (.aload_n 0, 1) := by decide +kernel
theorem dX5_cry_210 : decode cX5_cry 210 = .ok (.getfield 7, 3) := by decide +kernel
theorem dX5_cry_213 : decode cX5_cry 213 = .ok (.iconst 1, 1) := by decide +kernel
theorem dX5_cry_214 : decode cX5_cry 214 = .ok (.iaload, 1) := by decide +kernel
theorem dX5_cry_215 : decode cX5_cry 215 = .ok (.imul, 1) := by decide +kernel
theorem dX5_cry_216 : decode cX5_cry 216 = .ok (.isub, 1) := by decide +kernel
theorem dX5_cry_217 : decode cX5_cry 217 = .ok (.istore 4, 2) := by decide +kernel
theorem dX5_cry_219 : decode cX5_cry 219 = .ok (.iload 6, 2) := by decide +kernel
theorem dX5_cry_221 : decode cX5_cry 221 = .ok (.iload 10, 2) := by decide +kernel
theorem dX5_cry_223 : decode cX5_cry 223 = .ok (.iconst 1, 1) := by decide +kernel
theorem dX5_cry_224 : decode cX5_cry 224 = .ok (.iadd, 1) := by decide +kernel
theorem dX5_cry_225 : decode cX5_cry 225 = .ok (.iadd, 1) := by decide +kernel
theorem dX5_cry_226 : decode cX5_cry 226 = .ok (.istore 6, 2) := by decide +kernel
theorem dX5_cry_228 : decode cX5_cry 228 = .ok (.aload_n 0, 1) := by decide +kernel
theorem dX5_cry_229 : decode cX5_cry 229 = .ok (.getfield 49, 3) := by decide +kernel
theorem dX5_cry_232 : decode cX5_cry 232 = .ok (.iload_n 1, 1) := by decide +kernel
theorem dX5_cry_233 : decode cX5_cry 233 = .ok (.iload 4, 2) := by decide +kernel
theorem dX5_cry_235 : decode cX5_cry 235 = .ok (.iastore, 1) := by decide +kernel
theorem dX5_cry_236 : decode cX5_cry 236 = .ok (.iload 7, 2) := by decide +kernel
theorem dX5_cry_238 : decode cX5_cry 238 = .ok (.iload 9, 2) := by decide +kernel
theorem dX5_cry_240 : decode cX5_cry 240 = .ok (.if_icmp .le 6, 3) := by decide +kernel
theorem dX5_cry_243 : decode cX5_cry 243 = .ok (.goto 123, 3) := by decide +kernel
theorem dX5_cry_246 : decode cX5_cry 246 = .ok (.iload 8, 2) := by decide +kernel
theorem dX5_cry_248 : decode cX5_cry 248 = .ok (.iload 8, 2) := by decide +kernel
theorem dX5_cry_250 : decode cX5_cry 250 = .ok (.iconst 1, 1) := by decide +kernel
theorem dX5_cry_251 : decode cX5_cry 251 = .ok (.isub, 1) := by decide +kernel
theorem dX5_cry_252 : decode cX5_cry 252 = .ok (.iand, 1) := by decide +kernel
theorem dX5_cry_253 : decode cX5_cry 253 = .ok (.ifCond .ne 7, 3) := by decide +kernel
theorem dX5_cry_256 : decode cX5_cry 256 = .ok (.iconst 1, 1) := by decide +kernel
theorem dX5_cry_257 : decode cX5_cry 257 = .ok (.goto 4, 3) := by decide +kernel
theorem dX5_cry_260 : decode cX5_cry 260 = .ok (.iconst 0, 1) := by decide +kernel
theorem dX5_cry_261 : decode cX5_cry 261 = .ok (.istore 11, 2) := by decide +kernel
theorem dX5_cry_263 : decode cX5_cry 263 = .ok (.iload 11, 2) := by decide +kernel
theorem dX5_cry_265 : decode cX5_cry 265 = .ok (.ifCond .ne 22, 3) := by decide +kernel
theorem dX5_cry_268 : decode cX5_cry 268 = .ok (.aload_n 0, 1) := by decide +kernel
theorem dX5_cry_269 : decode cX5_cry 269 = .ok (.getfield 7, 3) := by decide +kernel
theorem dX5_cry_272 : decode cX5_cry 272 = .ok (.iconst 3, 1) := by decide +kernel
theorem dX5_cry_273 : decode cX5_cry 273 = .ok (.iaload, 1) := by decide +kernel
theorem dX5_cry_274 : decode cX5_cry 274 = .ok (.ifCond .eq 13, 3) := by decide +kernel
theorem dX5_cry_277 : decode cX5_cry 277 = .ok (.aload_n 0, 1) := by decide +kernel
theorem dX5_cry_278 : decode cX5_cry 278 = .ok (.getfield 46, 3) := by decide +kernel
theorem dX5_cry_281 : decode cX5_cry 281 = .ok (.iload_n 1, 1) := by decide +kernel
theorem dX5_cry_282 : decode cX5_cry 282 = .ok (.iaload, 1) := by decide +kernel
theorem dX5_cry_283 : decode cX5_cry 283 = .ok (.iconst 3, 1) := by decide +kernel
theorem dX5_cry_284 : decode cX5_cry 284 = .ok (.if_icmp .ne 49, 3) := by decide +kernel
theorem dX5_cry_287 : decode cX5_cry 287 = .ok (.iconst 0, 1) := by decide +kernel
theorem dX5_cry_288 : decode cX5_cry 288 = .ok (.istore 12, 2) := by decide +kernel
theorem dX5_cry_290 : decode cX5_cry 290 = .ok (.iload 8, 2) := by decide +kernel
theorem dX5_cry_292 : decode cX5_cry 292 = .ok (.iload 12, 2) := by decide +kernel
theorem dX5_cry_294 : decode cX5_cry 294 = .ok (.invokestatic 156, 3) := by decide +kernel
theorem dX5_cry_297 : decode cX5_cry 297 = .ok (.ifCond .ne 9, 3) := by decide +kernel
theorem dX5_cry_300 : decode cX5_cry 300 = .ok (.iinc 12 1, 3) := by decide +kernel
theorem dX5_cry_303 : decode cX5_cry 303 = .ok (.goto (-13), 3) := by decide +kernel
theorem dX5_cry_306 : decode cX5_cry 306 = .ok (.aload_n 0, 1) := by decide +kernel
theorem dX5_cry_307 : decode cX5_cry 307 = .ok (.getfield 37, 3) := by decide +kernel
theorem dX5_cry_310 : decode cX5_cry 310 = .ok (.iload_n 1, 1) := by decide +kernel
theorem dX5_cry_311 : decode cX5_cry 311 = .ok (.iload 12, 2) := by decide +kernel
theorem dX5_cry_313 : decode cX5_cry 313 = .ok (.iastore, 1) := by decide +kernel
theorem dX5_cry_314 : decode cX5_cry 314 = .ok (.aload_n 0, 1) := by decide +kernel
theorem dX5_cry_315 : decode cX5_cry 315 = .ok (.getfield 40, 3) := by decide +kernel
theorem dX5_cry_318 : decode cX5_cry 318 = .ok (.iload_n 1, 1) := by decide +kernel
theorem dX5_cry_319 : decode cX5_cry 319 = .ok (.iload 4, 2) := by decide +kernel
theorem dX5_cry_321 : decode cX5_cry 321 = .ok (.iastore, 1) := by decide +kernel
theorem dX5_cry_322 : decode cX5_cry 322 = .ok (.aload_n 0, 1) := by decide +kernel
theorem dX5_cry_323 : decode cX5_cry 323 = .ok (.getfield 52, 3) := by decide +kernel
theorem dX5_cry_326 : decode cX5_cry 326 = .ok (.iload_n 1, 1) := by decide +kernel
theorem dX5_cry_327 : decode cX5_cry 327 = .ok (.iload 8, 2) := by decide +kernel
theorem dX5_cry_329 : decode cX5_cry 329 = .ok (.iastore, 1) := by decide +kernel
theorem dX5_cry_330 : decode cX5_cry 330 = .ok (.goto 36, 3) := by decide +kernel
theorem dX5_cry_333 : decode cX5_cry 333 = .ok (.aload_n 0, 1) := by decide +kernel
theorem dX5_cry_334 : decode cX5_cry 334 = .ok (.getfield 46, 3) := by decide +kernel
theorem dX5_cry_337 : decode cX5_cry 337 = .ok (.iload_n 1, 1) := by decide +kernel
theorem dX5_cry_338 : decode cX5_cry 338 = .ok (.dup2, 1) := by decide +kernel
theorem dX5_cry_339 : decode cX5_cry 339 = .ok (.iaload, 1) := by decide +kernel
theorem dX5_cry_340 : decode cX5_cry 340 = .ok (.iconst 1, 1) := by decide +kernel
theorem dX5_cry_341 : decode cX5_cry 341 = .ok (.iadd, 1) := by decide +kernel
theorem dX5_cry_342 : decode cX5_cry 342 = .ok (.iastore, 1) := by decide +kernel
theorem dX5_cry_343 : decode cX5_cry 343 = .ok (.iload 4, 2) := by decide +kernel
theorem dX5_cry_345 : decode cX5_cry 345 = .ok (.istore 5, 2) := by decide +kernel
theorem dX5_cry_347 : decode cX5_cry 347 = .ok (.aload_n 0, 1) := by decide +kernel
theorem dX5_cry_348 : decode cX5_cry 348 = .ok (.getfield 7, 3) := by decide +kernel
theorem dX5_cry_351 : decode cX5_cry 351 = .ok (.iconst 0, 1) := by decide +kernel
theorem dX5_cry_352 : decode cX5_cry 352 = .ok (.iaload, 1) := by decide +kernel
theorem dX5_cry_353 : decode cX5_cry 353 = .ok (.iload 4, 2) := by decide +kernel
theorem dX5_cry_355 : decode cX5_cry 355 = .ok (.bipush 9, 2) := by decide +kernel
theorem dX5_cry_357 : decode cX5_cry 357 = .ok (.iadd, 1) := by decide +kernel
theorem dX5_cry_358 : decode cX5_cry 358 = .ok (.invokestatic 132, 3) := by decide +kernel
theorem dX5_cry_361 : decode cX5_cry 361 = .ok (.istore 4, 2) := by decide +kernel
theorem dX5_cry_363 : decode cX5_cry 363 = .ok (.goto (-302), 3) := by decide +kernel
theorem dX5_cry_366 : decode cX5_cry 366 = .ok (.aload_n 0, 1) := by decide +kernel
theorem dX5_cry_367 : decode cX5_cry 367 = .ok (.getfield 43, 3) := by decide +kernel
theorem dX5_cry_370 : decode cX5_cry 370 = .ok (.iload_n 1, 1) := by decide +kernel
theorem dX5_cry_371 : decode cX5_cry 371 = .ok (.iload 6, 2) := by decide +kernel
theorem dX5_cry_373 : decode cX5_cry 373 = .ok (.ifCond .ne 8, 3) := by decide +kernel
theorem dX5_cry_376 : decode cX5_cry 376 = .ok (.bipush (-4), 2) := by decide +kernel
theorem dX5_cry_378 : decode cX5_cry 378 = .ok (.goto 7, 3) := by decide +kernel
theorem dX5_cry_381 : decode cX5_cry 381 = .ok (.iload 6, 2) := by decide +kernel
theorem dX5_cry_383 : decode cX5_cry 383 = .ok (.iconst 1, 1) := by decide +kernel
theorem dX5_cry_384 : decode cX5_cry 384 = .ok (.isub, 1) := by decide +kernel
theorem dX5_cry_385 : decode cX5_cry 385 = .ok (.iastore, 1) := by decide +kernel
theorem dX5_cry_386 : decode cX5_cry 386 = .ok (.aload_n 0, 1) := by decide +kernel
theorem dX5_cry_387 : decode cX5_cry 387 = .ok (.getfield 55, 3) := by decide +kernel
theorem dX5_cry_390 : decode cX5_cry 390 = .ok (.iload_n 1, 1) := by decide +kernel
theorem dX5_cry_391 : decode cX5_cry 391 = .ok (.iconst 0, 1) := by decide +kernel
theorem dX5_cry_392 : decode cX5_cry 392 = .ok (.iastore, 1) := by decide +kernel
theorem dX5_cry_393 : decode cX5_cry 393 = .ok (.iconst 0, 1) := by decide +kernel
theorem dX5_cry_394 : decode cX5_cry 394 = .ok (.istore 7, 2) := by decide +kernel
theorem dX5_cry_396 : decode cX5_cry 396 = .ok (.iload 7, 2) := by decide +kernel
theorem dX5_cry_398 : decode cX5_cry 398 = .ok (.aload_n 0, 1) := by decide +kernel
theorem dX5_cry_399 : decode cX5_cry 399 = .ok (.getfield 7, 3) := by decide +kernel
theorem dX5_cry_402 : decode cX5_cry 402 = .ok (.bipush 12, 2) := by decide +kernel
theorem dX5_cry_404 : decode cX5_cry 404 = .ok (.iaload, 1) := by decide +kernel
theorem dX5_cry_405 : decode cX5_cry 405 = .ok (.if_icmp .ge 70, 3) := by decide +kernel
theorem dX5_cry_408 : decode cX5_cry 408 = .ok (.aload_n 0, 1) := by decide +kernel
theorem dX5_cry_409 : decode cX5_cry 409 = .ok (.getfield 55, 3) := by decide +kernel
theorem dX5_cry_412 : decode cX5_cry 412 = .ok (.iload_n 1, 1) := by decide +kernel
theorem dX5_cry_413 : decode cX5_cry 413 = .ok (.dup2, 1) := by decide +kernel
theorem dX5_cry_414 : decode cX5_cry 414 = .ok (.iaload, 1) := by decide +kernel
theorem dX5_cry_415 : decode cX5_cry 415 = .ok (.iload 6, 2) := by decide +kernel
theorem dX5_cry_417 : decode cX5_cry 417 = .ok (.ifCond .le 49, 3) := by decide +kernel
theorem dX5_cry_420 : decode cX5_cry 420 = .ok (.aload_n 0, 1) := by decide +kernel
theorem dX5_cry_421 : decode cX5_cry 421 = .ok (.getfield 31, 3) := by decide +kernel
theorem dX5_cry_424 : decode cX5_cry 424 = .ok (.iload 7, 2) := by decide +kernel
theorem dX5_cry_426 : decode cX5_cry 426 = .ok (.iaload, 1) := by decide +kernel
theorem dX5_cry_427 : decode cX5_cry 427 = .ok (.ifCond .le 39, 3) := by decide +kernel
theorem dX5_cry_430 : decode cX5_cry 430 = .ok (.aload_n 0, 1) := by decide +kernel
theorem dX5_cry_431 : decode cX5_cry 431 = .ok (.iload 7, 2) := by decide +kernel
theorem dX5_cry_433 : decode cX5_cry 433 = .ok (.invokevirtual 163, 3) := by decide +kernel
theorem dX5_cry_436 : decode cX5_cry 436 = .ok (.aload_n 0, 1) := by decide +kernel
theorem dX5_cry_437 : decode cX5_cry 437 = .ok (.getfield 49, 3) := by decide +kernel
theorem dX5_cry_440 : decode cX5_cry 440 = .ok (.iload_n 1, 1) := by decide +kernel
theorem dX5_cry_441 : decode cX5_cry 441 = .ok (.iaload, 1) := by decide +kernel
theorem dX5_cry_442 : decode cX5_cry 442 = .ok (.if_icmp .lt 24, 3) := by decide +kernel
theorem dX5_cry_445 : decode cX5_cry 445 = .ok (.aload_n 0, 1) := by decide +kernel
theorem dX5_cry_446 : decode cX5_cry 446 = .ok (.getfield 7, 3) := by decide +kernel
theorem dX5_cry_449 : decode cX5_cry 449 = .ok (.bipush 13, 2) := by decide +kernel
theorem dX5_cry_451 : decode cX5_cry 451 = .ok (.iload 7, 2) := by decide +kernel
theorem dX5_cry_453 : decode cX5_cry 453 = .ok (.iadd, 1) := by decide +kernel
theorem dX5_cry_454 : decode cX5_cry 454 = .ok (.iaload, 1) := by decide +kernel
theorem dX5_cry_455 : decode cX5_cry 455 = .ok (.iconst 1, 1) := by decide +kernel
theorem dX5_cry_456 : decode cX5_cry 456 = .ok (.if_icmp .eq 10, 3) := by decide +kernel
theorem dX5_cry_459 : decode cX5_cry 459 = .ok (.iconst 1, 1) := by decide +kernel
theorem dX5_cry_460 : decode cX5_cry 460 = .ok (.iload 7, 2) := by decide +kernel
theorem dX5_cry_462 : decode cX5_cry 462 = .ok (.ishl, 1) := by decide +kernel
theorem dX5_cry_463 : decode cX5_cry 463 = .ok (.goto 4, 3) := by decide +kernel
theorem dX5_cry_466 : decode cX5_cry 466 = .ok (.iconst 0, 1) := by decide +kernel
theorem dX5_cry_467 : decode cX5_cry 467 = .ok (.ior, 1) := by decide +kernel
theorem dX5_cry_468 : decode cX5_cry 468 = .ok (.iastore, 1) := by decide +kernel
theorem dX5_cry_469 : decode cX5_cry 469 = .ok (.iinc 7 1, 3) := by decide +kernel
theorem dX5_cry_472 : decode cX5_cry 472 = .ok (.goto (-76), 3) := by decide +kernel
theorem dX5_cry_475 : decode cX5_cry 475 = .ok (.aload_n 0, 1) := by decide +kernel
theorem dX5_cry_476 : decode cX5_cry 476 = .ok (.getfield 37, 3) := by decide +kernel
theorem dX5_cry_479 : decode cX5_cry 479 = .ok (.iload_n 1, 1) := by decide +kernel
theorem dX5_cry_480 : decode cX5_cry 480 = .ok (.iaload, 1) := by decide +kernel
theorem dX5_cry_481 : decode cX5_cry 481 = .ok (.ifCond .lt 16, 3) := by decide +kernel
theorem dX5_cry_484 : decode cX5_cry 484 = .ok (.aload_n 0, 1) := by decide +kernel
theorem dX5_cry_485 : decode cX5_cry 485 = .ok (.aload_n 0, 1) := by decide +kernel
theorem dX5_cry_486 : decode cX5_cry 486 = .ok (.getfield 37, 3) := by decide +kernel
theorem dX5_cry_489 : decode cX5_cry 489 = .ok (.iload_n 1, 1) := by decide +kernel
theorem dX5_cry_490 : decode cX5_cry 490 = .ok (.iaload, 1) := by decide +kernel
theorem dX5_cry_491 : decode cX5_cry 491 = .ok (.iload_n 2, 1) := by decide +kernel
theorem dX5_cry_492 : decode cX5_cry 492 = .ok (.iload 4, 2) := by decide +kernel
theorem dX5_cry_494 : decode cX5_cry 494 = .ok (.invokevirtual 180, 3) := by decide +kernel
theorem dX5_cry_497 : decode cX5_cry 497 = .ok (.return_, 1) := by decide +kernel
theorem dX5_goThrough_0 : decode cX5_goThrough 0 = .ok (.aload_n 0, 1) := by decide +kernel
theorem dX5_goThrough_1 : decode cX5_goThrough 1 = .ok (.iload_n 1, 1) := by decide +kernel
theorem dX5_goThrough_2 : decode cX5_goThrough 2 = .ok (.putfield 153, 3) := by decide +kernel
theorem dX5_goThrough_5 : decode cX5_goThrough 5 = .ok (.aload_n 0, 1) := by decide +kernel
theorem dX5_goThrough_6 : decode cX5_goThrough 6 = .ok (.invokevirtual 184, 3) := by decide +kernel
theorem dX5_goThrough_9 : decode cX5_goThrough 9 = .ok (.iconst 0, 1) := by decide +kernel
theorem dX5_goThrough_10 : decode cX5_goThrough 10 = .ok (.istore_n 2, 1) := by decide +kernel
theorem dX5_goThrough_11 : decode cX5_goThrough 11 = .ok (.iload_n 2, 1) := by decide +kernel
theorem dX5_goThrough_12 : decode cX5_goThrough 12 = .ok (.aload_n 0, 1) := by decide +kernel
theorem dX5_goThrough_13 : decode cX5_goThrough 13 = .ok (.getfield 7, 3) := by decide +kernel
theorem dX5_goThrough_16 : decode cX5_goThrough 16 = .ok (.iconst 5, 1) := by decide +kernel
theorem dX5_goThrough_17 : decode cX5_goThrough 17 = .ok (.iaload, 1) := by decide +kernel
theorem dX5_goThrough_18 : decode cX5_goThrough 18 = .ok (.if_icmp .ge 19, 3) := by decide +kernel
theorem dX5_goThrough_21 : decode cX5_goThrough 21 = .ok (.aload_n 0, 1) := by decide +kernel
theorem dX5_goThrough_22 : decode cX5_goThrough 22 = .ok (.aload_n 0, 1) := by decide +kernel
theorem dX5_goThrough_23 : decode cX5_goThrough 23 = .ok (.getfield 22, 3) := by decide +kernel
theorem dX5_goThrough_26 : decode cX5_goThrough 26 = .ok (.iload_n 2, 1) := by decide +kernel
theorem dX5_goThrough_27 : decode cX5_goThrough 27 = .ok (.iaload, 1) := by decide +kernel
theorem dX5_goThrough_28 : decode cX5_goThrough 28 = .ok (.invokevirtual 187, 3) := by decide +kernel
theorem dX5_goThrough_31 : decode cX5_goThrough 31 = .ok (.iinc 2 1, 3) := by decide +kernel
theorem dX5_goThrough_34 : decode cX5_goThrough 34 = .ok (.goto (-23), 3) := by decide +kernel
theorem dX5_goThrough_37 : decode cX5_goThrough 37 = .ok (.return_, 1) := by decide +kernel
theorem dX5_hold_0 : decode cX5_hold 0 = .ok (.iconst 0, 1) := by decide +kernel
theorem dX5_hold_1 : decode cX5_hold 1 = .ok (.istore_n 2, 1) := by decide +kernel
theorem dX5_hold_2 : decode cX5_hold 2 = .ok (.iload_n 2, 1) := by decide +kernel
theorem dX5_hold_3 : decode cX5_hold 3 = .ok (.bipush 6, 2) := by decide +kernel
theorem dX5_hold_5 : decode cX5_hold 5 = .ok (.if_icmp .ge 16, 3) := by decide +kernel
theorem dX5_hold_8 : decode cX5_hold 8 = .ok (.aload_n 0, 1) := by decide +kernel
theorem dX5_hold_9 : decode cX5_hold 9 = .ok (.getfield 22, 3) := by decide +kernel
theorem dX5_hold_12 : decode cX5_hold 12 = .ok (.iload_n 2, 1) := by decide +kernel
theorem dX5_hold_13 : decode cX5_hold 13 = .ok (.iload_n 2, 1) := by decide +kernel
theorem dX5_hold_14 : decode cX5_hold 14 = .ok (.iastore, 1) := by decide +kernel
theorem dX5_hold_15 : decode cX5_hold 15 = .ok (.iinc 2 1, 3) := by decide +kernel
theorem dX5_hold_18 : decode cX5_hold 18 = .ok (.goto (-16), 3) := by decide +kernel
theorem dX5_hold_21 : decode cX5_hold 21 = .ok (.iconst 0, 1) := by decide +kernel
theorem dX5_hold_22 : decode cX5_hold 22 = .ok (.istore_n 2, 1) := by decide +kernel
theorem dX5_hold_23 : decode cX5_hold 23 = .ok (.iload_n 2, 1) := by decide +kernel
theorem dX5_hold_24 : decode cX5_hold 24 = .ok (.aload_n 0, 1) := by decide +kernel
theorem dX5_hold_25 : decode cX5_hold 25 = .ok (.getfield 7, 3) := by decide +kernel
theorem dX5_hold_28 : decode cX5_hold 28 = .ok (.bipush 12, 2) := by decide +kernel
theorem dX5_hold_30 : decode cX5_hold 30 = .ok (.iaload, 1) := by decide +kernel
theorem dX5_hold_31 : decode cX5_hold 31 = .ok (.if_icmp .ge 24, 3) := by decide +kernel
theorem dX5_hold_34 : decode cX5_hold 34 = .ok (.aload_n 0, 1) := by decide +kernel
theorem dX5_hold_35 : decode cX5_hold 35 = .ok (.getfield 25, 3) := by decide +kernel
theorem dX5_hold_38 : decode cX5_hold 38 = .ok (.iload_n 2, 1) := by decide +kernel
theorem dX5_hold_39 : decode cX5_hold 39 = .ok (.aload_n 0, 1) := by decide +kernel
theorem dX5_hold_40 : decode cX5_hold 40 = .ok (.getfield 7, 3) := by decide +kernel
theorem dX5_hold_43 : decode cX5_hold 43 = .ok (.bipush 23, 2) := by decide +kernel
theorem dX5_hold_45 : decode cX5_hold 45 = .ok (.iload_n 2, 1) := by decide +kernel
theorem dX5_hold_46 : decode cX5_hold 46 = .ok (.iadd, 1) := by decide +kernel
theorem dX5_hold_47 : decode cX5_hold 47 = .ok (.iaload, 1) := by decide +kernel
theorem dX5_hold_48 : decode cX5_hold 48 = .ok (.iastore, 1) := by decide +kernel
theorem dX5_hold_49 : decode cX5_hold 49 = .ok (.iinc 2 1, 3) := by decide +kernel
theorem dX5_hold_52 : decode cX5_hold 52 = .ok (.goto (-29), 3) := by decide +kernel
theorem dX5_hold_55 : decode cX5_hold 55 = .ok (.aload_n 0, 1) := by decide +kernel
theorem dX5_hold_56 : decode cX5_hold 56 = .ok (.iload_n 1, 1) := by decide +kernel
theorem dX5_hold_57 : decode cX5_hold 57 = .ok (.invokevirtual 191, 3) := by decide +kernel
theorem dX5_hold_60 : decode cX5_hold 60 = .ok (.return_, 1) := by decide +kernel

theorem dX0_init_0 : decode cX0_init 0 = .ok (.aload_n 0, 1) := by decide +kernel
theorem dX0_init_1 : decode cX0_init 1 = .ok (.invokespecial 3, 3) := by decide +kernel
theorem dX0_init_4 : decode cX0_init 4 = .ok (.aload_n 0, 1) := by decide +kernel
theorem dX0_init_5 : decode cX0_init 5 = .ok (.getstatic 9, 3) := by decide +kernel
theorem dX0_init_8 : decode cX0_init 8 = .ok (.invokevirtual 13, 3) := by decide +kernel
theorem dX0_init_11 : decode cX0_init 11 = .ok (.checkcast 14, 3) := by decide +kernel
theorem dX0_init_14 : decode cX0_init 14 = .ok (.putfield 18, 3) := by decide +kernel
theorem dX0_init_17 : decode cX0_init 17 = .ok (.aload_n 0, 1) := by decide +kernel
theorem dX0_init_18 : decode cX0_init 18 = .ok (.iconst 0, 1) := by decide +kernel
theorem dX0_init_19 : decode cX0_init 19 = .ok (.putfield 23, 3) := by decide +kernel
theorem dX0_init_22 : decode cX0_init 22 = .ok (.aload_n 0, 1) := by decide +kernel
theorem dX0_init_23 : decode cX0_init 23 = .ok (.bipush 6, 2) := by decide +kernel
theorem dX0_init_25 : decode cX0_init 25 = .ok (.newarray .int, 2) := by decide +kernel
theorem dX0_init_27 : decode cX0_init 27 = .ok (.putfield 27, 3) := by decide +kernel
theorem dX0_init_30 : decode cX0_init 30 = .ok (.aload_n 0, 1) := by decide +kernel
theorem dX0_init_31 : decode cX0_init 31 = .ok (.iconst 0, 1) := by decide +kernel
theorem dX0_init_32 : decode cX0_init 32 = .ok (.putfield 30, 3) := by decide +kernel
theorem dX0_init_35 : decode cX0_init 35 = .ok (.aload_n 0, 1) := by decide +kernel
theorem dX0_init_36 : decode cX0_init 36 = .ok (.iconst 5, 1) := by decide +kernel
theorem dX0_init_37 : decode cX0_init 37 = .ok (.newarray .int, 2) := by decide +kernel
theorem dX0_init_39 : decode cX0_init 39 = .ok (.putfield 33, 3) := by decide +kernel
theorem dX0_init_42 : decode cX0_init 42 = .ok (.aload_n 0, 1) := by decide +kernel
theorem dX0_init_43 : decode cX0_init 43 = .ok (.iconst 5, 1) := by decide +kernel
theorem dX0_init_44 : decode cX0_init 44 = .ok (.newarray .int, 2) := by decide +kernel
theorem dX0_init_46 : decode cX0_init 46 = .ok (.putfield 36, 3) := by decide +kernel
theorem dX0_init_49 : decode cX0_init 49 = .ok (.aload_n 0, 1) := by decide +kernel
theorem dX0_init_50 : decode cX0_init 50 = .ok (.iconst 5, 1) := by decide +kernel
theorem dX0_init_51 : decode cX0_init 51 = .ok (.newarray .int, 2) := by decide +kernel
theorem dX0_init_53 : decode cX0_init 53 = .ok (.putfield 39, 3) := by decide +kernel
theorem dX0_init_56 : decode cX0_init 56 = .ok (.aload_n 0, 1) := by decide +kernel
theorem dX0_init_57 : decode cX0_init 57 = .ok (.bipush 20, 2) := by decide +kernel
theorem dX0_init_59 : decode cX0_init 59 = .ok (.newarray .int, 2) := by decide +kernel
theorem dX0_init_61 : decode cX0_init 61 = .ok (.putfield 42, 3) := by decide +kernel
theorem dX0_init_64 : decode cX0_init 64 = .ok (.aload_n 0, 1) := by decide +kernel
theorem dX0_init_65 : decode cX0_init 65 = .ok (.bipush 20, 2) := by decide +kernel
theorem dX0_init_67 : decode cX0_init 67 = .ok (.newarray .int, 2) := by decide +kernel
theorem dX0_init_69 : decode cX0_init 69 = .ok (.putfield 45, 3) := by decide +kernel
theorem dX0_init_72 : decode cX0_init 72 = .ok (.aload_n 0, 1) := by decide +kernel
theorem dX0_init_73 : decode cX0_init 73 = .ok (.bipush 20, 2) := by decide +kernel
theorem dX0_init_75 : decode cX0_init 75 = .ok (.newarray .int, 2) := by decide +kernel
theorem dX0_init_77 : decode cX0_init 77 = .ok (.putfield 48, 3) := by decide +kernel
theorem dX0_init_80 : decode cX0_init 80 = .ok (.aload_n 0, 1) := by decide +kernel
theorem dX0_init_81 : decode cX0_init 81 = .ok (.iconst 0, 1) := by decide +kernel
theorem dX0_init_82 : decode cX0_init 82 = .ok (.putfield 51, 3) := by decide +kernel
theorem dX0_init_85 : decode cX0_init 85 = .ok (.aload_n 0, 1) := by decide +kernel
theorem dX0_init_86 : decode cX0_init 86 = .ok (.getfield 48, 3) := by decide +kernel
theorem dX0_init_89 : decode cX0_init 89 = .ok (.bipush 99, 2) := by decide +kernel
theorem dX0_init_91 : decode cX0_init 91 = .ok (.invokestatic 54, 3) := by decide +kernel
theorem dX0_init_94 : decode cX0_init 94 = .ok (.return_, 1) := by decide +kernel
theorem dX0_take_0 : decode cX0_take 0 = .ok (.aload_n 1, 1) := by decide +kernel
theorem dX0_take_1 : decode cX0_take 1 = .ok (.getfield 18, 3) := by decide +kernel
theorem dX0_take_4 : decode cX0_take 4 = .ok (.iconst 0, 1) := by decide +kernel
theorem dX0_take_5 : decode cX0_take 5 = .ok (.aload_n 0, 1) := by decide +kernel
theorem dX0_take_6 : decode cX0_take 6 = .ok (.getfield 18, 3) := by decide +kernel
theorem dX0_take_9 : decode cX0_take 9 = .ok (.iconst 0, 1) := by decide +kernel
theorem dX0_take_10 : decode cX0_take 10 = .ok (.iconst 5, 1) := by decide +kernel
theorem dX0_take_11 : decode cX0_take 11 = .ok (.invokestatic 60, 3) := by decide +kernel
theorem dX0_take_14 : decode cX0_take 14 = .ok (.aload_n 0, 1) := by decide +kernel
theorem dX0_take_15 : decode cX0_take 15 = .ok (.aload_n 1, 1) := by decide +kernel
theorem dX0_take_16 : decode cX0_take 16 = .ok (.getfield 23, 3) := by decide +kernel
theorem dX0_take_19 : decode cX0_take 19 = .ok (.putfield 23, 3) := by decide +kernel
theorem dX0_take_22 : decode cX0_take 22 = .ok (.aload_n 1, 1) := by decide +kernel
theorem dX0_take_23 : decode cX0_take 23 = .ok (.getfield 27, 3) := by decide +kernel
theorem dX0_take_26 : decode cX0_take 26 = .ok (.iconst 0, 1) := by decide +kernel
theorem dX0_take_27 : decode cX0_take 27 = .ok (.aload_n 0, 1) := by decide +kernel
theorem dX0_take_28 : decode cX0_take 28 = .ok (.getfield 27, 3) := by decide +kernel
theorem dX0_take_31 : decode cX0_take 31 = .ok (.iconst 0, 1) := by decide +kernel
theorem dX0_take_32 : decode cX0_take 32 = .ok (.bipush 6, 2) := by decide +kernel
theorem dX0_take_34 : decode cX0_take 34 = .ok (.invokestatic 60, 3) := by decide +kernel
theorem dX0_take_37 : decode cX0_take 37 = .ok (.aload_n 0, 1) := by decide +kernel
theorem dX0_take_38 : decode cX0_take 38 = .ok (.aload_n 1, 1) := by decide +kernel
theorem dX0_take_39 : decode cX0_take 39 = .ok (.getfield 30, 3) := by decide +kernel
theorem dX0_take_42 : decode cX0_take 42 = .ok (.putfield 30, 3) := by decide +kernel
theorem dX0_take_45 : decode cX0_take 45 = .ok (.aload_n 1, 1) := by decide +kernel
theorem dX0_take_46 : decode cX0_take 46 = .ok (.getfield 33, 3) := by decide +kernel
theorem dX0_take_49 : decode cX0_take 49 = .ok (.iconst 0, 1) := by decide +kernel
theorem dX0_take_50 : decode cX0_take 50 = .ok (.aload_n 0, 1) := by decide +kernel
theorem dX0_take_51 : decode cX0_take 51 = .ok (.getfield 33, 3) := by decide +kernel
theorem dX0_take_54 : decode cX0_take 54 = .ok (.iconst 0, 1) := by decide +kernel
theorem dX0_take_55 : decode cX0_take 55 = .ok (.iconst 5, 1) := by decide +kernel
theorem dX0_take_56 : decode cX0_take 56 = .ok (.invokestatic 60, 3) := by decide +kernel
theorem dX0_take_59 : decode cX0_take 59 = .ok (.aload_n 1, 1) := by decide +kernel
theorem dX0_take_60 : decode cX0_take 60 = .ok (.getfield 36, 3) := by decide +kernel
theorem dX0_take_63 : decode cX0_take 63 = .ok (.iconst 0, 1) := by decide +kernel
theorem dX0_take_64 : decode cX0_take 64 = .ok (.aload_n 0, 1) := by decide +kernel
theorem dX0_take_65 : decode cX0_take 65 = .ok (.getfield 36, 3) := by decide +kernel
theorem dX0_take_68 : decode cX0_take 68 = .ok (.iconst 0, 1) := by decide +kernel
theorem dX0_take_69 : decode cX0_take 69 = .ok (.iconst 5, 1) := by decide +kernel
theorem dX0_take_70 : decode cX0_take 70 = .ok (.invokestatic 60, 3) := by decide +kernel
theorem dX0_take_73 : decode cX0_take 73 = .ok (.aload_n 1, 1) := by decide +kernel
theorem dX0_take_74 : decode cX0_take 74 = .ok (.getfield 39, 3) := by decide +kernel
theorem dX0_take_77 : decode cX0_take 77 = .ok (.iconst 0, 1) := by decide +kernel
theorem dX0_take_78 : decode cX0_take 78 = .ok (.aload_n 0, 1) := by decide +kernel
theorem dX0_take_79 : decode cX0_take 79 = .ok (.getfield 39, 3) := by decide +kernel
theorem dX0_take_82 : decode cX0_take 82 = .ok (.iconst 0, 1) := by decide +kernel
theorem dX0_take_83 : decode cX0_take 83 = .ok (.iconst 5, 1) := by decide +kernel
theorem dX0_take_84 : decode cX0_take 84 = .ok (.invokestatic 60, 3) := by decide +kernel
theorem dX0_take_87 : decode cX0_take 87 = .ok (.aload_n 1, 1) := by decide +kernel
theorem dX0_take_88 : decode cX0_take 88 = .ok (.getfield 42, 3) := by decide +kernel
theorem dX0_take_91 : decode cX0_take 91 = .ok (.iconst 0, 1) := by decide +kernel
theorem dX0_take_92 : decode cX0_take 92 = .ok (.aload_n 0, 1) := by decide +kernel
theorem dX0_take_93 : decode cX0_take 93 = .ok (.getfield 42, 3) := by decide +kernel
theorem dX0_take_96 : decode cX0_take 96 = .ok (.iconst 0, 1) := by decide +kernel
theorem dX0_take_97 : decode cX0_take 97 = .ok (.bipush 20, 2) := by decide +kernel
theorem dX0_take_99 : decode cX0_take 99 = .ok (.invokestatic 60, 3) := by decide +kernel
theorem dX0_take_102 : decode cX0_take 102 = .ok (.aload_n 1, 1) := by decide +kernel
theorem dX0_take_103 : decode cX0_take 103 = .ok (.getfield 45, 3) := by decide +kernel
theorem dX0_take_106 : decode cX0_take 106 = .ok (.iconst 0, 1) := by decide +kernel
theorem dX0_take_107 : decode cX0_take 107 = .ok (.aload_n 0, 1) := by decide +kernel
theorem dX0_take_108 : decode cX0_take 108 = .ok (.getfield 45, 3) := by decide +kernel
theorem dX0_take_111 : decode cX0_take 111 = .ok (.iconst 0, 1) := by decide +kernel
theorem dX0_take_112 : decode cX0_take 112 = .ok (.bipush 20, 2) := by decide +kernel
theorem dX0_take_114 : decode cX0_take 114 = .ok (.invokestatic 60, 3) := by decide +kernel
theorem dX0_take_117 : decode cX0_take 117 = .ok (.aload_n 1, 1) := by decide +kernel
theorem dX0_take_118 : decode cX0_take 118 = .ok (.getfield 48, 3) := by decide +kernel
theorem dX0_take_121 : decode cX0_take 121 = .ok (.iconst 0, 1) := by decide +kernel
theorem dX0_take_122 : decode cX0_take 122 = .ok (.aload_n 0, 1) := by decide +kernel
theorem dX0_take_123 : decode cX0_take 123 = .ok (.getfield 48, 3) := by decide +kernel
theorem dX0_take_126 : decode cX0_take 126 = .ok (.iconst 0, 1) := by decide +kernel
theorem dX0_take_127 : decode cX0_take 127 = .ok (.bipush 20, 2) := by decide +kernel
theorem dX0_take_129 : decode cX0_take 129 = .ok (.invokestatic 60, 3) := by decide +kernel
theorem dX0_take_132 : decode cX0_take 132 = .ok (.aload_n 0, 1) := by decide +kernel
theorem dX0_take_133 : decode cX0_take 133 = .ok (.aload_n 1, 1) := by decide +kernel
theorem dX0_take_134 : decode cX0_take 134 = .ok (.getfield 51, 3) := by decide +kernel
theorem dX0_take_137 : decode cX0_take 137 = .ok (.putfield 51, 3) := by decide +kernel
theorem dX0_take_140 : decode cX0_take 140 = .ok (.return_, 1) := by decide +kernel
theorem dX0_isThere_0 : decode cX0_isThere 0 = .ok (.iload_n 1, 1) := by decide +kernel
theorem dX0_isThere_1 : decode cX0_isThere 1 = .ok (.ifCond .lt 20, 3) := by decide +kernel
theorem dX0_isThere_4 : decode cX0_isThere 4 = .ok (.iload_n 1, 1) := by decide +kernel
theorem dX0_isThere_5 : decode cX0_isThere 5 = .ok (.iconst 5, 1) := by decide +kernel
theorem dX0_isThere_6 : decode cX0_isThere 6 = .ok (.if_icmp .ge 15, 3) := by decide +kernel
theorem dX0_isThere_9 : decode cX0_isThere 9 = .ok (.iload_n 1, 1) := by decide +kernel
theorem dX0_isThere_10 : decode cX0_isThere 10 = .ok (.aload_n 0, 1) := by decide +kernel
theorem dX0_isThere_11 : decode cX0_isThere 11 = .ok (.getfield 30, 3) := by decide +kernel
theorem dX0_isThere_14 : decode cX0_isThere 14 = .ok (.if_icmp .ge 7, 3) := by decide +kernel
theorem dX0_isThere_17 : decode cX0_isThere 17 = .ok (.iconst 1, 1) := by decide +kernel
theorem dX0_isThere_18 : decode cX0_isThere 18 = .ok (.goto 4, 3) := by decide +kernel
theorem dX0_isThere_21 : decode cX0_isThere 21 = .ok (.iconst 0, 1) := by decide +kernel
theorem dX0_isThere_22 : decode cX0_isThere 22 = .ok (.ireturn, 1) := by decide +kernel
theorem dX0_kindOf_0 : decode cX0_kindOf 0 = .ok (.iload_n 1, 1) := by decide +kernel
theorem dX0_kindOf_1 : decode cX0_kindOf 1 = .ok (.ifCond .lt 18, 3) := by decide +kernel
theorem dX0_kindOf_4 : decode cX0_kindOf 4 = .ok (.iload_n 1, 1) := by decide +kernel
theorem dX0_kindOf_5 : decode cX0_kindOf 5 = .ok (.bipush 6, 2) := by decide +kernel
theorem dX0_kindOf_7 : decode cX0_kindOf 7 = .ok (.if_icmp .ge 12, 3) := by decide +kernel
theorem dX0_kindOf_10 : decode cX0_kindOf 10 = .ok (.aload_n 0, 1) := by decide +kernel
theorem dX0_kindOf_11 : decode cX0_kindOf 11 = .ok (.getfield 27, 3) := by decide +kernel
theorem dX0_kindOf_14 : decode cX0_kindOf 14 = .ok (.iload_n 1, 1) := by decide +kernel
theorem dX0_kindOf_15 : decode cX0_kindOf 15 = .ok (.iaload, 1) := by decide +kernel
theorem dX0_kindOf_16 : decode cX0_kindOf 16 = .ok (.goto 4, 3) := by decide +kernel
theorem dX0_kindOf_19 : decode cX0_kindOf 19 = .ok (.iconst 0, 1) := by decide +kernel
theorem dX0_kindOf_20 : decode cX0_kindOf 20 = .ok (.ireturn, 1) := by decide +kernel
theorem dX0_worthOf_0 : decode cX0_worthOf 0 = .ok (.aload_n 0, 1) := by decide +kernel
theorem dX0_worthOf_1 : decode cX0_worthOf 1 = .ok (.iload_n 1, 1) := by decide +kernel
theorem dX0_worthOf_2 : decode cX0_worthOf 2 = .ok (.invokevirtual 66, 3) := by decide +kernel
theorem dX0_worthOf_5 : decode cX0_worthOf 5 = .ok (.ifCond .eq 10, 3) := by decide +kernel
theorem dX0_worthOf_8 : decode cX0_worthOf 8 = .ok (.iload_n 2, 1) := by decide +kernel
theorem dX0_worthOf_9 : decode cX0_worthOf 9 = .ok (.invokestatic 70, 3) := by decide +kernel
theorem dX0_worthOf_12 : decode cX0_worthOf 12 = .ok (.ifCond .ne 5, 3) := by decide +kernel
theorem dX0_worthOf_15 : decode cX0_worthOf 15 = .ok (.iconst 0, 1) := by decide +kernel
theorem dX0_worthOf_16 : decode cX0_worthOf 16 = .ok (.ireturn, 1) := by decide +kernel
theorem dX0_worthOf_17 : decode cX0_worthOf 17 = .ok (.aload_n 0, 1) := by decide +kernel
theorem dX0_worthOf_18 : decode cX0_worthOf 18 = .ok (.getfield 42, 3) := by decide +kernel
theorem dX0_worthOf_21 : decode cX0_worthOf 21 = .ok (.iload_n 1, 1) := by decide +kernel
theorem dX0_worthOf_22 : decode cX0_worthOf 22 = .ok (.iconst 4, 1) := by decide +kernel
theorem dX0_worthOf_23 : decode cX0_worthOf 23 = .ok (.imul, 1) := by decide +kernel
theorem dX0_worthOf_24 : decode cX0_worthOf 24 = .ok (.iload_n 2, 1) := by decide +kernel
theorem dX0_worthOf_25 : decode cX0_worthOf 25 = .ok (.iadd, 1) := by decide +kernel
theorem dX0_worthOf_26 : decode cX0_worthOf 26 = .ok (.iaload, 1) := by decide +kernel
theorem dX0_worthOf_27 : decode cX0_worthOf 27 = .ok (.ireturn, 1) := by decide +kernel
theorem dX0_countOwing_0 : decode cX0_countOwing 0 = .ok (.iconst 0, 1) := by decide +kernel
theorem dX0_countOwing_1 : decode cX0_countOwing 1 = .ok (.istore_n 1, 1) := by decide +kernel
theorem dX0_countOwing_2 : decode cX0_countOwing 2 = .ok (.iconst 0, 1) := by decide +kernel
theorem dX0_countOwing_3 : decode cX0_countOwing 3 = .ok (.istore_n 2, 1) := by decide +kernel
theorem dX0_countOwing_4 : decode cX0_countOwing 4 = .ok (.iload_n 2, 1) := by decide +kernel
theorem dX0_countOwing_5 : decode cX0_countOwing 5 = .ok (.iconst 5, 1) := by decide +kernel
theorem dX0_countOwing_6 : decode cX0_countOwing 6 = .ok (.if_icmp .ge 34, 3) := by decide +kernel
theorem dX0_countOwing_9 : decode cX0_countOwing 9 = .ok (.iload_n 2, 1) := by decide +kernel
theorem dX0_countOwing_10 : decode cX0_countOwing 10 = .ok (.aload_n 0, 1) := by decide +kernel
theorem dX0_countOwing_11 : decode cX0_countOwing 11 = .ok (.getfield 30, 3) := by decide +kernel
theorem dX0_countOwing_14 : decode cX0_countOwing 14 = .ok (.if_icmp .ge 26, 3) := by decide +kernel
theorem dX0_countOwing_17 : decode cX0_countOwing 17 = .ok (.iload_n 1, 1) := by decide +kernel
theorem dX0_countOwing_18 : decode cX0_countOwing 18 = .ok (.aload_n 0, 1) := by decide +kernel
theorem dX0_countOwing_19 : decode cX0_countOwing 19 = .ok (.getfield 36, 3) := by decide +kernel
theorem dX0_countOwing_22 : decode cX0_countOwing 22 = .ok (.iload_n 2, 1) := by decide +kernel
theorem dX0_countOwing_23 : decode cX0_countOwing 23 = .ok (.iaload, 1) := by decide +kernel
theorem dX0_countOwing_24 : decode cX0_countOwing 24 = .ok (.ifCond .ge 7, 3) := by decide +kernel
theorem dX0_countOwing_27 : decode cX0_countOwing 27 = .ok (.iconst 1, 1) := by decide +kernel
theorem dX0_countOwing_28 : decode cX0_countOwing 28 = .ok (.goto 4, 3) := by decide +kernel
theorem dX0_countOwing_31 : decode cX0_countOwing 31 = .ok (.iconst 0, 1) := by decide +kernel
theorem dX0_countOwing_32 : decode cX0_countOwing 32 = .ok (.iadd, 1) := by decide +kernel
theorem dX0_countOwing_33 : decode cX0_countOwing 33 = .ok (.istore_n 1, 1) := by decide +kernel
theorem dX0_countOwing_34 : decode cX0_countOwing 34 = .ok (.iinc 2 1, 3) := by decide +kernel
theorem dX0_countOwing_37 : decode cX0_countOwing 37 = .ok (.goto (-33), 3) := by decide +kernel
theorem dX0_countOwing_40 : decode cX0_countOwing 40 = .ok (.iload_n 1, 1) := by decide +kernel
theorem dX0_countOwing_41 : decode cX0_countOwing 41 = .ok (.ireturn, 1) := by decide +kernel
theorem dX0_countKinds_0 : decode cX0_countKinds 0 = .ok (.iconst 0, 1) := by decide +kernel
theorem dX0_countKinds_1 : decode cX0_countKinds 1 = .ok (.istore_n 1, 1) := by decide +kernel
theorem dX0_countKinds_2 : decode cX0_countKinds 2 = .ok (.iconst 0, 1) := by decide +kernel
theorem dX0_countKinds_3 : decode cX0_countKinds 3 = .ok (.istore_n 2, 1) := by decide +kernel
theorem dX0_countKinds_4 : decode cX0_countKinds 4 = .ok (.iload_n 2, 1) := by decide +kernel
theorem dX0_countKinds_5 : decode cX0_countKinds 5 = .ok (.bipush 6, 2) := by decide +kernel
theorem dX0_countKinds_7 : decode cX0_countKinds 7 = .ok (.if_icmp .ge 28, 3) := by decide +kernel
theorem dX0_countKinds_10 : decode cX0_countKinds 10 = .ok (.iload_n 2, 1) := by decide +kernel
theorem dX0_countKinds_11 : decode cX0_countKinds 11 = .ok (.aload_n 0, 1) := by decide +kernel
theorem dX0_countKinds_12 : decode cX0_countKinds 12 = .ok (.getfield 23, 3) := by decide +kernel
theorem dX0_countKinds_15 : decode cX0_countKinds 15 = .ok (.if_icmp .ge 20, 3) := by decide +kernel
theorem dX0_countKinds_18 : decode cX0_countKinds 18 = .ok (.iload_n 1, 1) := by decide +kernel
theorem dX0_countKinds_19 : decode cX0_countKinds 19 = .ok (.iconst 1, 1) := by decide +kernel
theorem dX0_countKinds_20 : decode cX0_countKinds 20 = .ok (.aload_n 0, 1) := by decide +kernel
theorem dX0_countKinds_21 : decode cX0_countKinds 21 = .ok (.getfield 27, 3) := by decide +kernel
theorem dX0_countKinds_24 : decode cX0_countKinds 24 = .ok (.iload_n 2, 1) := by decide +kernel
theorem dX0_countKinds_25 : decode cX0_countKinds 25 = .ok (.iaload, 1) := by decide +kernel
theorem dX0_countKinds_26 : decode cX0_countKinds 26 = .ok (.ishl, 1) := by decide +kernel
theorem dX0_countKinds_27 : decode cX0_countKinds 27 = .ok (.ior, 1) := by decide +kernel
theorem dX0_countKinds_28 : decode cX0_countKinds 28 = .ok (.istore_n 1, 1) := by decide +kernel
theorem dX0_countKinds_29 : decode cX0_countKinds 29 = .ok (.iinc 2 1, 3) := by decide +kernel
theorem dX0_countKinds_32 : decode cX0_countKinds 32 = .ok (.goto (-28), 3) := by decide +kernel
theorem dX0_countKinds_35 : decode cX0_countKinds 35 = .ok (.iload_n 1, 1) := by decide +kernel
theorem dX0_countKinds_36 : decode cX0_countKinds 36 = .ok (.invokestatic 73, 3) := by decide +kernel
theorem dX0_countKinds_39 : decode cX0_countKinds 39 = .ok (.ireturn, 1) := by decide +kernel
theorem dX0_widenSpans_0 : decode cX0_widenSpans 0 = .ok (.iconst 0, 1) := by decide +kernel
theorem dX0_widenSpans_1 : decode cX0_widenSpans 1 = .ok (.istore_n 1, 1) := by decide +kernel
theorem dX0_widenSpans_2 : decode cX0_widenSpans 2 = .ok (.iconst 0, 1) := by decide +kernel
theorem dX0_widenSpans_3 : decode cX0_widenSpans 3 = .ok (.istore_n 2, 1) := by decide +kernel
theorem dX0_widenSpans_4 : decode cX0_widenSpans 4 = .ok (.iload_n 2, 1) := by decide +kernel
theorem dX0_widenSpans_5 : decode cX0_widenSpans 5 = .ok (.bipush 20, 2) := by decide +kernel
theorem dX0_widenSpans_7 : decode cX0_widenSpans 7 = .ok (.if_icmp .ge 47, 3) := by decide +kernel
theorem dX0_widenSpans_10 : decode cX0_widenSpans 10 = .ok (.aload_n 0, 1) := by decide +kernel
theorem dX0_widenSpans_11 : decode cX0_widenSpans 11 = .ok (.getfield 45, 3) := by decide +kernel
theorem dX0_widenSpans_14 : decode cX0_widenSpans 14 = .ok (.iload_n 2, 1) := by decide +kernel
theorem dX0_widenSpans_15 : decode cX0_widenSpans 15 = .ok (.iaload, 1) := by decide +kernel
theorem dX0_widenSpans_16 : decode cX0_widenSpans 16 = .ok (.ifCond .ne 14, 3) := by decide +kernel
theorem dX0_widenSpans_19 : decode cX0_widenSpans 19 = .ok (.aload_n 0, 1) := by decide +kernel
theorem dX0_widenSpans_20 : decode cX0_widenSpans 20 = .ok (.getfield 48, 3) := by decide +kernel
theorem dX0_widenSpans_23 : decode cX0_widenSpans 23 = .ok (.iload_n 2, 1) := by decide +kernel
theorem dX0_widenSpans_24 : decode cX0_widenSpans 24 = .ok (.iaload, 1) := by decide +kernel
theorem dX0_widenSpans_25 : decode cX0_widenSpans 25 = .ok (.bipush 99, 2) := by decide +kernel
theorem dX0_widenSpans_27 : decode cX0_widenSpans 27 = .ok (.if_icmp .eq 6, 3) := by decide +kernel
theorem dX0_widenSpans_30 : decode cX0_widenSpans 30 = .ok (.iinc 1 1, 3) := by decide +kernel
theorem dX0_widenSpans_33 : decode cX0_widenSpans 33 = .ok (.aload_n 0, 1) := by decide +kernel
theorem dX0_widenSpans_34 : decode cX0_widenSpans 34 = .ok (.getfield 45, 3) := by decide +kernel
theorem dX0_widenSpans_37 : decode cX0_widenSpans 37 = .ok (.iload_n 2, 1) := by decide +kernel
theorem dX0_widenSpans_38 : decode cX0_widenSpans 38 = .ok (.iconst 0, 1) := by decide +kernel
theorem dX0_widenSpans_39 : decode cX0_widenSpans 39 = .ok (.iastore, 1) := by decide +kernel
theorem dX0_widenSpans_40 : decode cX0_widenSpans 40 = .ok (.aload_n 0, 1) := by decide +kernel
theorem dX0_widenSpans_41 : decode cX0_widenSpans 41 = .ok (.getfield 48, 3) := by decide +kernel
theorem dX0_widenSpans_44 : decode cX0_widenSpans 44 = .ok (.iload_n 2, 1) := by decide +kernel
theorem dX0_widenSpans_45 : decode cX0_widenSpans 45 = .ok (.bipush 99, 2) := by decide +kernel
theorem dX0_widenSpans_47 : decode cX0_widenSpans 47 = .ok (.iastore, 1) := by decide +kernel
theorem dX0_widenSpans_48 : decode cX0_widenSpans 48 = .ok (.iinc 2 1, 3) := by decide +kernel
theorem dX0_widenSpans_51 : decode cX0_widenSpans 51 = .ok (.goto (-47), 3) := by decide +kernel
theorem dX0_widenSpans_54 : decode cX0_widenSpans 54 = .ok (.iload_n 1, 1) := by decide +kernel
theorem dX0_widenSpans_55 : decode cX0_widenSpans 55 = .ok (.ireturn, 1) := by decide +kernel
theorem dX0_narrowSpan_0 : decode cX0_narrowSpan 0 = .ok (.aload_n 0, 1) := by decide +kernel
theorem dX0_narrowSpan_1 : decode cX0_narrowSpan 1 = .ok (.iload_n 1, 1) := by decide +kernel
theorem dX0_narrowSpan_2 : decode cX0_narrowSpan 2 = .ok (.invokevirtual 66, 3) := by decide +kernel
theorem dX0_narrowSpan_5 : decode cX0_narrowSpan 5 = .ok (.ifCond .eq 10, 3) := by decide +kernel
theorem dX0_narrowSpan_8 : decode cX0_narrowSpan 8 = .ok (.iload_n 2, 1) := by decide +kernel
theorem dX0_narrowSpan_9 : decode cX0_narrowSpan 9 = .ok (.invokestatic 70, 3) := by decide +kernel
theorem dX0_narrowSpan_12 : decode cX0_narrowSpan 12 = .ok (.ifCond .ne 4, 3) := by decide +kernel
theorem dX0_narrowSpan_15 : decode cX0_narrowSpan 15 = .ok (.return_, 1) := by decide +kernel
theorem dX0_narrowSpan_16 : decode cX0_narrowSpan 16 = .ok (.iload_n 1, 1) := by decide +kernel
theorem dX0_narrowSpan_17 : decode cX0_narrowSpan 17 = .ok (.iconst 4, 1) := by decide +kernel
theorem dX0_narrowSpan_18 : decode cX0_narrowSpan 18 = .ok (.imul, 1) := by decide +kernel
theorem dX0_narrowSpan_19 : decode cX0_narrowSpan 19 = .ok (.iload_n 2, 1) := by decide +kernel
theorem dX0_narrowSpan_20 : decode cX0_narrowSpan 20 = .ok (.iadd, 1) := by decide +kernel
theorem dX0_narrowSpan_21 : decode cX0_narrowSpan 21 = .ok (.istore 5, 2) := by decide +kernel
theorem dX0_narrowSpan_23 : decode cX0_narrowSpan 23 = .ok (.iload 4, 2) := by decide +kernel
theorem dX0_narrowSpan_25 : decode cX0_narrowSpan 25 = .ok (.ifCond .eq 24, 3) := by decide +kernel
theorem dX0_narrowSpan_28 : decode cX0_narrowSpan 28 = .ok (.aload_n 0, 1) := by decide +kernel
theorem dX0_narrowSpan_29 : decode cX0_narrowSpan 29 = .ok (.getfield 45, 3) := by decide +kernel
theorem dX0_narrowSpan_32 : decode cX0_narrowSpan 32 = .ok (.iload 5, 2) := by decide +kernel
theorem dX0_narrowSpan_34 : decode cX0_narrowSpan 34 = .ok (.aload_n 0, 1) := by decide +kernel
theorem dX0_narrowSpan_35 : decode cX0_narrowSpan 35 = .ok (.getfield 45, 3) := by decide +kernel
theorem dX0_narrowSpan_38 : decode cX0_narrowSpan 38 = .ok (.iload 5, 2) := by decide +kernel
theorem dX0_narrowSpan_40 : decode cX0_narrowSpan 40 = .ok (.iaload, 1) := by decide +kernel
theorem dX0_narrowSpan_41 : decode cX0_narrowSpan 41 = .ok (.iload_n 3, 1) := by decide +kernel
theorem dX0_narrowSpan_42 : decode cX0_narrowSpan 42 = .ok (.invokestatic 79, 3) := by decide +kernel
theorem dX0_narrowSpan_45 : decode cX0_narrowSpan 45 = .ok (.iastore, 1) := by decide +kernel
theorem dX0_narrowSpan_46 : decode cX0_narrowSpan 46 = .ok (.goto 23, 3) := by decide +kernel
theorem dX0_narrowSpan_49 : decode cX0_narrowSpan 49 = .ok (.aload_n 0, 1) := by decide +kernel
theorem dX0_narrowSpan_50 : decode cX0_narrowSpan 50 = .ok (.getfield 48, 3) := by decide +kernel
theorem dX0_narrowSpan_53 : decode cX0_narrowSpan 53 = .ok (.iload 5, 2) := by decide +kernel
theorem dX0_narrowSpan_55 : decode cX0_narrowSpan 55 = .ok (.aload_n 0, 1) := by decide +kernel
theorem dX0_narrowSpan_56 : decode cX0_narrowSpan 56 = .ok (.getfield 48, 3) := by decide +kernel
theorem dX0_narrowSpan_59 : decode cX0_narrowSpan 59 = .ok (.iload 5, 2) := by decide +kernel
theorem dX0_narrowSpan_61 : decode cX0_narrowSpan 61 = .ok (.iaload, 1) := by decide +kernel
theorem dX0_narrowSpan_62 : decode cX0_narrowSpan 62 = .ok (.iload_n 3, 1) := by decide +kernel
theorem dX0_narrowSpan_63 : decode cX0_narrowSpan 63 = .ok (.iconst 1, 1) := by decide +kernel
theorem dX0_narrowSpan_64 : decode cX0_narrowSpan 64 = .ok (.isub, 1) := by decide +kernel
theorem dX0_narrowSpan_65 : decode cX0_narrowSpan 65 = .ok (.invokestatic 85, 3) := by decide +kernel
theorem dX0_narrowSpan_68 : decode cX0_narrowSpan 68 = .ok (.iastore, 1) := by decide +kernel
theorem dX0_narrowSpan_69 : decode cX0_narrowSpan 69 = .ok (.return_, 1) := by decide +kernel
theorem dX1_init_0 : decode cX1_init 0 = .ok (.aload_n 0, 1) := by decide +kernel
theorem dX1_init_1 : decode cX1_init 1 = .ok (.invokespecial 3, 3) := by decide +kernel
theorem dX1_init_4 : decode cX1_init 4 = .ok (.aload_n 0, 1) := by decide +kernel
theorem dX1_init_5 : decode cX1_init 5 = .ok (.iconst 4, 1) := by decide +kernel
theorem dX1_init_6 : decode cX1_init 6 = .ok (.newarray .int, 2) := by decide +kernel
theorem dX1_init_8 : decode cX1_init 8 = .ok (.dup, 1) := by decide +kernel
theorem dX1_init_9 : decode cX1_init 9 = .ok (.iconst 0, 1) := by decide +kernel
theorem dX1_init_10 : decode cX1_init 10 = .ok (.iconst (-1), 1) := by decide +kernel
theorem dX1_init_11 : decode cX1_init 11 = .ok (.iastore, 1) := by decide +kernel
theorem dX1_init_12 : decode cX1_init 12 = .ok (.dup, 1) := by decide +kernel
theorem dX1_init_13 : decode cX1_init 13 = .ok (.iconst 1, 1) := by decide +kernel
theorem dX1_init_14 : decode cX1_init 14 = .ok (.iconst (-1), 1) := by decide +kernel
theorem dX1_init_15 : decode cX1_init 15 = .ok (.iastore, 1) := by decide +kernel
theorem dX1_init_16 : decode cX1_init 16 = .ok (.dup, 1) := by decide +kernel
theorem dX1_init_17 : decode cX1_init 17 = .ok (.iconst 2, 1) := by decide +kernel
theorem dX1_init_18 : decode cX1_init 18 = .ok (.iconst (-1), 1) := by decide +kernel
theorem dX1_init_19 : decode cX1_init 19 = .ok (.iastore, 1) := by decide +kernel
theorem dX1_init_20 : decode cX1_init 20 = .ok (.dup, 1) := by decide +kernel
theorem dX1_init_21 : decode cX1_init 21 = .ok (.iconst 3, 1) := by decide +kernel
theorem dX1_init_22 : decode cX1_init 22 = .ok (.iconst (-1), 1) := by decide +kernel
theorem dX1_init_23 : decode cX1_init 23 = .ok (.iastore, 1) := by decide +kernel
theorem dX1_init_24 : decode cX1_init 24 = .ok (.putfield 9, 3) := by decide +kernel
theorem dX1_init_27 : decode cX1_init 27 = .ok (.aload_n 0, 1) := by decide +kernel
theorem dX1_init_28 : decode cX1_init 28 = .ok (.iconst 4, 1) := by decide +kernel
theorem dX1_init_29 : decode cX1_init 29 = .ok (.newarray .int, 2) := by decide +kernel
theorem dX1_init_31 : decode cX1_init 31 = .ok (.putfield 15, 3) := by decide +kernel
theorem dX1_init_34 : decode cX1_init 34 = .ok (.aload_n 0, 1) := by decide +kernel
theorem dX1_init_35 : decode cX1_init 35 = .ok (.bipush 64, 2) := by decide +kernel
theorem dX1_init_37 : decode cX1_init 37 = .ok (.newarray .long, 2) := by decide +kernel
theorem dX1_init_39 : decode cX1_init 39 = .ok (.putfield 18, 3) := by decide +kernel
theorem dX1_init_42 : decode cX1_init 42 = .ok (.return_, 1) := by decide +kernel
theorem dX1_lay_0 : decode cX1_lay 0 = .ok (.iload_n 1, 1) := by decide +kernel
theorem dX1_lay_1 : decode cX1_lay 1 = .ok (.invokestatic 22, 3) := by decide +kernel
theorem dX1_lay_4 : decode cX1_lay 4 = .ok (.ifCond .eq 20, 3) := by decide +kernel
theorem dX1_lay_7 : decode cX1_lay 7 = .ok (.iload_n 2, 1) := by decide +kernel
theorem dX1_lay_8 : decode cX1_lay 8 = .ok (.invokestatic 26, 3) := by decide +kernel
theorem dX1_lay_11 : decode cX1_lay 11 = .ok (.ifCond .eq 13, 3) := by decide +kernel
theorem dX1_lay_14 : decode cX1_lay 14 = .ok (.iload_n 3, 1) := by decide +kernel
theorem dX1_lay_15 : decode cX1_lay 15 = .ok (.ifCond .lt 9, 3) := by decide +kernel
theorem dX1_lay_18 : decode cX1_lay 18 = .ok (.iload_n 3, 1) := by decide +kernel
theorem dX1_lay_19 : decode cX1_lay 19 = .ok (.bipush 16, 2) := by decide +kernel
theorem dX1_lay_21 : decode cX1_lay 21 = .ok (.if_icmp .le 4, 3) := by decide +kernel
theorem dX1_lay_24 : decode cX1_lay 24 = .ok (.return_, 1) := by decide +kernel
theorem dX1_lay_25 : decode cX1_lay 25 = .ok (.aload_n 0, 1) := by decide +kernel
theorem dX1_lay_26 : decode cX1_lay 26 = .ok (.getfield 9, 3) := by decide +kernel
theorem dX1_lay_29 : decode cX1_lay 29 = .ok (.iload_n 1, 1) := by decide +kernel
theorem dX1_lay_30 : decode cX1_lay 30 = .ok (.iload_n 2, 1) := by decide +kernel
theorem dX1_lay_31 : decode cX1_lay 31 = .ok (.iastore, 1) := by decide +kernel
theorem dX1_lay_32 : decode cX1_lay 32 = .ok (.aload_n 0, 1) := by decide +kernel
theorem dX1_lay_33 : decode cX1_lay 33 = .ok (.getfield 15, 3) := by decide +kernel
theorem dX1_lay_36 : decode cX1_lay 36 = .ok (.iload_n 1, 1) := by decide +kernel
theorem dX1_lay_37 : decode cX1_lay 37 = .ok (.iload_n 3, 1) := by decide +kernel
theorem dX1_lay_38 : decode cX1_lay 38 = .ok (.iastore, 1) := by decide +kernel
theorem dX1_lay_39 : decode cX1_lay 39 = .ok (.aload_n 0, 1) := by decide +kernel
theorem dX1_lay_40 : decode cX1_lay 40 = .ok (.getfield 18, 3) := by decide +kernel
theorem dX1_lay_43 : decode cX1_lay 43 = .ok (.iload_n 1, 1) := by decide +kernel
theorem dX1_lay_44 : decode cX1_lay 44 = .ok (.bipush 16, 2) := by decide +kernel
theorem dX1_lay_46 : decode cX1_lay 46 = .ok (.imul, 1) := by decide +kernel
theorem dX1_lay_47 : decode cX1_lay 47 = .ok (.iload_n 1, 1) := by decide +kernel
theorem dX1_lay_48 : decode cX1_lay 48 = .ok (.bipush 16, 2) := by decide +kernel
theorem dX1_lay_50 : decode cX1_lay 50 = .ok (.imul, 1) := by decide +kernel
theorem dX1_lay_51 : decode cX1_lay 51 = .ok (.bipush 16, 2) := by decide +kernel
theorem dX1_lay_53 : decode cX1_lay 53 = .ok (.iadd, 1) := by decide +kernel
theorem dX1_lay_54 : decode cX1_lay 54 = .ok (.lconst 0, 1) := by decide +kernel
theorem dX1_lay_55 : decode cX1_lay 55 = .ok (.invokestatic 29, 3) := by decide +kernel
theorem dX1_lay_58 : decode cX1_lay 58 = .ok (.return_, 1) := by decide +kernel
theorem dX1_refuse_0 : decode cX1_refuse 0 = .ok (.iload_n 1, 1) := by decide +kernel
theorem dX1_refuse_1 : decode cX1_refuse 1 = .ok (.invokestatic 22, 3) := by decide +kernel
theorem dX1_refuse_4 : decode cX1_refuse 4 = .ok (.ifCond .eq 10, 3) := by decide +kernel
theorem dX1_refuse_7 : decode cX1_refuse 7 = .ok (.iload_n 2, 1) := by decide +kernel
theorem dX1_refuse_8 : decode cX1_refuse 8 = .ok (.invokestatic 26, 3) := by decide +kernel
theorem dX1_refuse_11 : decode cX1_refuse 11 = .ok (.ifCond .ne 5, 3) := by decide +kernel
theorem dX1_refuse_14 : decode cX1_refuse 14 = .ok (.iconst (-1), 1) := by decide +kernel
theorem dX1_refuse_15 : decode cX1_refuse 15 = .ok (.ireturn, 1) := by decide +kernel
theorem dX1_refuse_16 : decode cX1_refuse 16 = .ok (.aload_n 0, 1) := by decide +kernel
theorem dX1_refuse_17 : decode cX1_refuse 17 = .ok (.getfield 9, 3) := by decide +kernel
theorem dX1_refuse_20 : decode cX1_refuse 20 = .ok (.iload_n 1, 1) := by decide +kernel
theorem dX1_refuse_21 : decode cX1_refuse 21 = .ok (.iaload, 1) := by decide +kernel
theorem dX1_refuse_22 : decode cX1_refuse 22 = .ok (.ifCond .ge 6, 3) := by decide +kernel
theorem dX1_refuse_25 : decode cX1_refuse 25 = .ok (.bipush (-11), 2) := by decide +kernel
theorem dX1_refuse_27 : decode cX1_refuse 27 = .ok (.ireturn, 1) := by decide +kernel
theorem dX1_refuse_28 : decode cX1_refuse 28 = .ok (.aload_n 0, 1) := by decide +kernel
theorem dX1_refuse_29 : decode cX1_refuse 29 = .ok (.getfield 9, 3) := by decide +kernel
theorem dX1_refuse_32 : decode cX1_refuse 32 = .ok (.iload_n 1, 1) := by decide +kernel
theorem dX1_refuse_33 : decode cX1_refuse 33 = .ok (.iaload, 1) := by decide +kernel
theorem dX1_refuse_34 : decode cX1_refuse 34 = .ok (.iload_n 2, 1) := by decide +kernel
theorem dX1_refuse_35 : decode cX1_refuse 35 = .ok (.if_icmp .eq 6, 3) := by decide +kernel
theorem dX1_refuse_38 : decode cX1_refuse 38 = .ok (.bipush (-12), 2) := by decide +kernel
theorem dX1_refuse_40 : decode cX1_refuse 40 = .ok (.ireturn, 1) := by decide +kernel
theorem dX1_refuse_41 : decode cX1_refuse 41 = .ok (.aload_n 0, 1) := by decide +kernel
theorem dX1_refuse_42 : decode cX1_refuse 42 = .ok (.iload_n 1, 1) := by decide +kernel
theorem dX1_refuse_43 : decode cX1_refuse 43 = .ok (.iload_n 3, 1) := by decide +kernel
theorem dX1_refuse_44 : decode cX1_refuse 44 = .ok (.iload 4, 2) := by decide +kernel
theorem dX1_refuse_46 : decode cX1_refuse 46 = .ok (.invokevirtual 35, 3) := by decide +kernel
theorem dX1_refuse_49 : decode cX1_refuse 49 = .ok (.ifCond .eq 7, 3) := by decide +kernel
theorem dX1_refuse_52 : decode cX1_refuse 52 = .ok (.iconst 0, 1) := by decide +kernel
theorem dX1_refuse_53 : decode cX1_refuse 53 = .ok (.goto 5, 3) := by decide +kernel
theorem dX1_refuse_56 : decode cX1_refuse 56 = .ok (.bipush (-13), 2) := by decide +kernel
theorem dX1_refuse_58 : decode cX1_refuse 58 = .ok (.ireturn, 1) := by decide +kernel
theorem dX1_holds_0 : decode cX1_holds 0 = .ok (.iload_n 1, 1) := by decide +kernel
theorem dX1_holds_1 : decode cX1_holds 1 = .ok (.invokestatic 22, 3) := by decide +kernel
theorem dX1_holds_4 : decode cX1_holds 4 = .ok (.ifCond .eq 33, 3) := by decide +kernel
theorem dX1_holds_7 : decode cX1_holds 7 = .ok (.iload_n 3, 1) := by decide +kernel
theorem dX1_holds_8 : decode cX1_holds 8 = .ok (.ifCond .lt 29, 3) := by decide +kernel
theorem dX1_holds_11 : decode cX1_holds 11 = .ok (.iload_n 3, 1) := by decide +kernel
theorem dX1_holds_12 : decode cX1_holds 12 = .ok (.bipush 16, 2) := by decide +kernel
theorem dX1_holds_14 : decode cX1_holds 14 = .ok (.if_icmp .gt 23, 3) := by decide +kernel
theorem dX1_holds_17 : decode cX1_holds 17 = .ok (.iload_n 2, 1) := by decide +kernel
theorem dX1_holds_18 : decode cX1_holds 18 = .ok (.ifCond .lt 19, 3) := by decide +kernel
theorem dX1_holds_21 : decode cX1_holds 21 = .ok (.iload_n 2, 1) := by decide +kernel
theorem dX1_holds_22 : decode cX1_holds 22 = .ok (.aload_n 0, 1) := by decide +kernel
theorem dX1_holds_23 : decode cX1_holds 23 = .ok (.getfield 15, 3) := by decide +kernel
theorem dX1_holds_26 : decode cX1_holds 26 = .ok (.iload_n 1, 1) := by decide +kernel
theorem dX1_holds_27 : decode cX1_holds 27 = .ok (.iaload, 1) := by decide +kernel
theorem dX1_holds_28 : decode cX1_holds 28 = .ok (.iload_n 3, 1) := by decide +kernel
theorem dX1_holds_29 : decode cX1_holds 29 = .ok (.isub, 1) := by decide +kernel
theorem dX1_holds_30 : decode cX1_holds 30 = .ok (.if_icmp .gt 7, 3) := by decide +kernel
theorem dX1_holds_33 : decode cX1_holds 33 = .ok (.iconst 1, 1) := by decide +kernel
theorem dX1_holds_34 : decode cX1_holds 34 = .ok (.goto 4, 3) := by decide +kernel
theorem dX1_holds_37 : decode cX1_holds 37 = .ok (.iconst 0, 1) := by decide +kernel
theorem dX1_holds_38 : decode cX1_holds 38 = .ok (.ireturn, 1) := by decide +kernel
theorem dX1_peek_0 : decode cX1_peek 0 = .ok (.aload_n 0, 1) := by decide +kernel
theorem dX1_peek_1 : decode cX1_peek 1 = .ok (.iload_n 1, 1) := by decide +kernel
theorem dX1_peek_2 : decode cX1_peek 2 = .ok (.iload_n 2, 1) := by decide +kernel
theorem dX1_peek_3 : decode cX1_peek 3 = .ok (.iconst 1, 1) := by decide +kernel
theorem dX1_peek_4 : decode cX1_peek 4 = .ok (.invokevirtual 35, 3) := by decide +kernel
theorem dX1_peek_7 : decode cX1_peek 7 = .ok (.ifCond .eq 17, 3) := by decide +kernel
theorem dX1_peek_10 : decode cX1_peek 10 = .ok (.aload_n 0, 1) := by decide +kernel
theorem dX1_peek_11 : decode cX1_peek 11 = .ok (.getfield 18, 3) := by decide +kernel
theorem dX1_peek_14 : decode cX1_peek 14 = .ok (.iload_n 1, 1) := by decide +kernel
theorem dX1_peek_15 : decode cX1_peek 15 = .ok (.bipush 16, 2) := by decide +kernel
theorem dX1_peek_17 : decode cX1_peek 17 = .ok (.imul, 1) := by decide +kernel
theorem dX1_peek_18 : decode cX1_peek 18 = .ok (.iload_n 2, 1) := by decide +kernel
theorem dX1_peek_19 : decode cX1_peek 19 = .ok (.iadd, 1) := by decide +kernel
theorem dX1_peek_20 : decode cX1_peek 20 = .ok (.laload, 1) := by decide +kernel
theorem dX1_peek_21 : decode cX1_peek 21 = .ok (.goto 4, 3) := by decide +kernel
theorem dX1_peek_24 : decode cX1_peek 24 = .ok (.lconst 0, 1) := by decide +kernel
theorem dX1_peek_25 : decode cX1_peek 25 = .ok (.lreturn, 1) := by decide +kernel
theorem dX1_put_0 : decode cX1_put 0 = .ok (.aload_n 0, 1) := by decide +kernel
theorem dX1_put_1 : decode cX1_put 1 = .ok (.iload_n 1, 1) := by decide +kernel
theorem dX1_put_2 : decode cX1_put 2 = .ok (.iload_n 2, 1) := by decide +kernel
theorem dX1_put_3 : decode cX1_put 3 = .ok (.iconst 1, 1) := by decide +kernel
theorem dX1_put_4 : decode cX1_put 4 = .ok (.invokevirtual 35, 3) := by decide +kernel
theorem dX1_put_7 : decode cX1_put 7 = .ok (.ifCond .ne 4, 3) := by decide +kernel
theorem dX1_put_10 : decode cX1_put 10 = .ok (.return_, 1) := by decide +kernel
theorem dX1_put_11 : decode cX1_put 11 = .ok (.iload_n 1, 1) := by decide +kernel
theorem dX1_put_12 : decode cX1_put 12 = .ok (.bipush 16, 2) := by decide +kernel
theorem dX1_put_14 : decode cX1_put 14 = .ok (.imul, 1) := by decide +kernel
theorem dX1_put_15 : decode cX1_put 15 = .ok (.iload_n 2, 1) := by decide +kernel
theorem dX1_put_16 : decode cX1_put 16 = .ok (.iadd, 1) := by decide +kernel
theorem dX1_put_17 : decode cX1_put 17 = .ok (.istore 5, 2) := by decide +kernel
theorem dX1_put_19 : decode cX1_put 19 = .ok (.aload_n 0, 1) := by decide +kernel
theorem dX1_put_20 : decode cX1_put 20 = .ok (.getfield 9, 3) := by decide +kernel
theorem dX1_put_23 : decode cX1_put 23 = .ok (.iload_n 1, 1) := by decide +kernel
theorem dX1_put_24 : decode cX1_put 24 = .ok (.iaload, 1) := by decide +kernel
theorem dX1_put_25 : decode cX1_put 25 = .ok (.ifCond .ne 17, 3) := by decide +kernel
theorem dX1_put_28 : decode cX1_put 28 = .ok (.aload_n 0, 1) := by decide +kernel
theorem dX1_put_29 : decode cX1_put 29 = .ok (.getfield 18, 3) := by decide +kernel
theorem dX1_put_32 : decode cX1_put 32 = .ok (.iload 5, 2) := by decide +kernel
theorem dX1_put_34 : decode cX1_put 34 = .ok (.lload_n 3, 1) := by decide +kernel
theorem dX1_put_35 : decode cX1_put 35 = .ok (.l2i, 1) := by decide +kernel
theorem dX1_put_36 : decode cX1_put 36 = .ok (.i2b, 1) := by decide +kernel
theorem dX1_put_37 : decode cX1_put 37 = .ok (.i2l, 1) := by decide +kernel
theorem dX1_put_38 : decode cX1_put 38 = .ok (.lastore, 1) := by decide +kernel
theorem dX1_put_39 : decode cX1_put 39 = .ok (.goto 34, 3) := by decide +kernel
theorem dX1_put_42 : decode cX1_put 42 = .ok (.aload_n 0, 1) := by decide +kernel
theorem dX1_put_43 : decode cX1_put 43 = .ok (.getfield 9, 3) := by decide +kernel
theorem dX1_put_46 : decode cX1_put 46 = .ok (.iload_n 1, 1) := by decide +kernel
theorem dX1_put_47 : decode cX1_put 47 = .ok (.iaload, 1) := by decide +kernel
theorem dX1_put_48 : decode cX1_put 48 = .ok (.iconst 1, 1) := by decide +kernel
theorem dX1_put_49 : decode cX1_put 49 = .ok (.if_icmp .ne 16, 3) := by decide +kernel
theorem dX1_put_52 : decode cX1_put 52 = .ok (.aload_n 0, 1) := by decide +kernel
theorem dX1_put_53 : decode cX1_put 53 = .ok (.getfield 18, 3) := by decide +kernel
theorem dX1_put_56 : decode cX1_put 56 = .ok (.iload 5, 2) := by decide +kernel
theorem dX1_put_58 : decode cX1_put 58 = .ok (.lload_n 3, 1) := by decide +kernel
theorem dX1_put_59 : decode cX1_put 59 = .ok (.l2i, 1) := by decide +kernel
theorem dX1_put_60 : decode cX1_put 60 = .ok (.i2l, 1) := by decide +kernel
theorem dX1_put_61 : decode cX1_put 61 = .ok (.lastore, 1) := by decide +kernel
theorem dX1_put_62 : decode cX1_put 62 = .ok (.goto 11, 3) := by decide +kernel
theorem dX1_put_65 : decode cX1_put 65 = .ok (.aload_n 0, 1) := by decide +kernel
theorem dX1_put_66 : decode cX1_put 66 = .ok (.getfield 18, 3) := by decide +kernel
theorem dX1_put_69 : decode cX1_put 69 = .ok (.iload 5, 2) := by decide +kernel
theorem dX1_put_71 : decode cX1_put 71 = .ok (.lload_n 3, 1) := by decide +kernel
theorem dX1_put_72 : decode cX1_put 72 = .ok (.lastore, 1) := by decide +kernel
theorem dX1_put_73 : decode cX1_put 73 = .ok (.return_, 1) := by decide +kernel
theorem dX3_init_0 : decode cX3_init 0 = .ok (.aload_n 0, 1) := by decide +kernel
theorem dX3_init_1 : decode cX3_init 1 = .ok (.invokespecial 3, 3) := by decide +kernel
theorem dX3_init_4 : decode cX3_init 4 = .ok (.aload_n 0, 1) := by decide +kernel
theorem dX3_init_5 : decode cX3_init 5 = .ok (.bipush 60, 2) := by decide +kernel
theorem dX3_init_7 : decode cX3_init 7 = .ok (.newarray .byte, 2) := by decide +kernel
theorem dX3_init_9 : decode cX3_init 9 = .ok (.putfield 11, 3) := by decide +kernel
theorem dX3_init_12 : decode cX3_init 12 = .ok (.aload_n 0, 1) := by decide +kernel
theorem dX3_init_13 : decode cX3_init 13 = .ok (.iconst 0, 1) := by decide +kernel
theorem dX3_init_14 : decode cX3_init 14 = .ok (.putfield 15, 3) := by decide +kernel
theorem dX3_init_17 : decode cX3_init 17 = .ok (.return_, 1) := by decide +kernel
theorem dX3_append_0 : decode cX3_append 0 = .ok (.iload_n 3, 1) := by decide +kernel
theorem dX3_append_1 : decode cX3_append 1 = .ok (.iconst 1, 1) := by decide +kernel
theorem dX3_append_2 : decode cX3_append 2 = .ok (.if_icmp .lt 9, 3) := by decide +kernel
theorem dX3_append_5 : decode cX3_append 5 = .ok (.iload_n 3, 1) := by decide +kernel
theorem dX3_append_6 : decode cX3_append 6 = .ok (.bipush 8, 2) := by decide +kernel
theorem dX3_append_8 : decode cX3_append 8 = .ok (.if_icmp .le 5, 3) := by decide +kernel
theorem dX3_append_11 : decode cX3_append 11 = .ok (.iconst (-1), 1) := by decide +kernel
theorem dX3_append_12 : decode cX3_append 12 = .ok (.ireturn, 1) := by decide +kernel
theorem dX3_append_13 : decode cX3_append 13 = .ok (.iconst 0, 1) := by decide +kernel
theorem dX3_append_14 : decode cX3_append 14 = .ok (.istore 4, 2) := by decide +kernel
theorem dX3_append_16 : decode cX3_append 16 = .ok (.iload 4, 2) := by decide +kernel
theorem dX3_append_18 : decode cX3_append 18 = .ok (.iload_n 3, 1) := by decide +kernel
theorem dX3_append_19 : decode cX3_append 19 = .ok (.if_icmp .ge 33, 3) := by decide +kernel
theorem dX3_append_22 : decode cX3_append 22 = .ok (.lload_n 1, 1) := by decide +kernel
theorem dX3_append_23 : decode cX3_append 23 = .ok (.iload 4, 2) := by decide +kernel
theorem dX3_append_25 : decode cX3_append 25 = .ok (.invokestatic 19, 3) := by decide +kernel
theorem dX3_append_28 : decode cX3_append 28 = .ok (.istore 5, 2) := by decide +kernel
theorem dX3_append_30 : decode cX3_append 30 = .ok (.iload 5, 2) := by decide +kernel
theorem dX3_append_32 : decode cX3_append 32 = .ok (.bipush 32, 2) := by decide +kernel
theorem dX3_append_34 : decode cX3_append 34 = .ok (.if_icmp .lt 10, 3) := by decide +kernel
theorem dX3_append_37 : decode cX3_append 37 = .ok (.iload 5, 2) := by decide +kernel
theorem dX3_append_39 : decode cX3_append 39 = .ok (.bipush 126, 2) := by decide +kernel
theorem dX3_append_41 : decode cX3_append 41 = .ok (.if_icmp .le 5, 3) := by decide +kernel
theorem dX3_append_44 : decode cX3_append 44 = .ok (.iconst (-1), 1) := by decide +kernel
theorem dX3_append_45 : decode cX3_append 45 = .ok (.ireturn, 1) := by decide +kernel
theorem dX3_append_46 : decode cX3_append 46 = .ok (.iinc 4 1, 3) := by decide +kernel
theorem dX3_append_49 : decode cX3_append 49 = .ok (.goto (-33), 3) := by decide +kernel
theorem dX3_append_52 : decode cX3_append 52 = .ok (.aload_n 0, 1) := by decide +kernel
theorem dX3_append_53 : decode cX3_append 53 = .ok (.getfield 15, 3) := by decide +kernel
theorem dX3_append_56 : decode cX3_append 56 = .ok (.ifCond .lt 14, 3) := by decide +kernel
theorem dX3_append_59 : decode cX3_append 59 = .ok (.aload_n 0, 1) := by decide +kernel
theorem dX3_append_60 : decode cX3_append 60 = .ok (.getfield 15, 3) := by decide +kernel
theorem dX3_append_63 : decode cX3_append 63 = .ok (.iload_n 3, 1) := by decide +kernel
theorem dX3_append_64 : decode cX3_append 64 = .ok (.iadd, 1) := by decide +kernel
theorem dX3_append_65 : decode cX3_append 65 = .ok (.bipush 60, 2) := by decide +kernel
theorem dX3_append_67 : decode cX3_append 67 = .ok (.if_icmp .le 6, 3) := by decide +kernel
theorem dX3_append_70 : decode cX3_append 70 = .ok (.bipush (-3), 2) := by decide +kernel
theorem dX3_append_72 : decode cX3_append 72 = .ok (.ireturn, 1) := by decide +kernel
theorem dX3_append_73 : decode cX3_append 73 = .ok (.iload_n 3, 1) := by decide +kernel
theorem dX3_append_74 : decode cX3_append 74 = .ok (.iconst 1, 1) := by decide +kernel
theorem dX3_append_75 : decode cX3_append 75 = .ok (.isub, 1) := by decide +kernel
theorem dX3_append_76 : decode cX3_append 76 = .ok (.istore 4, 2) := by decide +kernel
theorem dX3_append_78 : decode cX3_append 78 = .ok (.iload 4, 2) := by decide +kernel
theorem dX3_append_80 : decode cX3_append 80 = .ok (.ifCond .lt 35, 3) := by decide +kernel
theorem dX3_append_83 : decode cX3_append 83 = .ok (.aload_n 0, 1) := by decide +kernel
theorem dX3_append_84 : decode cX3_append 84 = .ok (.getfield 11, 3) := by decide +kernel
theorem dX3_append_87 : decode cX3_append 87 = .ok (.aload_n 0, 1) := by decide +kernel
theorem dX3_append_88 : decode cX3_append 88 = .ok (.getfield 15, 3) := by decide +kernel
theorem dX3_append_91 : decode cX3_append 91 = .ok (.lload_n 1, 1) := by decide +kernel
theorem dX3_append_92 : decode cX3_append 92 = .ok (.iload 4, 2) := by decide +kernel
theorem dX3_append_94 : decode cX3_append 94 = .ok (.invokestatic 19, 3) := by decide +kernel
theorem dX3_append_97 : decode cX3_append 97 = .ok (.i2b, 1) := by decide +kernel
theorem dX3_append_98 : decode cX3_append 98 = .ok (.bastore, 1) := by decide +kernel
theorem dX3_append_99 : decode cX3_append 99 = .ok (.aload_n 0, 1) := by decide +kernel
theorem dX3_append_100 : decode cX3_append 100 = .ok (.dup, 1) := by decide +kernel
theorem dX3_append_101 : decode cX3_append 101 = .ok (.getfield 15, 3) := by decide +kernel
theorem dX3_append_104 : decode cX3_append 104 = .ok (.iconst 1, 1) := by decide +kernel
theorem dX3_append_105 : decode cX3_append 105 = .ok (.iadd, 1) := by decide +kernel
theorem dX3_append_106 : decode cX3_append 106 = .ok (.putfield 15, 3) := by decide +kernel
theorem dX3_append_109 : decode cX3_append 109 = .ok (.iinc 4 (-1), 3) := by decide +kernel
theorem dX3_append_112 : decode cX3_append 112 = .ok (.goto (-34), 3) := by decide +kernel
theorem dX3_append_115 : decode cX3_append 115 = .ok (.aload_n 0, 1) := by decide +kernel
theorem dX3_append_116 : decode cX3_append 116 = .ok (.getfield 15, 3) := by decide +kernel
theorem dX3_append_119 : decode cX3_append 119 = .ok (.ireturn, 1) := by decide +kernel
theorem dX3_byteOf_0 : decode cX3_byteOf 0 = .ok (.lload_n 0, 1) := by decide +kernel
theorem dX3_byteOf_1 : decode cX3_byteOf 1 = .ok (.bipush 8, 2) := by decide +kernel
theorem dX3_byteOf_3 : decode cX3_byteOf 3 = .ok (.iload_n 2, 1) := by decide +kernel
theorem dX3_byteOf_4 : decode cX3_byteOf 4 = .ok (.imul, 1) := by decide +kernel
theorem dX3_byteOf_5 : decode cX3_byteOf 5 = .ok (.lshr, 1) := by decide +kernel
theorem dX3_byteOf_6 : decode cX3_byteOf 6 = .ok (.ldc2_w 23, 3) := by decide +kernel
theorem dX3_byteOf_9 : decode cX3_byteOf 9 = .ok (.land, 1) := by decide +kernel
theorem dX3_byteOf_10 : decode cX3_byteOf 10 = .ok (.l2i, 1) := by decide +kernel
theorem dX3_byteOf_11 : decode cX3_byteOf 11 = .ok (.ireturn, 1) := by decide +kernel
theorem dX3_readLaw_0 : decode cX3_readLaw 0 = .ok (.aload_n 1, 1) := by decide +kernel
theorem dX3_readLaw_1 : decode cX3_readLaw 1 = .ok (.iconst (-1), 1) := by decide +kernel
theorem dX3_readLaw_2 : decode cX3_readLaw 2 = .ok (.invokestatic 25, 3) := by decide +kernel
theorem dX3_readLaw_5 : decode cX3_readLaw 5 = .ok (.iconst 0, 1) := by decide +kernel
theorem dX3_readLaw_6 : decode cX3_readLaw 6 = .ok (.istore_n 2, 1) := by decide +kernel
theorem dX3_readLaw_7 : decode cX3_readLaw 7 = .ok (.aload_n 0, 1) := by decide +kernel
theorem dX3_readLaw_8 : decode cX3_readLaw 8 = .ok (.iconst 0, 1) := by decide +kernel
theorem dX3_readLaw_9 : decode cX3_readLaw 9 = .ok (.invokevirtual 31, 3) := by decide +kernel
theorem dX3_readLaw_12 : decode cX3_readLaw 12 = .ok (.istore_n 3, 1) := by decide +kernel
theorem dX3_readLaw_13 : decode cX3_readLaw 13 = .ok (.aload_n 0, 1) := by decide +kernel
theorem dX3_readLaw_14 : decode cX3_readLaw 14 = .ok (.iload_n 3, 1) := by decide +kernel
theorem dX3_readLaw_15 : decode cX3_readLaw 15 = .ok (.invokevirtual 35, 3) := by decide +kernel
theorem dX3_readLaw_18 : decode cX3_readLaw 18 = .ok (.istore 4, 2) := by decide +kernel
theorem dX3_readLaw_20 : decode cX3_readLaw 20 = .ok (.iload 4, 2) := by decide +kernel
theorem dX3_readLaw_22 : decode cX3_readLaw 22 = .ok (.ifCond .lt 17, 3) := by decide +kernel
theorem dX3_readLaw_25 : decode cX3_readLaw 25 = .ok (.iload 4, 2) := by decide +kernel
theorem dX3_readLaw_27 : decode cX3_readLaw 27 = .ok (.aload_n 1, 1) := by decide +kernel
theorem dX3_readLaw_28 : decode cX3_readLaw 28 = .ok (.arraylength, 1) := by decide +kernel
theorem dX3_readLaw_29 : decode cX3_readLaw 29 = .ok (.if_icmp .ge 10, 3) := by decide +kernel
theorem dX3_readLaw_32 : decode cX3_readLaw 32 = .ok (.aload_n 1, 1) := by decide +kernel
theorem dX3_readLaw_33 : decode cX3_readLaw 33 = .ok (.iload 4, 2) := by decide +kernel
theorem dX3_readLaw_35 : decode cX3_readLaw 35 = .ok (.iaload, 1) := by decide +kernel
theorem dX3_readLaw_36 : decode cX3_readLaw 36 = .ok (.ifCond .lt 8, 3) := by decide +kernel
theorem dX3_readLaw_39 : decode cX3_readLaw 39 = .ok (.bipush (-20), 2) := by decide +kernel
theorem dX3_readLaw_41 : decode cX3_readLaw 41 = .ok (.iload_n 3, 1) := by decide +kernel
theorem dX3_readLaw_42 : decode cX3_readLaw 42 = .ok (.isub, 1) := by decide +kernel
theorem dX3_readLaw_43 : decode cX3_readLaw 43 = .ok (.ireturn, 1) := by decide +kernel
theorem dX3_readLaw_44 : decode cX3_readLaw 44 = .ok (.aload_n 0, 1) := by decide +kernel
theorem dX3_readLaw_45 : decode cX3_readLaw 45 = .ok (.iload_n 3, 1) := by decide +kernel
theorem dX3_readLaw_46 : decode cX3_readLaw 46 = .ok (.iconst 1, 1) := by decide +kernel
theorem dX3_readLaw_47 : decode cX3_readLaw 47 = .ok (.iadd, 1) := by decide +kernel
theorem dX3_readLaw_48 : decode cX3_readLaw 48 = .ok (.invokevirtual 31, 3) := by decide +kernel
theorem dX3_readLaw_51 : decode cX3_readLaw 51 = .ok (.istore 5, 2) := by decide +kernel
theorem dX3_readLaw_53 : decode cX3_readLaw 53 = .ok (.aload_n 0, 1) := by decide +kernel
theorem dX3_readLaw_54 : decode cX3_readLaw 54 = .ok (.iload 5, 2) := by decide +kernel
theorem dX3_readLaw_56 : decode cX3_readLaw 56 = .ok (.invokevirtual 38, 3) := by decide +kernel
theorem dX3_readLaw_59 : decode cX3_readLaw 59 = .ok (.istore 6, 2) := by decide +kernel
theorem dX3_readLaw_61 : decode cX3_readLaw 61 = .ok (.aload_n 0, 1) := by decide +kernel
theorem dX3_readLaw_62 : decode cX3_readLaw 62 = .ok (.iload 5, 2) := by decide +kernel
theorem dX3_readLaw_64 : decode cX3_readLaw 64 = .ok (.iload 6, 2) := by decide +kernel
theorem dX3_readLaw_66 : decode cX3_readLaw 66 = .ok (.invokevirtual 41, 3) := by decide +kernel
theorem dX3_readLaw_69 : decode cX3_readLaw 69 = .ok (.istore 7, 2) := by decide +kernel
theorem dX3_readLaw_71 : decode cX3_readLaw 71 = .ok (.iload 6, 2) := by decide +kernel
theorem dX3_readLaw_73 : decode cX3_readLaw 73 = .ok (.iload 5, 2) := by decide +kernel
theorem dX3_readLaw_75 : decode cX3_readLaw 75 = .ok (.if_icmp .eq 13, 3) := by decide +kernel
theorem dX3_readLaw_78 : decode cX3_readLaw 78 = .ok (.iload 4, 2) := by decide +kernel
theorem dX3_readLaw_80 : decode cX3_readLaw 80 = .ok (.iload 7, 2) := by decide +kernel
theorem dX3_readLaw_82 : decode cX3_readLaw 82 = .ok (.invokestatic 45, 3) := by decide +kernel
theorem dX3_readLaw_85 : decode cX3_readLaw 85 = .ok (.ifCond .ne 9, 3) := by decide +kernel
theorem dX3_readLaw_88 : decode cX3_readLaw 88 = .ok (.bipush (-20), 2) := by decide +kernel
theorem dX3_readLaw_90 : decode cX3_readLaw 90 = .ok (.iload 5, 2) := by decide +kernel
theorem dX3_readLaw_92 : decode cX3_readLaw 92 = .ok (.isub, 1) := by decide +kernel
theorem dX3_readLaw_93 : decode cX3_readLaw 93 = .ok (.ireturn, 1) := by decide +kernel
theorem dX3_readLaw_94 : decode cX3_readLaw 94 = .ok (.aload_n 1, 1) := by decide +kernel
theorem dX3_readLaw_95 : decode cX3_readLaw 95 = .ok (.iload 4, 2) := by decide +kernel
theorem dX3_readLaw_97 : decode cX3_readLaw 97 = .ok (.iload 7, 2) := by decide +kernel
theorem dX3_readLaw_99 : decode cX3_readLaw 99 = .ok (.iastore, 1) := by decide +kernel
theorem dX3_readLaw_100 : decode cX3_readLaw 100 = .ok (.iinc 2 1, 3) := by decide +kernel
theorem dX3_readLaw_103 : decode cX3_readLaw 103 = .ok (.aload_n 0, 1) := by decide +kernel
theorem dX3_readLaw_104 : decode cX3_readLaw 104 = .ok (.iload 6, 2) := by decide +kernel
theorem dX3_readLaw_106 : decode cX3_readLaw 106 = .ok (.invokevirtual 31, 3) := by decide +kernel
theorem dX3_readLaw_109 : decode cX3_readLaw 109 = .ok (.istore_n 3, 1) := by decide +kernel
theorem dX3_readLaw_110 : decode cX3_readLaw 110 = .ok (.iload_n 3, 1) := by decide +kernel
theorem dX3_readLaw_111 : decode cX3_readLaw 111 = .ok (.aload_n 0, 1) := by decide +kernel
theorem dX3_readLaw_112 : decode cX3_readLaw 112 = .ok (.getfield 15, 3) := by decide +kernel
theorem dX3_readLaw_115 : decode cX3_readLaw 115 = .ok (.if_icmp .ge 8, 3) := by decide +kernel
theorem dX3_readLaw_118 : decode cX3_readLaw 118 = .ok (.iload_n 2, 1) := by decide +kernel
theorem dX3_readLaw_119 : decode cX3_readLaw 119 = .ok (.iconst 5, 1) := by decide +kernel
theorem dX3_readLaw_120 : decode cX3_readLaw 120 = .ok (.if_icmp .le (-107), 3) := by decide +kernel
theorem dX3_readLaw_123 : decode cX3_readLaw 123 = .ok (.iload_n 2, 1) := by decide +kernel
theorem dX3_readLaw_124 : decode cX3_readLaw 124 = .ok (.ireturn, 1) := by decide +kernel
theorem dX3_readLots_0 : decode cX3_readLots 0 = .ok (.iconst 0, 1) := by decide +kernel
theorem dX3_readLots_1 : decode cX3_readLots 1 = .ok (.istore_n 2, 1) := by decide +kernel
theorem dX3_readLots_2 : decode cX3_readLots 2 = .ok (.aload_n 0, 1) := by decide +kernel
theorem dX3_readLots_3 : decode cX3_readLots 3 = .ok (.iconst 0, 1) := by decide +kernel
theorem dX3_readLots_4 : decode cX3_readLots 4 = .ok (.invokevirtual 31, 3) := by decide +kernel
theorem dX3_readLots_7 : decode cX3_readLots 7 = .ok (.istore_n 3, 1) := by decide +kernel
theorem dX3_readLots_8 : decode cX3_readLots 8 = .ok (.aload_n 0, 1) := by decide +kernel
theorem dX3_readLots_9 : decode cX3_readLots 9 = .ok (.iload_n 3, 1) := by decide +kernel
theorem dX3_readLots_10 : decode cX3_readLots 10 = .ok (.invokevirtual 49, 3) := by decide +kernel
theorem dX3_readLots_13 : decode cX3_readLots 13 = .ok (.bipush 48, 2) := by decide +kernel
theorem dX3_readLots_15 : decode cX3_readLots 15 = .ok (.isub, 1) := by decide +kernel
theorem dX3_readLots_16 : decode cX3_readLots 16 = .ok (.istore 4, 2) := by decide +kernel
theorem dX3_readLots_18 : decode cX3_readLots 18 = .ok (.iload 4, 2) := by decide +kernel
theorem dX3_readLots_20 : decode cX3_readLots 20 = .ok (.invokestatic 52, 3) := by decide +kernel
theorem dX3_readLots_23 : decode cX3_readLots 23 = .ok (.ifCond .eq 9, 3) := by decide +kernel
theorem dX3_readLots_26 : decode cX3_readLots 26 = .ok (.iload_n 2, 1) := by decide +kernel
theorem dX3_readLots_27 : decode cX3_readLots 27 = .ok (.aload_n 1, 1) := by decide +kernel
theorem dX3_readLots_28 : decode cX3_readLots 28 = .ok (.arraylength, 1) := by decide +kernel
theorem dX3_readLots_29 : decode cX3_readLots 29 = .ok (.if_icmp .lt 8, 3) := by decide +kernel
theorem dX3_readLots_32 : decode cX3_readLots 32 = .ok (.bipush (-20), 2) := by decide +kernel
theorem dX3_readLots_34 : decode cX3_readLots 34 = .ok (.iload_n 3, 1) := by decide +kernel
theorem dX3_readLots_35 : decode cX3_readLots 35 = .ok (.isub, 1) := by decide +kernel
theorem dX3_readLots_36 : decode cX3_readLots 36 = .ok (.ireturn, 1) := by decide +kernel
theorem dX3_readLots_37 : decode cX3_readLots 37 = .ok (.aload_n 1, 1) := by decide +kernel
theorem dX3_readLots_38 : decode cX3_readLots 38 = .ok (.iload_n 2, 1) := by decide +kernel
theorem dX3_readLots_39 : decode cX3_readLots 39 = .ok (.iload 4, 2) := by decide +kernel
theorem dX3_readLots_41 : decode cX3_readLots 41 = .ok (.iastore, 1) := by decide +kernel
theorem dX3_readLots_42 : decode cX3_readLots 42 = .ok (.iinc 2 1, 3) := by decide +kernel
theorem dX3_readLots_45 : decode cX3_readLots 45 = .ok (.aload_n 0, 1) := by decide +kernel
theorem dX3_readLots_46 : decode cX3_readLots 46 = .ok (.iload_n 3, 1) := by decide +kernel
theorem dX3_readLots_47 : decode cX3_readLots 47 = .ok (.iconst 1, 1) := by decide +kernel
theorem dX3_readLots_48 : decode cX3_readLots 48 = .ok (.iadd, 1) := by decide +kernel
theorem dX3_readLots_49 : decode cX3_readLots 49 = .ok (.invokevirtual 31, 3) := by decide +kernel
theorem dX3_readLots_52 : decode cX3_readLots 52 = .ok (.istore_n 3, 1) := by decide +kernel
theorem dX3_readLots_53 : decode cX3_readLots 53 = .ok (.iload_n 3, 1) := by decide +kernel
theorem dX3_readLots_54 : decode cX3_readLots 54 = .ok (.aload_n 0, 1) := by decide +kernel
theorem dX3_readLots_55 : decode cX3_readLots 55 = .ok (.getfield 15, 3) := by decide +kernel
theorem dX3_readLots_58 : decode cX3_readLots 58 = .ok (.if_icmp .ge 9, 3) := by decide +kernel
theorem dX3_readLots_61 : decode cX3_readLots 61 = .ok (.iload_n 2, 1) := by decide +kernel
theorem dX3_readLots_62 : decode cX3_readLots 62 = .ok (.bipush 6, 2) := by decide +kernel
theorem dX3_readLots_64 : decode cX3_readLots 64 = .ok (.if_icmp .le (-56), 3) := by decide +kernel
theorem dX3_readLots_67 : decode cX3_readLots 67 = .ok (.iload_n 2, 1) := by decide +kernel
theorem dX3_readLots_68 : decode cX3_readLots 68 = .ok (.ireturn, 1) := by decide +kernel
theorem dX3_charAt_0 : decode cX3_charAt 0 = .ok (.iload_n 1, 1) := by decide +kernel
theorem dX3_charAt_1 : decode cX3_charAt 1 = .ok (.ifCond .lt 26, 3) := by decide +kernel
theorem dX3_charAt_4 : decode cX3_charAt 4 = .ok (.iload_n 1, 1) := by decide +kernel
theorem dX3_charAt_5 : decode cX3_charAt 5 = .ok (.aload_n 0, 1) := by decide +kernel
theorem dX3_charAt_6 : decode cX3_charAt 6 = .ok (.getfield 15, 3) := by decide +kernel
theorem dX3_charAt_9 : decode cX3_charAt 9 = .ok (.if_icmp .ge 18, 3) := by decide +kernel
theorem dX3_charAt_12 : decode cX3_charAt 12 = .ok (.iload_n 1, 1) := by decide +kernel
theorem dX3_charAt_13 : decode cX3_charAt 13 = .ok (.bipush 60, 2) := by decide +kernel
theorem dX3_charAt_15 : decode cX3_charAt 15 = .ok (.if_icmp .ge 12, 3) := by decide +kernel
theorem dX3_charAt_18 : decode cX3_charAt 18 = .ok (.aload_n 0, 1) := by decide +kernel
theorem dX3_charAt_19 : decode cX3_charAt 19 = .ok (.getfield 11, 3) := by decide +kernel
theorem dX3_charAt_22 : decode cX3_charAt 22 = .ok (.iload_n 1, 1) := by decide +kernel
theorem dX3_charAt_23 : decode cX3_charAt 23 = .ok (.baload, 1) := by decide +kernel
theorem dX3_charAt_24 : decode cX3_charAt 24 = .ok (.goto 4, 3) := by decide +kernel
theorem dX3_charAt_27 : decode cX3_charAt 27 = .ok (.iconst 0, 1) := by decide +kernel
theorem dX3_charAt_28 : decode cX3_charAt 28 = .ok (.ireturn, 1) := by decide +kernel
theorem dX3_ruleAt_0 : decode cX3_ruleAt 0 = .ok (.aload_n 0, 1) := by decide +kernel
theorem dX3_ruleAt_1 : decode cX3_ruleAt 1 = .ok (.iload_n 1, 1) := by decide +kernel
theorem dX3_ruleAt_2 : decode cX3_ruleAt 2 = .ok (.invokevirtual 49, 3) := by decide +kernel
theorem dX3_ruleAt_5 : decode cX3_ruleAt 5 = .ok (.lookupswitch 61 #[(98, 57), (99, 59), (100, 53), (102, 55), (115, 51)], 51) := by decide +kernel
theorem dX3_ruleAt_56 : decode cX3_ruleAt 56 = .ok (.iconst 0, 1) := by decide +kernel
theorem dX3_ruleAt_57 : decode cX3_ruleAt 57 = .ok (.ireturn, 1) := by decide +kernel
theorem dX3_ruleAt_58 : decode cX3_ruleAt 58 = .ok (.iconst 1, 1) := by decide +kernel
theorem dX3_ruleAt_59 : decode cX3_ruleAt 59 = .ok (.ireturn, 1) := by decide +kernel
theorem dX3_ruleAt_60 : decode cX3_ruleAt 60 = .ok (.iconst 2, 1) := by decide +kernel
theorem dX3_ruleAt_61 : decode cX3_ruleAt 61 = .ok (.ireturn, 1) := by decide +kernel
theorem dX3_ruleAt_62 : decode cX3_ruleAt 62 = .ok (.iconst 3, 1) := by decide +kernel
theorem dX3_ruleAt_63 : decode cX3_ruleAt 63 = .ok (.ireturn, 1) := by decide +kernel
theorem dX3_ruleAt_64 : decode cX3_ruleAt 64 = .ok (.iconst 4, 1) := by decide +kernel
theorem dX3_ruleAt_65 : decode cX3_ruleAt 65 = .ok (.ireturn, 1) := by decide +kernel
theorem dX3_ruleAt_66 : decode cX3_ruleAt 66 = .ok (.iconst (-1), 1) := by decide +kernel
theorem dX3_ruleAt_67 : decode cX3_ruleAt 67 = .ok (.ireturn, 1) := by decide +kernel
theorem dX3_behindBlanks_0 : decode cX3_behindBlanks 0 = .ok (.iload_n 1, 1) := by decide +kernel
theorem dX3_behindBlanks_1 : decode cX3_behindBlanks 1 = .ok (.istore_n 2, 1) := by decide +kernel
theorem dX3_behindBlanks_2 : decode cX3_behindBlanks 2 = .ok (.iload_n 2, 1) := by decide +kernel
theorem dX3_behindBlanks_3 : decode cX3_behindBlanks 3 = .ok (.aload_n 0, 1) := by decide +kernel
theorem dX3_behindBlanks_4 : decode cX3_behindBlanks 4 = .ok (.getfield 15, 3) := by decide +kernel
theorem dX3_behindBlanks_7 : decode cX3_behindBlanks 7 = .ok (.if_icmp .ge 19, 3) := by decide +kernel
theorem dX3_behindBlanks_10 : decode cX3_behindBlanks 10 = .ok (.aload_n 0, 1) := by decide +kernel
theorem dX3_behindBlanks_11 : decode cX3_behindBlanks 11 = .ok (.iload_n 2, 1) := by decide +kernel
theorem dX3_behindBlanks_12 : decode cX3_behindBlanks 12 = .ok (.invokevirtual 49, 3) := by decide +kernel
theorem dX3_behindBlanks_15 : decode cX3_behindBlanks 15 = .ok (.bipush 32, 2) := by decide +kernel
theorem dX3_behindBlanks_17 : decode cX3_behindBlanks 17 = .ok (.if_icmp .ne 9, 3) := by decide +kernel
theorem dX3_behindBlanks_20 : decode cX3_behindBlanks 20 = .ok (.iinc 2 1, 3) := by decide +kernel
theorem dX3_behindBlanks_23 : decode cX3_behindBlanks 23 = .ok (.goto (-21), 3) := by decide +kernel
theorem dX3_behindBlanks_26 : decode cX3_behindBlanks 26 = .ok (.iload_n 2, 1) := by decide +kernel
theorem dX3_behindBlanks_27 : decode cX3_behindBlanks 27 = .ok (.ireturn, 1) := by decide +kernel
theorem dX3_behindDigits_0 : decode cX3_behindDigits 0 = .ok (.iload_n 1, 1) := by decide +kernel
theorem dX3_behindDigits_1 : decode cX3_behindDigits 1 = .ok (.istore_n 2, 1) := by decide +kernel
theorem dX3_behindDigits_2 : decode cX3_behindDigits 2 = .ok (.iload_n 2, 1) := by decide +kernel
theorem dX3_behindDigits_3 : decode cX3_behindDigits 3 = .ok (.aload_n 0, 1) := by decide +kernel
theorem dX3_behindDigits_4 : decode cX3_behindDigits 4 = .ok (.getfield 15, 3) := by decide +kernel
theorem dX3_behindDigits_7 : decode cX3_behindDigits 7 = .ok (.if_icmp .ge 29, 3) := by decide +kernel
theorem dX3_behindDigits_10 : decode cX3_behindDigits 10 = .ok (.aload_n 0, 1) := by decide +kernel
theorem dX3_behindDigits_11 : decode cX3_behindDigits 11 = .ok (.iload_n 2, 1) := by decide +kernel
theorem dX3_behindDigits_12 : decode cX3_behindDigits 12 = .ok (.invokevirtual 49, 3) := by decide +kernel
theorem dX3_behindDigits_15 : decode cX3_behindDigits 15 = .ok (.bipush 48, 2) := by decide +kernel
theorem dX3_behindDigits_17 : decode cX3_behindDigits 17 = .ok (.if_icmp .lt 19, 3) := by decide +kernel
theorem dX3_behindDigits_20 : decode cX3_behindDigits 20 = .ok (.aload_n 0, 1) := by decide +kernel
theorem dX3_behindDigits_21 : decode cX3_behindDigits 21 = .ok (.iload_n 2, 1) := by decide +kernel
theorem dX3_behindDigits_22 : decode cX3_behindDigits 22 = .ok (.invokevirtual 49, 3) := by decide +kernel
theorem dX3_behindDigits_25 : decode cX3_behindDigits 25 = .ok (.bipush 57, 2) := by decide +kernel
theorem dX3_behindDigits_27 : decode cX3_behindDigits 27 = .ok (.if_icmp .gt 9, 3) := by decide +kernel
theorem dX3_behindDigits_30 : decode cX3_behindDigits 30 = .ok (.iinc 2 1, 3) := by decide +kernel
theorem dX3_behindDigits_33 : decode cX3_behindDigits 33 = .ok (.goto (-31), 3) := by decide +kernel
theorem dX3_behindDigits_36 : decode cX3_behindDigits 36 = .ok (.iload_n 2, 1) := by decide +kernel
theorem dX3_behindDigits_37 : decode cX3_behindDigits 37 = .ok (.ireturn, 1) := by decide +kernel
theorem dX3_numberAt_0 : decode cX3_numberAt 0 = .ok (.iconst 0, 1) := by decide +kernel
theorem dX3_numberAt_1 : decode cX3_numberAt 1 = .ok (.istore_n 3, 1) := by decide +kernel
theorem dX3_numberAt_2 : decode cX3_numberAt 2 = .ok (.iload_n 1, 1) := by decide +kernel
theorem dX3_numberAt_3 : decode cX3_numberAt 3 = .ok (.istore 4, 2) := by decide +kernel
theorem dX3_numberAt_5 : decode cX3_numberAt 5 = .ok (.iload 4, 2) := by decide +kernel
theorem dX3_numberAt_7 : decode cX3_numberAt 7 = .ok (.iload_n 2, 1) := by decide +kernel
theorem dX3_numberAt_8 : decode cX3_numberAt 8 = .ok (.if_icmp .ge 30, 3) := by decide +kernel
theorem dX3_numberAt_11 : decode cX3_numberAt 11 = .ok (.sipush 1000, 3) := by decide +kernel
theorem dX3_numberAt_14 : decode cX3_numberAt 14 = .ok (.iload_n 3, 1) := by decide +kernel
theorem dX3_numberAt_15 : decode cX3_numberAt 15 = .ok (.bipush 10, 2) := by decide +kernel
theorem dX3_numberAt_17 : decode cX3_numberAt 17 = .ok (.imul, 1) := by decide +kernel
theorem dX3_numberAt_18 : decode cX3_numberAt 18 = .ok (.aload_n 0, 1) := by decide +kernel
theorem dX3_numberAt_19 : decode cX3_numberAt 19 = .ok (.iload 4, 2) := by decide +kernel
theorem dX3_numberAt_21 : decode cX3_numberAt 21 = .ok (.invokevirtual 49, 3) := by decide +kernel
theorem dX3_numberAt_24 : decode cX3_numberAt 24 = .ok (.iadd, 1) := by decide +kernel
theorem dX3_numberAt_25 : decode cX3_numberAt 25 = .ok (.bipush 48, 2) := by decide +kernel
theorem dX3_numberAt_27 : decode cX3_numberAt 27 = .ok (.isub, 1) := by decide +kernel
theorem dX3_numberAt_28 : decode cX3_numberAt 28 = .ok (.invokestatic 56, 3) := by decide +kernel
theorem dX3_numberAt_31 : decode cX3_numberAt 31 = .ok (.istore_n 3, 1) := by decide +kernel
theorem dX3_numberAt_32 : decode cX3_numberAt 32 = .ok (.iinc 4 1, 3) := by decide +kernel
theorem dX3_numberAt_35 : decode cX3_numberAt 35 = .ok (.goto (-30), 3) := by decide +kernel
theorem dX3_numberAt_38 : decode cX3_numberAt 38 = .ok (.iload_n 3, 1) := by decide +kernel
theorem dX3_numberAt_39 : decode cX3_numberAt 39 = .ok (.ireturn, 1) := by decide +kernel
theorem dJ6_bitCount_0f7a4_0 : decode cJ6_bitCount_0f7a4 0 = .ok (.iload_n 0, 1) := by decide +kernel
theorem dJ6_bitCount_0f7a4_1 : decode cJ6_bitCount_0f7a4 1 = .ok (.iload_n 0, 1) := by decide +kernel
theorem dJ6_bitCount_0f7a4_2 : decode cJ6_bitCount_0f7a4 2 = .ok (.iconst 1, 1) := by decide +kernel
theorem dJ6_bitCount_0f7a4_3 : decode cJ6_bitCount_0f7a4 3 = .ok (.iushr, 1) := by decide +kernel
theorem dJ6_bitCount_0f7a4_4 : decode cJ6_bitCount_0f7a4 4 = .ok (.ldc_w 265, 3) := by decide +kernel
theorem dJ6_bitCount_0f7a4_7 : decode cJ6_bitCount_0f7a4 7 = .ok (.iand, 1) := by decide +kernel
theorem dJ6_bitCount_0f7a4_8 : decode cJ6_bitCount_0f7a4 8 = .ok (.isub, 1) := by decide +kernel
theorem dJ6_bitCount_0f7a4_9 : decode cJ6_bitCount_0f7a4 9 = .ok (.istore_n 0, 1) := by decide +kernel
theorem dJ6_bitCount_0f7a4_10 : decode cJ6_bitCount_0f7a4 10 = .ok (.iload_n 0, 1) := by decide +kernel
theorem dJ6_bitCount_0f7a4_11 : decode cJ6_bitCount_0f7a4 11 = .ok (.ldc_w 266, 3) := by decide +kernel
theorem dJ6_bitCount_0f7a4_14 : decode cJ6_bitCount_0f7a4 14 = .ok (.iand, 1) := by decide +kernel
theorem dJ6_bitCount_0f7a4_15 : decode cJ6_bitCount_0f7a4 15 = .ok (.iload_n 0, 1) := by decide +kernel
theorem dJ6_bitCount_0f7a4_16 : decode cJ6_bitCount_0f7a4 16 = .ok (.iconst 2, 1) := by decide +kernel
theorem dJ6_bitCount_0f7a4_17 : decode cJ6_bitCount_0f7a4 17 = .ok (.iushr, 1) := by decide +kernel
theorem dJ6_bitCount_0f7a4_18 : decode cJ6_bitCount_0f7a4 18 = .ok (.ldc_w 266, 3) := by decide +kernel
theorem dJ6_bitCount_0f7a4_21 : decode cJ6_bitCount_0f7a4 21 = .ok (.iand, 1) := by decide +kernel
theorem dJ6_bitCount_0f7a4_22 : decode cJ6_bitCount_0f7a4 22 = .ok (.iadd, 1) := by decide +kernel
theorem dJ6_bitCount_0f7a4_23 : decode cJ6_bitCount_0f7a4 23 = .ok (.istore_n 0, 1) := by decide +kernel
theorem dJ6_bitCount_0f7a4_24 : decode cJ6_bitCount_0f7a4 24 = .ok (.iload_n 0, 1) := by decide +kernel
theorem dJ6_bitCount_0f7a4_25 : decode cJ6_bitCount_0f7a4 25 = .ok (.iload_n 0, 1) := by decide +kernel
theorem dJ6_bitCount_0f7a4_26 : decode cJ6_bitCount_0f7a4 26 = .ok (.iconst 4, 1) := by decide +kernel
theorem dJ6_bitCount_0f7a4_27 : decode cJ6_bitCount_0f7a4 27 = .ok (.iushr, 1) := by decide +kernel
theorem dJ6_bitCount_0f7a4_28 : decode cJ6_bitCount_0f7a4 28 = .ok (.iadd, 1) := by decide +kernel
theorem dJ6_bitCount_0f7a4_29 : decode cJ6_bitCount_0f7a4 29 = .ok (.ldc_w 267, 3) := by decide +kernel
theorem dJ6_bitCount_0f7a4_32 : decode cJ6_bitCount_0f7a4 32 = .ok (.iand, 1) := by decide +kernel
theorem dJ6_bitCount_0f7a4_33 : decode cJ6_bitCount_0f7a4 33 = .ok (.istore_n 0, 1) := by decide +kernel
theorem dJ6_bitCount_0f7a4_34 : decode cJ6_bitCount_0f7a4 34 = .ok (.iload_n 0, 1) := by decide +kernel
theorem dJ6_bitCount_0f7a4_35 : decode cJ6_bitCount_0f7a4 35 = .ok (.iload_n 0, 1) := by decide +kernel
theorem dJ6_bitCount_0f7a4_36 : decode cJ6_bitCount_0f7a4 36 = .ok (.bipush 8, 2) := by decide +kernel
theorem dJ6_bitCount_0f7a4_38 : decode cJ6_bitCount_0f7a4 38 = .ok (.iushr, 1) := by decide +kernel
theorem dJ6_bitCount_0f7a4_39 : decode cJ6_bitCount_0f7a4 39 = .ok (.iadd, 1) := by decide +kernel
theorem dJ6_bitCount_0f7a4_40 : decode cJ6_bitCount_0f7a4 40 = .ok (.istore_n 0, 1) := by decide +kernel
theorem dJ6_bitCount_0f7a4_41 : decode cJ6_bitCount_0f7a4 41 = .ok (.iload_n 0, 1) := by decide +kernel
theorem dJ6_bitCount_0f7a4_42 : decode cJ6_bitCount_0f7a4 42 = .ok (.iload_n 0, 1) := by decide +kernel
theorem dJ6_bitCount_0f7a4_43 : decode cJ6_bitCount_0f7a4 43 = .ok (.bipush 16, 2) := by decide +kernel
theorem dJ6_bitCount_0f7a4_45 : decode cJ6_bitCount_0f7a4 45 = .ok (.iushr, 1) := by decide +kernel
theorem dJ6_bitCount_0f7a4_46 : decode cJ6_bitCount_0f7a4 46 = .ok (.iadd, 1) := by decide +kernel
theorem dJ6_bitCount_0f7a4_47 : decode cJ6_bitCount_0f7a4 47 = .ok (.istore_n 0, 1) := by decide +kernel
theorem dJ6_bitCount_0f7a4_48 : decode cJ6_bitCount_0f7a4 48 = .ok (.iload_n 0, 1) := by decide +kernel
theorem dJ6_bitCount_0f7a4_49 : decode cJ6_bitCount_0f7a4 49 = .ok (.bipush 63, 2) := by decide +kernel
theorem dJ6_bitCount_0f7a4_51 : decode cJ6_bitCount_0f7a4 51 = .ok (.iand, 1) := by decide +kernel
theorem dJ6_bitCount_0f7a4_52 : decode cJ6_bitCount_0f7a4 52 = .ok (.ireturn, 1) := by decide +kernel
theorem dJ9_max_7cf53_0 : decode cJ9_max_7cf53 0 = .ok (.iload_n 0, 1) := by decide +kernel
theorem dJ9_max_7cf53_1 : decode cJ9_max_7cf53 1 = .ok (.iload_n 1, 1) := by decide +kernel
theorem dJ9_max_7cf53_2 : decode cJ9_max_7cf53 2 = .ok (.if_icmp .lt 7, 3) := by decide +kernel
theorem dJ9_max_7cf53_5 : decode cJ9_max_7cf53 5 = .ok (.iload_n 0, 1) := by decide +kernel
theorem dJ9_max_7cf53_6 : decode cJ9_max_7cf53 6 = .ok (.goto 4, 3) := by decide +kernel
theorem dJ9_max_7cf53_9 : decode cJ9_max_7cf53 9 = .ok (.iload_n 1, 1) := by decide +kernel
theorem dJ9_max_7cf53_10 : decode cJ9_max_7cf53 10 = .ok (.ireturn, 1) := by decide +kernel
theorem dJ9_min_7cf53_0 : decode cJ9_min_7cf53 0 = .ok (.iload_n 0, 1) := by decide +kernel
theorem dJ9_min_7cf53_1 : decode cJ9_min_7cf53 1 = .ok (.iload_n 1, 1) := by decide +kernel
theorem dJ9_min_7cf53_2 : decode cJ9_min_7cf53 2 = .ok (.if_icmp .gt 7, 3) := by decide +kernel
theorem dJ9_min_7cf53_5 : decode cJ9_min_7cf53 5 = .ok (.iload_n 0, 1) := by decide +kernel
theorem dJ9_min_7cf53_6 : decode cJ9_min_7cf53 6 = .ok (.goto 4, 3) := by decide +kernel
theorem dJ9_min_7cf53_9 : decode cJ9_min_7cf53 9 = .ok (.iload_n 1, 1) := by decide +kernel
theorem dJ9_min_7cf53_10 : decode cJ9_min_7cf53 10 = .ok (.ireturn, 1) := by decide +kernel
theorem dJ7_rangeCheck_23922_0 : decode cJ7_rangeCheck_23922 0 = .ok (.iload_n 1, 1) := by decide +kernel
theorem dJ7_rangeCheck_23922_1 : decode cJ7_rangeCheck_23922 1 = .ok (.iload_n 2, 1) := by decide +kernel
theorem dJ7_rangeCheck_23922_2 : decode cJ7_rangeCheck_23922 2 = .ok (.if_icmp .le 44, 3) := by decide +kernel
theorem dJ7_rangeCheck_23922_5 : decode cJ7_rangeCheck_23922 5 = .ok (.new 43, 3) := by decide +kernel
theorem dJ7_rangeCheck_23922_8 : decode cJ7_rangeCheck_23922 8 = .ok (.dup, 1) := by decide +kernel
theorem dJ7_rangeCheck_23922_9 : decode cJ7_rangeCheck_23922 9 = .ok (.new 45, 3) := by decide +kernel
theorem dJ7_rangeCheck_23922_12 : decode cJ7_rangeCheck_23922 12 = .ok (.dup, 1) := by decide +kernel
theorem dJ7_rangeCheck_23922_13 : decode cJ7_rangeCheck_23922 13 = .ok (.invokespecial 47, 3) := by decide +kernel
theorem dJ7_rangeCheck_23922_16 : decode cJ7_rangeCheck_23922 16 = .ok (.ldc 48, 2) := by decide +kernel
theorem dJ7_rangeCheck_23922_18 : decode cJ7_rangeCheck_23922 18 = .ok (.invokevirtual 50, 3) := by decide +kernel
theorem dJ7_rangeCheck_23922_21 : decode cJ7_rangeCheck_23922 21 = .ok (.iload_n 1, 1) := by decide +kernel
theorem dJ7_rangeCheck_23922_22 : decode cJ7_rangeCheck_23922 22 = .ok (.invokevirtual 54, 3) := by decide +kernel
theorem dJ7_rangeCheck_23922_25 : decode cJ7_rangeCheck_23922 25 = .ok (.ldc 57, 2) := by decide +kernel
theorem dJ7_rangeCheck_23922_27 : decode cJ7_rangeCheck_23922 27 = .ok (.invokevirtual 50, 3) := by decide +kernel
theorem dJ7_rangeCheck_23922_30 : decode cJ7_rangeCheck_23922 30 = .ok (.iload_n 2, 1) := by decide +kernel
theorem dJ7_rangeCheck_23922_31 : decode cJ7_rangeCheck_23922 31 = .ok (.invokevirtual 54, 3) := by decide +kernel
theorem dJ7_rangeCheck_23922_34 : decode cJ7_rangeCheck_23922 34 = .ok (.ldc 59, 2) := by decide +kernel
theorem dJ7_rangeCheck_23922_36 : decode cJ7_rangeCheck_23922 36 = .ok (.invokevirtual 50, 3) := by decide +kernel
theorem dJ7_rangeCheck_23922_39 : decode cJ7_rangeCheck_23922 39 = .ok (.invokevirtual 61, 3) := by decide +kernel
theorem dJ7_rangeCheck_23922_42 : decode cJ7_rangeCheck_23922 42 = .ok (.invokespecial 65, 3) := by decide +kernel
theorem dJ7_rangeCheck_23922_45 : decode cJ7_rangeCheck_23922 45 = .ok (.athrow, 1) := by decide +kernel
theorem dJ7_rangeCheck_23922_46 : decode cJ7_rangeCheck_23922 46 = .ok (.iload_n 1, 1) := by decide +kernel
theorem dJ7_rangeCheck_23922_47 : decode cJ7_rangeCheck_23922 47 = .ok (.ifCond .ge 12, 3) := by decide +kernel
theorem dJ7_rangeCheck_23922_50 : decode cJ7_rangeCheck_23922 50 = .ok (.new 68, 3) := by decide +kernel
theorem dJ7_rangeCheck_23922_53 : decode cJ7_rangeCheck_23922 53 = .ok (.dup, 1) := by decide +kernel
theorem dJ7_rangeCheck_23922_54 : decode cJ7_rangeCheck_23922 54 = .ok (.iload_n 1, 1) := by decide +kernel
theorem dJ7_rangeCheck_23922_55 : decode cJ7_rangeCheck_23922 55 = .ok (.invokespecial 70, 3) := by decide +kernel
theorem dJ7_rangeCheck_23922_58 : decode cJ7_rangeCheck_23922 58 = .ok (.athrow, 1) := by decide +kernel
theorem dJ7_rangeCheck_23922_59 : decode cJ7_rangeCheck_23922 59 = .ok (.iload_n 2, 1) := by decide +kernel
theorem dJ7_rangeCheck_23922_60 : decode cJ7_rangeCheck_23922 60 = .ok (.iload_n 0, 1) := by decide +kernel
theorem dJ7_rangeCheck_23922_61 : decode cJ7_rangeCheck_23922 61 = .ok (.if_icmp .le 12, 3) := by decide +kernel
theorem dJ7_rangeCheck_23922_64 : decode cJ7_rangeCheck_23922 64 = .ok (.new 68, 3) := by decide +kernel
theorem dJ7_rangeCheck_23922_67 : decode cJ7_rangeCheck_23922 67 = .ok (.dup, 1) := by decide +kernel
theorem dJ7_rangeCheck_23922_68 : decode cJ7_rangeCheck_23922 68 = .ok (.iload_n 2, 1) := by decide +kernel
theorem dJ7_rangeCheck_23922_69 : decode cJ7_rangeCheck_23922 69 = .ok (.invokespecial 70, 3) := by decide +kernel
theorem dJ7_rangeCheck_23922_72 : decode cJ7_rangeCheck_23922 72 = .ok (.athrow, 1) := by decide +kernel
theorem dJ7_rangeCheck_23922_73 : decode cJ7_rangeCheck_23922 73 = .ok (.return_, 1) := by decide +kernel
theorem dJ7_fill_bad5a_0 : decode cJ7_fill_bad5a 0 = .ok (.aload_n 0, 1) := by decide +kernel
theorem dJ7_fill_bad5a_1 : decode cJ7_fill_bad5a 1 = .ok (.arraylength, 1) := by decide +kernel
theorem dJ7_fill_bad5a_2 : decode cJ7_fill_bad5a 2 = .ok (.iload_n 1, 1) := by decide +kernel
theorem dJ7_fill_bad5a_3 : decode cJ7_fill_bad5a 3 = .ok (.iload_n 2, 1) := by decide +kernel
theorem dJ7_fill_bad5a_4 : decode cJ7_fill_bad5a 4 = .ok (.invokestatic 13, 3) := by decide +kernel
theorem dJ7_fill_bad5a_7 : decode cJ7_fill_bad5a 7 = .ok (.iload_n 1, 1) := by decide +kernel
theorem dJ7_fill_bad5a_8 : decode cJ7_fill_bad5a 8 = .ok (.istore 5, 2) := by decide +kernel
theorem dJ7_fill_bad5a_10 : decode cJ7_fill_bad5a 10 = .ok (.iload 5, 2) := by decide +kernel
theorem dJ7_fill_bad5a_12 : decode cJ7_fill_bad5a 12 = .ok (.iload_n 2, 1) := by decide +kernel
theorem dJ7_fill_bad5a_13 : decode cJ7_fill_bad5a 13 = .ok (.if_icmp .ge 14, 3) := by decide +kernel
theorem dJ7_fill_bad5a_16 : decode cJ7_fill_bad5a 16 = .ok (.aload_n 0, 1) := by decide +kernel
theorem dJ7_fill_bad5a_17 : decode cJ7_fill_bad5a 17 = .ok (.iload 5, 2) := by decide +kernel
theorem dJ7_fill_bad5a_19 : decode cJ7_fill_bad5a 19 = .ok (.lload_n 3, 1) := by decide +kernel
theorem dJ7_fill_bad5a_20 : decode cJ7_fill_bad5a 20 = .ok (.lastore, 1) := by decide +kernel
theorem dJ7_fill_bad5a_21 : decode cJ7_fill_bad5a 21 = .ok (.iinc 5 1, 3) := by decide +kernel
theorem dJ7_fill_bad5a_24 : decode cJ7_fill_bad5a 24 = .ok (.goto (-14), 3) := by decide +kernel
theorem dJ7_fill_bad5a_27 : decode cJ7_fill_bad5a 27 = .ok (.return_, 1) := by decide +kernel
theorem dJ7_fill_53178_0 : decode cJ7_fill_53178 0 = .ok (.iconst 0, 1) := by decide +kernel
theorem dJ7_fill_53178_1 : decode cJ7_fill_53178 1 = .ok (.istore_n 2, 1) := by decide +kernel
theorem dJ7_fill_53178_2 : decode cJ7_fill_53178 2 = .ok (.aload_n 0, 1) := by decide +kernel
theorem dJ7_fill_53178_3 : decode cJ7_fill_53178 3 = .ok (.arraylength, 1) := by decide +kernel
theorem dJ7_fill_53178_4 : decode cJ7_fill_53178 4 = .ok (.istore_n 3, 1) := by decide +kernel
theorem dJ7_fill_53178_5 : decode cJ7_fill_53178 5 = .ok (.iload_n 2, 1) := by decide +kernel
theorem dJ7_fill_53178_6 : decode cJ7_fill_53178 6 = .ok (.iload_n 3, 1) := by decide +kernel
theorem dJ7_fill_53178_7 : decode cJ7_fill_53178 7 = .ok (.if_icmp .ge 13, 3) := by decide +kernel
theorem dJ7_fill_53178_10 : decode cJ7_fill_53178 10 = .ok (.aload_n 0, 1) := by decide +kernel
theorem dJ7_fill_53178_11 : decode cJ7_fill_53178 11 = .ok (.iload_n 2, 1) := by decide +kernel
theorem dJ7_fill_53178_12 : decode cJ7_fill_53178 12 = .ok (.iload_n 1, 1) := by decide +kernel
theorem dJ7_fill_53178_13 : decode cJ7_fill_53178 13 = .ok (.iastore, 1) := by decide +kernel
theorem dJ7_fill_53178_14 : decode cJ7_fill_53178 14 = .ok (.iinc 2 1, 3) := by decide +kernel
theorem dJ7_fill_53178_17 : decode cJ7_fill_53178 17 = .ok (.goto (-12), 3) := by decide +kernel
theorem dJ7_fill_53178_20 : decode cJ7_fill_53178 20 = .ok (.return_, 1) := by decide +kernel

theorem dX5_nextRow_41 : decode cX5_nextRow 41 = .ok (.aload_n 0, 1) := by decide +kernel
theorem dX5_nextRow_42 : decode cX5_nextRow 42 = .ok (.getfield 22, 3) := by decide +kernel
theorem dX5_nextRow_45 : decode cX5_nextRow 45 = .ok (.iload_n 3, 1) := by decide +kernel
theorem dX5_nextRow_46 : decode cX5_nextRow 46 = .ok (.iaload, 1) := by decide +kernel
theorem dX5_nextRow_47 : decode cX5_nextRow 47 = .ok (.aload_n 0, 1) := by decide +kernel
theorem dX5_nextRow_48 : decode cX5_nextRow 48 = .ok (.getfield 22, 3) := by decide +kernel
theorem dX5_nextRow_51 : decode cX5_nextRow 51 = .ok (.iload_n 2, 1) := by decide +kernel
theorem dX5_nextRow_52 : decode cX5_nextRow 52 = .ok (.iaload, 1) := by decide +kernel
theorem dX5_nextRow_53 : decode cX5_nextRow 53 = .ok (.if_icmp .ge 9, 3) := by decide +kernel
theorem dX5_nextRow_56 : decode cX5_nextRow 56 = .ok (.iinc 3 (-1), 3) := by decide +kernel
theorem dX5_nextRow_59 : decode cX5_nextRow 59 = .ok (.goto (-18), 3) := by decide +kernel
theorem dX5_nextRow_62 : decode cX5_nextRow 62 = .ok (.aload_n 0, 1) := by decide +kernel
theorem dX5_nextRow_63 : decode cX5_nextRow 63 = .ok (.getfield 22, 3) := by decide +kernel
theorem dX5_nextRow_66 : decode cX5_nextRow 66 = .ok (.iload_n 2, 1) := by decide +kernel
theorem dX5_nextRow_67 : decode cX5_nextRow 67 = .ok (.iaload, 1) := by decide +kernel
theorem dX5_nextRow_68 : decode cX5_nextRow 68 = .ok (.istore 4, 2) := by decide +kernel
theorem dX5_nextRow_70 : decode cX5_nextRow 70 = .ok (.aload_n 0, 1) := by decide +kernel
theorem dX5_nextRow_71 : decode cX5_nextRow 71 = .ok (.getfield 22, 3) := by decide +kernel
theorem dX5_nextRow_74 : decode cX5_nextRow 74 = .ok (.iload_n 2, 1) := by decide +kernel
theorem dX5_nextRow_75 : decode cX5_nextRow 75 = .ok (.aload_n 0, 1) := by decide +kernel
theorem dX5_nextRow_76 : decode cX5_nextRow 76 = .ok (.getfield 22, 3) := by decide +kernel
theorem dX5_nextRow_79 : decode cX5_nextRow 79 = .ok (.iload_n 3, 1) := by decide +kernel
theorem dX5_nextRow_80 : decode cX5_nextRow 80 = .ok (.iaload, 1) := by decide +kernel
theorem dX5_nextRow_81 : decode cX5_nextRow 81 = .ok (.iastore, 1) := by decide +kernel
theorem dX5_nextRow_82 : decode cX5_nextRow 82 = .ok (.aload_n 0, 1) := by decide +kernel
theorem dX5_nextRow_83 : decode cX5_nextRow 83 = .ok (.getfield 22, 3) := by decide +kernel
theorem dX5_nextRow_86 : decode cX5_nextRow 86 = .ok (.iload_n 3, 1) := by decide +kernel
theorem dX5_nextRow_87 : decode cX5_nextRow 87 = .ok (.iload 4, 2) := by decide +kernel
theorem dX5_nextRow_89 : decode cX5_nextRow 89 = .ok (.iastore, 1) := by decide +kernel
theorem dX5_nextRow_90 : decode cX5_nextRow 90 = .ok (.iconst 1, 1) := by decide +kernel
theorem dX5_nextRow_91 : decode cX5_nextRow 91 = .ok (.istore 5, 2) := by decide +kernel
theorem dX5_nextRow_93 : decode cX5_nextRow 93 = .ok (.iconst 2, 1) := by decide +kernel
theorem dX5_nextRow_94 : decode cX5_nextRow 94 = .ok (.iload 5, 2) := by decide +kernel
theorem dX5_nextRow_96 : decode cX5_nextRow 96 = .ok (.imul, 1) := by decide +kernel
theorem dX5_nextRow_97 : decode cX5_nextRow 97 = .ok (.iload_n 1, 1) := by decide +kernel
theorem dX5_nextRow_98 : decode cX5_nextRow 98 = .ok (.iload_n 2, 1) := by decide +kernel
theorem dX5_nextRow_99 : decode cX5_nextRow 99 = .ok (.isub, 1) := by decide +kernel
theorem dX5_nextRow_100 : decode cX5_nextRow 100 = .ok (.if_icmp .ge 49, 3) := by decide +kernel
theorem dX5_nextRow_103 : decode cX5_nextRow 103 = .ok (.aload_n 0, 1) := by decide +kernel
theorem dX5_nextRow_104 : decode cX5_nextRow 104 = .ok (.getfield 22, 3) := by decide +kernel
theorem dX5_nextRow_107 : decode cX5_nextRow 107 = .ok (.iload_n 2, 1) := by decide +kernel
theorem dX5_nextRow_108 : decode cX5_nextRow 108 = .ok (.iload 5, 2) := by decide +kernel
theorem dX5_nextRow_110 : decode cX5_nextRow 110 = .ok (.iadd, 1) := by decide +kernel
theorem dX5_nextRow_111 : decode cX5_nextRow 111 = .ok (.iaload, 1) := by decide +kernel
theorem dX5_nextRow_112 : decode cX5_nextRow 112 = .ok (.istore 4, 2) := by decide +kernel
theorem dX5_nextRow_114 : decode cX5_nextRow 114 = .ok (.aload_n 0, 1) := by decide +kernel
theorem dX5_nextRow_115 : decode cX5_nextRow 115 = .ok (.getfield 22, 3) := by decide +kernel
theorem dX5_nextRow_118 : decode cX5_nextRow 118 = .ok (.iload_n 2, 1) := by decide +kernel
theorem dX5_nextRow_119 : decode cX5_nextRow 119 = .ok (.iload 5, 2) := by decide +kernel
theorem dX5_nextRow_121 : decode cX5_nextRow 121 = .ok (.iadd, 1) := by decide +kernel
theorem dX5_nextRow_122 : decode cX5_nextRow 122 = .ok (.aload_n 0, 1) := by decide +kernel
theorem dX5_nextRow_123 : decode cX5_nextRow 123 = .ok (.getfield 22, 3) := by decide +kernel
theorem dX5_nextRow_126 : decode cX5_nextRow 126 = .ok (.iload_n 1, 1) := by decide +kernel
theorem dX5_nextRow_127 : decode cX5_nextRow 127 = .ok (.iload 5, 2) := by decide +kernel
theorem dX5_nextRow_129 : decode cX5_nextRow 129 = .ok (.isub, 1) := by decide +kernel
theorem dX5_nextRow_130 : decode cX5_nextRow 130 = .ok (.iaload, 1) := by decide +kernel
theorem dX5_nextRow_131 : decode cX5_nextRow 131 = .ok (.iastore, 1) := by decide +kernel
theorem dX5_nextRow_132 : decode cX5_nextRow 132 = .ok (.aload_n 0, 1) := by decide +kernel
theorem dX5_nextRow_133 : decode cX5_nextRow 133 = .ok (.getfield 22, 3) := by decide +kernel
theorem dX5_nextRow_136 : decode cX5_nextRow 136 = .ok (.iload_n 1, 1) := by decide +kernel
theorem dX5_nextRow_137 : decode cX5_nextRow 137 = .ok (.iload 5, 2) := by decide +kernel
theorem dX5_nextRow_139 : decode cX5_nextRow 139 = .ok (.isub, 1) := by decide +kernel
theorem dX5_nextRow_140 : decode cX5_nextRow 140 = .ok (.iload 4, 2) := by decide +kernel
theorem dX5_nextRow_142 : decode cX5_nextRow 142 = .ok (.iastore, 1) := by decide +kernel
theorem dX5_nextRow_143 : decode cX5_nextRow 143 = .ok (.iinc 5 1, 3) := by decide +kernel
theorem dX5_nextRow_146 : decode cX5_nextRow 146 = .ok (.goto (-53), 3) := by decide +kernel
theorem dX5_nextRow_149 : decode cX5_nextRow 149 = .ok (.iconst 1, 1) := by decide +kernel
theorem dX5_nextRow_150 : decode cX5_nextRow 150 = .ok (.ireturn, 1) := by decide +kernel
theorem dX5_order_0 : decode cX5_order 0 = .ok (.iload_n 1, 1) := by decide +kernel
theorem dX5_order_1 : decode cX5_order 1 = .ok (.i2l, 1) := by decide +kernel
theorem dX5_order_2 : decode cX5_order 2 = .ok (.ldc2_w 208, 3) := by decide +kernel
theorem dX5_order_5 : decode cX5_order 5 = .ok (.ldc2_w 213, 3) := by decide +kernel
theorem dX5_order_8 : decode cX5_order 8 = .ok (.invokestatic 77, 3) := by decide +kernel
theorem dX5_order_11 : decode cX5_order 11 = .ok (.ifCond .ne 5, 3) := by decide +kernel
theorem dX5_order_14 : decode cX5_order 14 = .ok (.iconst (-1), 1) := by decide +kernel
theorem dX5_order_15 : decode cX5_order 15 = .ok (.ireturn, 1) := by decide +kernel
theorem dX5_order_16 : decode cX5_order 16 = .ok (.aload_n 0, 1) := by decide +kernel
theorem dX5_order_17 : decode cX5_order 17 = .ok (.getfield 7, 3) := by decide +kernel
theorem dX5_order_20 : decode cX5_order 20 = .ok (.iconst 5, 1) := by decide +kernel
theorem dX5_order_21 : decode cX5_order 21 = .ok (.iaload, 1) := by decide +kernel
theorem dX5_order_22 : decode cX5_order 22 = .ok (.istore_n 2, 1) := by decide +kernel
theorem dX5_order_23 : decode cX5_order 23 = .ok (.iload_n 2, 1) := by decide +kernel
theorem dX5_order_24 : decode cX5_order 24 = .ok (.ifCond .ne 6, 3) := by decide +kernel
theorem dX5_order_27 : decode cX5_order 27 = .ok (.bipush (-2), 2) := by decide +kernel
theorem dX5_order_29 : decode cX5_order 29 = .ok (.ireturn, 1) := by decide +kernel
theorem dX5_order_30 : decode cX5_order 30 = .ok (.iload_n 1, 1) := by decide +kernel
theorem dX5_order_31 : decode cX5_order 31 = .ok (.iload_n 2, 1) := by decide +kernel
theorem dX5_order_32 : decode cX5_order 32 = .ok (.if_icmp .lt 6, 3) := by decide +kernel
theorem dX5_order_35 : decode cX5_order 35 = .ok (.bipush (-4), 2) := by decide +kernel
theorem dX5_order_37 : decode cX5_order 37 = .ok (.ireturn, 1) := by decide +kernel
theorem dX5_order_38 : decode cX5_order 38 = .ok (.aload_n 0, 1) := by decide +kernel
theorem dX5_order_39 : decode cX5_order 39 = .ok (.iconst 0, 1) := by decide +kernel
theorem dX5_order_40 : decode cX5_order 40 = .ok (.invokevirtual 194, 3) := by decide +kernel
theorem dX5_order_43 : decode cX5_order 43 = .ok (.iconst (-1), 1) := by decide +kernel
theorem dX5_order_44 : decode cX5_order 44 = .ok (.istore_n 3, 1) := by decide +kernel
theorem dX5_order_45 : decode cX5_order 45 = .ok (.iconst 1, 1) := by decide +kernel
theorem dX5_order_46 : decode cX5_order 46 = .ok (.istore 4, 2) := by decide +kernel
theorem dX5_order_48 : decode cX5_order 48 = .ok (.iload 4, 2) := by decide +kernel
theorem dX5_order_50 : decode cX5_order 50 = .ok (.ifCond .eq 64, 3) := by decide +kernel
theorem dX5_order_53 : decode cX5_order 53 = .ok (.aload_n 0, 1) := by decide +kernel
theorem dX5_order_54 : decode cX5_order 54 = .ok (.iconst 0, 1) := by decide +kernel
theorem dX5_order_55 : decode cX5_order 55 = .ok (.invokevirtual 191, 3) := by decide +kernel
theorem dX5_order_58 : decode cX5_order 58 = .ok (.iconst 0, 1) := by decide +kernel
theorem dX5_order_59 : decode cX5_order 59 = .ok (.istore 5, 2) := by decide +kernel
theorem dX5_order_61 : decode cX5_order 61 = .ok (.iload 5, 2) := by decide +kernel
theorem dX5_order_63 : decode cX5_order 63 = .ok (.iload_n 2, 1) := by decide +kernel
theorem dX5_order_64 : decode cX5_order 64 = .ok (.if_icmp .ge 31, 3) := by decide +kernel
theorem dX5_order_67 : decode cX5_order 67 = .ok (.aload_n 0, 1) := by decide +kernel
theorem dX5_order_68 : decode cX5_order 68 = .ok (.getfield 147, 3) := by decide +kernel
theorem dX5_order_71 : decode cX5_order 71 = .ok (.iload_n 3, 1) := by decide +kernel
theorem dX5_order_72 : decode cX5_order 72 = .ok (.if_icmp .le 23, 3) := by decide +kernel
theorem dX5_order_75 : decode cX5_order 75 = .ok (.aload_n 0, 1) := by decide +kernel
theorem dX5_order_76 : decode cX5_order 76 = .ok (.getfield 61, 3) := by decide +kernel
theorem dX5_order_79 : decode cX5_order 79 = .ok (.iload 5, 2) := by decide +kernel
theorem dX5_order_81 : decode cX5_order 81 = .ok (.aload_n 0, 1) := by decide +kernel
theorem dX5_order_82 : decode cX5_order 82 = .ok (.getfield 22, 3) := by decide +kernel
theorem dX5_order_85 : decode cX5_order 85 = .ok (.iload 5, 2) := by decide +kernel
theorem dX5_order_87 : decode cX5_order 87 = .ok (.iaload, 1) := by decide +kernel
theorem dX5_order_88 : decode cX5_order 88 = .ok (.iastore, 1) := by decide +kernel
theorem dX5_order_89 : decode cX5_order 89 = .ok (.iinc 5 1, 3) := by decide +kernel
theorem dX5_order_92 : decode cX5_order 92 = .ok (.goto (-31), 3) := by decide +kernel
theorem dX5_order_95 : decode cX5_order 95 = .ok (.iload_n 3, 1) := by decide +kernel
theorem dX5_order_96 : decode cX5_order 96 = .ok (.aload_n 0, 1) := by decide +kernel
theorem dX5_order_97 : decode cX5_order 97 = .ok (.getfield 147, 3) := by decide +kernel
theorem dX5_order_100 : decode cX5_order 100 = .ok (.invokestatic 169, 3) := by decide +kernel
theorem dX5_order_103 : decode cX5_order 103 = .ok (.istore_n 3, 1) := by decide +kernel
theorem dX5_order_104 : decode cX5_order 104 = .ok (.aload_n 0, 1) := by decide +kernel
theorem dX5_order_105 : decode cX5_order 105 = .ok (.iload_n 2, 1) := by decide +kernel
theorem dX5_order_106 : decode cX5_order 106 = .ok (.invokevirtual 215, 3) := by decide +kernel
theorem dX5_order_109 : decode cX5_order 109 = .ok (.istore 4, 2) := by decide +kernel
theorem dX5_order_111 : decode cX5_order 111 = .ok (.goto (-63), 3) := by decide +kernel
theorem dX5_order_114 : decode cX5_order 114 = .ok (.iload_n 1, 1) := by decide +kernel
theorem dX5_order_115 : decode cX5_order 115 = .ok (.ifCond .ge 7, 3) := by decide +kernel
theorem dX5_order_118 : decode cX5_order 118 = .ok (.iload_n 3, 1) := by decide +kernel
theorem dX5_order_119 : decode cX5_order 119 = .ok (.goto 9, 3) := by decide +kernel
theorem dX5_order_122 : decode cX5_order 122 = .ok (.aload_n 0, 1) := by decide +kernel
theorem dX5_order_123 : decode cX5_order 123 = .ok (.getfield 61, 3) := by decide +kernel
theorem dX5_order_126 : decode cX5_order 126 = .ok (.iload_n 1, 1) := by decide +kernel
theorem dX5_order_127 : decode cX5_order 127 = .ok (.iaload, 1) := by decide +kernel
theorem dX5_order_128 : decode cX5_order 128 = .ok (.ireturn, 1) := by decide +kernel
theorem dX5_together_0 : decode cX5_together 0 = .ok (.iconst 0, 1) := by decide +kernel
theorem dX5_together_1 : decode cX5_together 1 = .ok (.istore_n 2, 1) := by decide +kernel
theorem dX5_together_2 : decode cX5_together 2 = .ok (.iconst 0, 1) := by decide +kernel
theorem dX5_together_3 : decode cX5_together 3 = .ok (.istore_n 3, 1) := by decide +kernel
theorem dX5_together_4 : decode cX5_together 4 = .ok (.iload_n 3, 1) := by decide +kernel
theorem dX5_together_5 : decode cX5_together 5 = .ok (.aload_n 0, 1) := by decide +kernel
theorem dX5_together_6 : decode cX5_together 6 = .ok (.getfield 7, 3) := by decide +kernel
theorem dX5_together_9 : decode cX5_together 9 = .ok (.bipush 12, 2) := by decide +kernel
theorem dX5_together_11 : decode cX5_together 11 = .ok (.iaload, 1) := by decide +kernel
theorem dX5_together_12 : decode cX5_together 12 = .ok (.if_icmp .ge 30, 3) := by decide +kernel
theorem dX5_together_15 : decode cX5_together 15 = .ok (.iload_n 2, 1) := by decide +kernel
theorem dX5_together_16 : decode cX5_together 16 = .ok (.iload_n 1, 1) := by decide +kernel
theorem dX5_together_17 : decode cX5_together 17 = .ok (.iload_n 3, 1) := by decide +kernel
theorem dX5_together_18 : decode cX5_together 18 = .ok (.invokestatic 156, 3) := by decide +kernel
theorem dX5_together_21 : decode cX5_together 21 = .ok (.ifCond .eq 12, 3) := by decide +kernel
theorem dX5_together_24 : decode cX5_together 24 = .ok (.aload_n 0, 1) := by decide +kernel
theorem dX5_together_25 : decode cX5_together 25 = .ok (.getfield 34, 3) := by decide +kernel
theorem dX5_together_28 : decode cX5_together 28 = .ok (.iload_n 3, 1) := by decide +kernel
theorem dX5_together_29 : decode cX5_together 29 = .ok (.iaload, 1) := by decide +kernel
theorem dX5_together_30 : decode cX5_together 30 = .ok (.goto 4, 3) := by decide +kernel
theorem dX5_together_33 : decode cX5_together 33 = .ok (.iconst 0, 1) := by decide +kernel
theorem dX5_together_34 : decode cX5_together 34 = .ok (.iadd, 1) := by decide +kernel
theorem dX5_together_35 : decode cX5_together 35 = .ok (.istore_n 2, 1) := by decide +kernel
theorem dX5_together_36 : decode cX5_together 36 = .ok (.iinc 3 1, 3) := by decide +kernel
theorem dX5_together_39 : decode cX5_together 39 = .ok (.goto (-35), 3) := by decide +kernel
theorem dX5_together_42 : decode cX5_together 42 = .ok (.iload_n 2, 1) := by decide +kernel
theorem dX5_together_43 : decode cX5_together 43 = .ok (.ireturn, 1) := by decide +kernel
theorem dX5_ring_0 : decode cX5_ring 0 = .ok (.iload_n 1, 1) := by decide +kernel
theorem dX5_ring_1 : decode cX5_ring 1 = .ok (.i2l, 1) := by decide +kernel
theorem dX5_ring_2 : decode cX5_ring 2 = .ok (.lconst 0, 1) := by decide +kernel
theorem dX5_ring_3 : decode cX5_ring 3 = .ok (.iconst 1, 1) := by decide +kernel
theorem dX5_ring_4 : decode cX5_ring 4 = .ok (.aload_n 0, 1) := by decide +kernel
theorem dX5_ring_5 : decode cX5_ring 5 = .ok (.getfield 7, 3) := by decide +kernel
theorem dX5_ring_8 : decode cX5_ring 8 = .ok (.bipush 12, 2) := by decide +kernel
theorem dX5_ring_10 : decode cX5_ring 10 = .ok (.iaload, 1) := by decide +kernel
theorem dX5_ring_11 : decode cX5_ring 11 = .ok (.ishl, 1) := by decide +kernel
theorem dX5_ring_12 : decode cX5_ring 12 = .ok (.iconst 1, 1) := by decide +kernel
theorem dX5_ring_13 : decode cX5_ring 13 = .ok (.isub, 1) := by decide +kernel
theorem dX5_ring_14 : decode cX5_ring 14 = .ok (.i2l, 1) := by decide +kernel
theorem dX5_ring_15 : decode cX5_ring 15 = .ok (.invokestatic 77, 3) := by decide +kernel
theorem dX5_ring_18 : decode cX5_ring 18 = .ok (.ifCond .eq 11, 3) := by decide +kernel
theorem dX5_ring_21 : decode cX5_ring 21 = .ok (.iload_n 1, 1) := by decide +kernel
theorem dX5_ring_22 : decode cX5_ring 22 = .ok (.iload_n 1, 1) := by decide +kernel
theorem dX5_ring_23 : decode cX5_ring 23 = .ok (.iconst 1, 1) := by decide +kernel
theorem dX5_ring_24 : decode cX5_ring 24 = .ok (.isub, 1) := by decide +kernel
theorem dX5_ring_25 : decode cX5_ring 25 = .ok (.iand, 1) := by decide +kernel
theorem dX5_ring_26 : decode cX5_ring 26 = .ok (.ifCond .ne 6, 3) := by decide +kernel
theorem dX5_ring_29 : decode cX5_ring 29 = .ok (.ldc 104, 2) := by decide +kernel
theorem dX5_ring_31 : decode cX5_ring 31 = .ok (.ireturn, 1) := by decide +kernel
theorem dX5_ring_32 : decode cX5_ring 32 = .ok (.aload_n 0, 1) := by decide +kernel
theorem dX5_ring_33 : decode cX5_ring 33 = .ok (.iconst 0, 1) := by decide +kernel
theorem dX5_ring_34 : decode cX5_ring 34 = .ok (.invokevirtual 194, 3) := by decide +kernel
theorem dX5_ring_37 : decode cX5_ring 37 = .ok (.aload_n 0, 1) := by decide +kernel
theorem dX5_ring_38 : decode cX5_ring 38 = .ok (.iload_n 1, 1) := by decide +kernel
theorem dX5_ring_39 : decode cX5_ring 39 = .ok (.invokevirtual 218, 3) := by decide +kernel
theorem dX5_ring_42 : decode cX5_ring 42 = .ok (.istore_n 2, 1) := by decide +kernel
theorem dX5_ring_43 : decode cX5_ring 43 = .ok (.aload_n 0, 1) := by decide +kernel
theorem dX5_ring_44 : decode cX5_ring 44 = .ok (.iload_n 1, 1) := by decide +kernel
theorem dX5_ring_45 : decode cX5_ring 45 = .ok (.invokevirtual 194, 3) := by decide +kernel
theorem dX5_ring_48 : decode cX5_ring 48 = .ok (.aload_n 0, 1) := by decide +kernel
theorem dX5_ring_49 : decode cX5_ring 49 = .ok (.iload_n 1, 1) := by decide +kernel
theorem dX5_ring_50 : decode cX5_ring 50 = .ok (.invokevirtual 218, 3) := by decide +kernel
theorem dX5_ring_53 : decode cX5_ring 53 = .ok (.iload_n 2, 1) := by decide +kernel
theorem dX5_ring_54 : decode cX5_ring 54 = .ok (.isub, 1) := by decide +kernel
theorem dX5_ring_55 : decode cX5_ring 55 = .ok (.ireturn, 1) := by decide +kernel
theorem dX5_image_0 : decode cX5_image 0 = .ok (.iconst 0, 1) := by decide +kernel
theorem dX5_image_1 : decode cX5_image 1 = .ok (.istore_n 1, 1) := by decide +kernel
theorem dX5_image_2 : decode cX5_image 2 = .ok (.iload_n 1, 1) := by decide +kernel
theorem dX5_image_3 : decode cX5_image 3 = .ok (.bipush 90, 2) := by decide +kernel
theorem dX5_image_5 : decode cX5_image 5 = .ok (.if_icmp .ge 24, 3) := by decide +kernel
theorem dX5_image_8 : decode cX5_image 8 = .ok (.aload_n 0, 1) := by decide +kernel
theorem dX5_image_9 : decode cX5_image 9 = .ok (.getfield 7, 3) := by decide +kernel
theorem dX5_image_12 : decode cX5_image 12 = .ok (.bipush 90, 2) := by decide +kernel
theorem dX5_image_14 : decode cX5_image 14 = .ok (.iload_n 1, 1) := by decide +kernel
theorem dX5_image_15 : decode cX5_image 15 = .ok (.iadd, 1) := by decide +kernel
theorem dX5_image_16 : decode cX5_image 16 = .ok (.aload_n 0, 1) := by decide +kernel
theorem dX5_image_17 : decode cX5_image 17 = .ok (.getfield 7, 3) := by decide +kernel
theorem dX5_image_20 : decode cX5_image 20 = .ok (.iload_n 1, 1) := by decide +kernel
theorem dX5_image_21 : decode cX5_image 21 = .ok (.iaload, 1) := by decide +kernel
theorem dX5_image_22 : decode cX5_image 22 = .ok (.iastore, 1) := by decide +kernel
theorem dX5_image_23 : decode cX5_image 23 = .ok (.iinc 1 1, 3) := by decide +kernel
theorem dX5_image_26 : decode cX5_image 26 = .ok (.goto (-24), 3) := by decide +kernel
theorem dX5_image_29 : decode cX5_image 29 = .ok (.aload_n 0, 1) := by decide +kernel
theorem dX5_image_30 : decode cX5_image 30 = .ok (.iconst 1, 1) := by decide +kernel
theorem dX5_image_31 : decode cX5_image 31 = .ok (.putfield 221, 3) := by decide +kernel
theorem dX5_image_34 : decode cX5_image 34 = .ok (.iconst 1, 1) := by decide +kernel
theorem dX5_image_35 : decode cX5_image 35 = .ok (.ireturn, 1) := by decide +kernel
theorem dX5_restore_0 : decode cX5_restore 0 = .ok (.aload_n 0, 1) := by decide +kernel
theorem dX5_restore_1 : decode cX5_restore 1 = .ok (.getfield 221, 3) := by decide +kernel
theorem dX5_restore_4 : decode cX5_restore 4 = .ok (.ifCond .ne 6, 3) := by decide +kernel
theorem dX5_restore_7 : decode cX5_restore 7 = .ok (.bipush (-4), 2) := by decide +kernel
theorem dX5_restore_9 : decode cX5_restore 9 = .ok (.ireturn, 1) := by decide +kernel
theorem dX5_restore_10 : decode cX5_restore 10 = .ok (.iconst 0, 1) := by decide +kernel
theorem dX5_restore_11 : decode cX5_restore 11 = .ok (.istore_n 1, 1) := by decide +kernel
theorem dX5_restore_12 : decode cX5_restore 12 = .ok (.iload_n 1, 1) := by decide +kernel
theorem dX5_restore_13 : decode cX5_restore 13 = .ok (.bipush 90, 2) := by decide +kernel
theorem dX5_restore_15 : decode cX5_restore 15 = .ok (.if_icmp .ge 24, 3) := by decide +kernel
theorem dX5_restore_18 : decode cX5_restore 18 = .ok (.aload_n 0, 1) := by decide +kernel
theorem dX5_restore_19 : decode cX5_restore 19 = .ok (.getfield 7, 3) := by decide +kernel
theorem dX5_restore_22 : decode cX5_restore 22 = .ok (.iload_n 1, 1) := by decide +kernel
theorem dX5_restore_23 : decode cX5_restore 23 = .ok (.aload_n 0, 1) := by decide +kernel
theorem dX5_restore_24 : decode cX5_restore 24 = .ok (.getfield 7, 3) := by decide +kernel
theorem dX5_restore_27 : decode cX5_restore 27 = .ok (.bipush 90, 2) := by decide +kernel
theorem dX5_restore_29 : decode cX5_restore 29 = .ok (.iload_n 1, 1) := by decide +kernel
theorem dX5_restore_30 : decode cX5_restore 30 = .ok (.iadd, 1) := by decide +kernel
theorem dX5_restore_31 : decode cX5_restore 31 = .ok (.iaload, 1) := by decide +kernel
theorem dX5_restore_32 : decode cX5_restore 32 = .ok (.iastore, 1) := by decide +kernel
theorem dX5_restore_33 : decode cX5_restore 33 = .ok (.iinc 1 1, 3) := by decide +kernel
theorem dX5_restore_36 : decode cX5_restore 36 = .ok (.goto (-24), 3) := by decide +kernel
theorem dX5_restore_39 : decode cX5_restore 39 = .ok (.iconst 1, 1) := by decide +kernel
theorem dX5_restore_40 : decode cX5_restore 40 = .ok (.ireturn, 1) := by decide +kernel
theorem dX5_isSheet_0 : decode cX5_isSheet 0 = .ok (.iload_n 0, 1) := by decide +kernel
theorem dX5_isSheet_1 : decode cX5_isSheet 1 = .ok (.i2l, 1) := by decide +kernel
theorem dX5_isSheet_2 : decode cX5_isSheet 2 = .ok (.lconst 0, 1) := by decide +kernel
theorem dX5_isSheet_3 : decode cX5_isSheet 3 = .ok (.ldc2_w 96, 3) := by decide +kernel
theorem dX5_isSheet_6 : decode cX5_isSheet 6 = .ok (.invokestatic 77, 3) := by decide +kernel
theorem dX5_isSheet_9 : decode cX5_isSheet 9 = .ok (.ireturn, 1) := by decide +kernel
theorem dX5_bars_0 : decode cX5_bars 0 = .ok (.aload_n 0, 1) := by decide +kernel
theorem dX5_bars_1 : decode cX5_bars 1 = .ok (.getfield 64, 3) := by decide +kernel
theorem dX5_bars_4 : decode cX5_bars 4 = .ok (.iload_n 1, 1) := by decide +kernel
theorem dX5_bars_5 : decode cX5_bars 5 = .ok (.iaload, 1) := by decide +kernel
theorem dX5_bars_6 : decode cX5_bars 6 = .ok (.ifCond .ge 8, 3) := by decide +kernel
theorem dX5_bars_9 : decode cX5_bars 9 = .ok (.bipush (-11), 2) := by decide +kernel
theorem dX5_bars_11 : decode cX5_bars 11 = .ok (.goto 50, 3) := by decide +kernel
theorem dX5_bars_14 : decode cX5_bars 14 = .ok (.aload_n 0, 1) := by decide +kernel
theorem dX5_bars_15 : decode cX5_bars 15 = .ok (.getfield 64, 3) := by decide +kernel
theorem dX5_bars_18 : decode cX5_bars 18 = .ok (.iload_n 1, 1) := by decide +kernel
theorem dX5_bars_19 : decode cX5_bars 19 = .ok (.iaload, 1) := by decide +kernel
theorem dX5_bars_20 : decode cX5_bars 20 = .ok (.iload_n 2, 1) := by decide +kernel
theorem dX5_bars_21 : decode cX5_bars 21 = .ok (.if_icmp .eq 8, 3) := by decide +kernel
theorem dX5_bars_24 : decode cX5_bars 24 = .ok (.bipush (-12), 2) := by decide +kernel
theorem dX5_bars_26 : decode cX5_bars 26 = .ok (.goto 35, 3) := by decide +kernel
theorem dX5_bars_29 : decode cX5_bars 29 = .ok (.iload_n 3, 1) := by decide +kernel
theorem dX5_bars_30 : decode cX5_bars 30 = .ok (.ifCond .lt 25, 3) := by decide +kernel
theorem dX5_bars_33 : decode cX5_bars 33 = .ok (.iload 4, 2) := by decide +kernel
theorem dX5_bars_35 : decode cX5_bars 35 = .ok (.ifCond .lt 20, 3) := by decide +kernel
theorem dX5_bars_38 : decode cX5_bars 38 = .ok (.iload_n 3, 1) := by decide +kernel
theorem dX5_bars_39 : decode cX5_bars 39 = .ok (.i2l, 1) := by decide +kernel
theorem dX5_bars_40 : decode cX5_bars 40 = .ok (.iload 4, 2) := by decide +kernel
theorem dX5_bars_42 : decode cX5_bars 42 = .ok (.i2l, 1) := by decide +kernel
theorem dX5_bars_43 : decode cX5_bars 43 = .ok (.ladd, 1) := by decide +kernel
theorem dX5_bars_44 : decode cX5_bars 44 = .ok (.aload_n 0, 1) := by decide +kernel
theorem dX5_bars_45 : decode cX5_bars 45 = .ok (.getfield 67, 3) := by decide +kernel
theorem dX5_bars_48 : decode cX5_bars 48 = .ok (.iload_n 1, 1) := by decide +kernel
theorem dX5_bars_49 : decode cX5_bars 49 = .ok (.iaload, 1) := by decide +kernel
theorem dX5_bars_50 : decode cX5_bars 50 = .ok (.i2l, 1) := by decide +kernel
theorem dX5_bars_51 : decode cX5_bars 51 = .ok (.lcmp, 1) := by decide +kernel
theorem dX5_bars_52 : decode cX5_bars 52 = .ok (.ifCond .le 8, 3) := by decide +kernel
theorem dX5_bars_55 : decode cX5_bars 55 = .ok (.bipush (-13), 2) := by decide +kernel
theorem dX5_bars_57 : decode cX5_bars 57 = .ok (.goto 4, 3) := by decide +kernel
theorem dX5_bars_60 : decode cX5_bars 60 = .ok (.iconst 0, 1) := by decide +kernel
theorem dX5_bars_61 : decode cX5_bars 61 = .ok (.ireturn, 1) := by decide +kernel
theorem dX5_cut_0 : decode cX5_cut 0 = .ok (.iload_n 0, 1) := by decide +kernel
theorem dX5_cut_1 : decode cX5_cut 1 = .ok (.ifCond .ne 10, 3) := by decide +kernel
theorem dX5_cut_4 : decode cX5_cut 4 = .ok (.lload_n 1, 1) := by decide +kernel
theorem dX5_cut_5 : decode cX5_cut 5 = .ok (.l2i, 1) := by decide +kernel
theorem dX5_cut_6 : decode cX5_cut 6 = .ok (.i2b, 1) := by decide +kernel
theorem dX5_cut_7 : decode cX5_cut 7 = .ok (.i2l, 1) := by decide +kernel
theorem dX5_cut_8 : decode cX5_cut 8 = .ok (.goto 15, 3) := by decide +kernel
theorem dX5_cut_11 : decode cX5_cut 11 = .ok (.iload_n 0, 1) := by decide +kernel
theorem dX5_cut_12 : decode cX5_cut 12 = .ok (.iconst 1, 1) := by decide +kernel
theorem dX5_cut_13 : decode cX5_cut 13 = .ok (.if_icmp .ne 9, 3) := by decide +kernel
theorem dX5_cut_16 : decode cX5_cut 16 = .ok (.lload_n 1, 1) := by decide +kernel
theorem dX5_cut_17 : decode cX5_cut 17 = .ok (.l2i, 1) := by decide +kernel
theorem dX5_cut_18 : decode cX5_cut 18 = .ok (.i2l, 1) := by decide +kernel
theorem dX5_cut_19 : decode cX5_cut 19 = .ok (.goto 4, 3) := by decide +kernel
theorem dX5_cut_22 : decode cX5_cut 22 = .ok (.lload_n 1, 1) := by decide +kernel
theorem dX5_cut_23 : decode cX5_cut 23 = .ok (.lreturn, 1) := by decide +kernel
theorem dX5_isSo_0 : decode cX5_isSo 0 = .ok (.iconst 1, 1) := by decide +kernel
theorem dX5_isSo_1 : decode cX5_isSo 1 = .ok (.istore_n 2, 1) := by decide +kernel
theorem dX5_isSo_2 : decode cX5_isSo 2 = .ok (.iconst 0, 1) := by decide +kernel
theorem dX5_isSo_3 : decode cX5_isSo 3 = .ok (.istore_n 3, 1) := by decide +kernel
theorem dX5_isSo_4 : decode cX5_isSo 4 = .ok (.iload_n 3, 1) := by decide +kernel
theorem dX5_isSo_5 : decode cX5_isSo 5 = .ok (.aload_n 0, 1) := by decide +kernel
theorem dX5_isSo_6 : decode cX5_isSo 6 = .ok (.getfield 7, 3) := by decide +kernel
theorem dX5_isSo_9 : decode cX5_isSo 9 = .ok (.iconst 5, 1) := by decide +kernel
theorem dX5_isSo_10 : decode cX5_isSo 10 = .ok (.iaload, 1) := by decide +kernel
theorem dX5_isSo_11 : decode cX5_isSo 11 = .ok (.if_icmp .ge 88, 3) := by decide +kernel
theorem dX5_isSo_14 : decode cX5_isSo 14 = .ok (.aload_n 0, 1) := by decide +kernel
theorem dX5_isSo_15 : decode cX5_isSo 15 = .ok (.getfield 70, 3) := by decide +kernel
theorem dX5_isSo_18 : decode cX5_isSo 18 = .ok (.iload_n 1, 1) := by decide +kernel
theorem dX5_isSo_19 : decode cX5_isSo 19 = .ok (.iconst 2, 1) := by decide +kernel
theorem dX5_isSo_20 : decode cX5_isSo 20 = .ok (.iload_n 3, 1) := by decide +kernel
theorem dX5_isSo_21 : decode cX5_isSo 21 = .ok (.imul, 1) := by decide +kernel
theorem dX5_isSo_22 : decode cX5_isSo 22 = .ok (.iadd, 1) := by decide +kernel
theorem dX5_isSo_23 : decode cX5_isSo 23 = .ok (.laload, 1) := by decide +kernel
theorem dX5_isSo_24 : decode cX5_isSo 24 = .ok (.lstore 4, 2) := by decide +kernel
theorem dX5_isSo_26 : decode cX5_isSo 26 = .ok (.iload_n 2, 1) := by decide +kernel
theorem dX5_isSo_27 : decode cX5_isSo 27 = .ok (.ifCond .eq 64, 3) := by decide +kernel
theorem dX5_isSo_30 : decode cX5_isSo 30 = .ok (.aload_n 0, 1) := by decide +kernel
theorem dX5_isSo_31 : decode cX5_isSo 31 = .ok (.getfield 37, 3) := by decide +kernel
theorem dX5_isSo_34 : decode cX5_isSo 34 = .ok (.iload_n 3, 1) := by decide +kernel
theorem dX5_isSo_35 : decode cX5_isSo 35 = .ok (.iaload, 1) := by decide +kernel
theorem dX5_isSo_36 : decode cX5_isSo 36 = .ok (.ifCond .ge 15, 3) := by decide +kernel
theorem dX5_isSo_39 : decode cX5_isSo 39 = .ok (.lload 4, 2) := by decide +kernel
theorem dX5_isSo_41 : decode cX5_isSo 41 = .ok (.ldc2_w 208, 3) := by decide +kernel
theorem dX5_isSo_44 : decode cX5_isSo 44 = .ok (.lcmp, 1) := by decide +kernel
theorem dX5_isSo_45 : decode cX5_isSo 45 = .ok (.ifCond .ne 46, 3) := by decide +kernel
theorem dX5_isSo_48 : decode cX5_isSo 48 = .ok (.goto 39, 3) := by decide +kernel
theorem dX5_isSo_51 : decode cX5_isSo 51 = .ok (.lload 4, 2) := by decide +kernel
theorem dX5_isSo_53 : decode cX5_isSo 53 = .ok (.aload_n 0, 1) := by decide +kernel
theorem dX5_isSo_54 : decode cX5_isSo 54 = .ok (.getfield 37, 3) := by decide +kernel
theorem dX5_isSo_57 : decode cX5_isSo 57 = .ok (.iload_n 3, 1) := by decide +kernel
theorem dX5_isSo_58 : decode cX5_isSo 58 = .ok (.iaload, 1) := by decide +kernel
theorem dX5_isSo_59 : decode cX5_isSo 59 = .ok (.i2l, 1) := by decide +kernel
theorem dX5_isSo_60 : decode cX5_isSo 60 = .ok (.lcmp, 1) := by decide +kernel
theorem dX5_isSo_61 : decode cX5_isSo 61 = .ok (.ifCond .ne 30, 3) := by decide +kernel
theorem dX5_isSo_64 : decode cX5_isSo 64 = .ok (.aload_n 0, 1) := by decide +kernel
theorem dX5_isSo_65 : decode cX5_isSo 65 = .ok (.getfield 70, 3) := by decide +kernel
theorem dX5_isSo_68 : decode cX5_isSo 68 = .ok (.iload_n 1, 1) := by decide +kernel
theorem dX5_isSo_69 : decode cX5_isSo 69 = .ok (.iconst 2, 1) := by decide +kernel
theorem dX5_isSo_70 : decode cX5_isSo 70 = .ok (.iload_n 3, 1) := by decide +kernel
theorem dX5_isSo_71 : decode cX5_isSo 71 = .ok (.imul, 1) := by decide +kernel
theorem dX5_isSo_72 : decode cX5_isSo 72 = .ok (.iadd, 1) := by decide +kernel
theorem dX5_isSo_73 : decode cX5_isSo 73 = .ok (.iconst 1, 1) := by decide +kernel
theorem dX5_isSo_74 : decode cX5_isSo 74 = .ok (.iadd, 1) := by decide +kernel
theorem dX5_isSo_75 : decode cX5_isSo 75 = .ok (.laload, 1) := by decide +kernel
theorem dX5_isSo_76 : decode cX5_isSo 76 = .ok (.aload_n 0, 1) := by decide +kernel
theorem dX5_isSo_77 : decode cX5_isSo 77 = .ok (.getfield 40, 3) := by decide +kernel
theorem dX5_isSo_80 : decode cX5_isSo 80 = .ok (.iload_n 3, 1) := by decide +kernel
theorem dX5_isSo_81 : decode cX5_isSo 81 = .ok (.iaload, 1) := by decide +kernel
theorem dX5_isSo_82 : decode cX5_isSo 82 = .ok (.i2l, 1) := by decide +kernel
theorem dX5_isSo_83 : decode cX5_isSo 83 = .ok (.lcmp, 1) := by decide +kernel
theorem dX5_isSo_84 : decode cX5_isSo 84 = .ok (.ifCond .ne 7, 3) := by decide +kernel
theorem dX5_isSo_87 : decode cX5_isSo 87 = .ok (.iconst 1, 1) := by decide +kernel
theorem dX5_isSo_88 : decode cX5_isSo 88 = .ok (.goto 4, 3) := by decide +kernel
theorem dX5_isSo_91 : decode cX5_isSo 91 = .ok (.iconst 0, 1) := by decide +kernel
theorem dX5_isSo_92 : decode cX5_isSo 92 = .ok (.istore_n 2, 1) := by decide +kernel
theorem dX5_isSo_93 : decode cX5_isSo 93 = .ok (.iinc 3 1, 3) := by decide +kernel
theorem dX5_isSo_96 : decode cX5_isSo 96 = .ok (.goto (-92), 3) := by decide +kernel
theorem dX5_isSo_99 : decode cX5_isSo 99 = .ok (.iload_n 2, 1) := by decide +kernel
theorem dX5_isSo_100 : decode cX5_isSo 100 = .ok (.ireturn, 1) := by decide +kernel
theorem dX5_which_0 : decode cX5_which 0 = .ok (.iload_n 1, 1) := by decide +kernel
theorem dX5_which_1 : decode cX5_which 1 = .ok (.invokestatic 225, 3) := by decide +kernel
theorem dX5_which_4 : decode cX5_which 4 = .ok (.ifCond .eq 26, 3) := by decide +kernel
theorem dX5_which_7 : decode cX5_which 7 = .ok (.iload_n 2, 1) := by decide +kernel
theorem dX5_which_8 : decode cX5_which 8 = .ok (.i2l, 1) := by decide +kernel
theorem dX5_which_9 : decode cX5_which 9 = .ok (.lconst 0, 1) := by decide +kernel
theorem dX5_which_10 : decode cX5_which 10 = .ok (.ldc2_w 197, 3) := by decide +kernel
theorem dX5_which_13 : decode cX5_which 13 = .ok (.invokestatic 77, 3) := by decide +kernel
theorem dX5_which_16 : decode cX5_which 16 = .ok (.ifCond .eq 14, 3) := by decide +kernel
theorem dX5_which_19 : decode cX5_which 19 = .ok (.iload 4, 2) := by decide +kernel
theorem dX5_which_21 : decode cX5_which 21 = .ok (.i2l, 1) := by decide +kernel
theorem dX5_which_22 : decode cX5_which 22 = .ok (.lconst 0, 1) := by decide +kernel
theorem dX5_which_23 : decode cX5_which 23 = .ok (.lconst 1, 1) := by decide +kernel
theorem dX5_which_24 : decode cX5_which 24 = .ok (.invokestatic 77, 3) := by decide +kernel
theorem dX5_which_27 : decode cX5_which 27 = .ok (.ifCond .ne 5, 3) := by decide +kernel
theorem dX5_which_30 : decode cX5_which 30 = .ok (.iconst (-1), 1) := by decide +kernel
theorem dX5_which_31 : decode cX5_which 31 = .ok (.ireturn, 1) := by decide +kernel
theorem dX5_which_32 : decode cX5_which 32 = .ok (.aload_n 0, 1) := by decide +kernel
theorem dX5_which_33 : decode cX5_which 33 = .ok (.iload_n 1, 1) := by decide +kernel
theorem dX5_which_34 : decode cX5_which 34 = .ok (.iload_n 2, 1) := by decide +kernel
theorem dX5_which_35 : decode cX5_which 35 = .ok (.iload_n 3, 1) := by decide +kernel
theorem dX5_which_36 : decode cX5_which 36 = .ok (.iconst 2, 1) := by decide +kernel
theorem dX5_which_37 : decode cX5_which 37 = .ok (.aload_n 0, 1) := by decide +kernel
theorem dX5_which_38 : decode cX5_which 38 = .ok (.getfield 7, 3) := by decide +kernel
theorem dX5_which_41 : decode cX5_which 41 = .ok (.iconst 5, 1) := by decide +kernel
theorem dX5_which_42 : decode cX5_which 42 = .ok (.iaload, 1) := by decide +kernel
theorem dX5_which_43 : decode cX5_which 43 = .ok (.imul, 1) := by decide +kernel
theorem dX5_which_44 : decode cX5_which 44 = .ok (.invokevirtual 228, 3) := by decide +kernel
theorem dX5_which_47 : decode cX5_which 47 = .ok (.istore 5, 2) := by decide +kernel
theorem dX5_which_49 : decode cX5_which 49 = .ok (.iload 5, 2) := by decide +kernel
theorem dX5_which_51 : decode cX5_which 51 = .ok (.ifCond .ne 12, 3) := by decide +kernel
theorem dX5_which_54 : decode cX5_which 54 = .ok (.aload_n 0, 1) := by decide +kernel
theorem dX5_which_55 : decode cX5_which 55 = .ok (.getfield 7, 3) := by decide +kernel
theorem dX5_which_58 : decode cX5_which 58 = .ok (.iconst 5, 1) := by decide +kernel
theorem dX5_which_59 : decode cX5_which 59 = .ok (.iaload, 1) := by decide +kernel
theorem dX5_which_60 : decode cX5_which 60 = .ok (.ifCond .ne 16, 3) := by decide +kernel
theorem dX5_which_63 : decode cX5_which 63 = .ok (.iload 5, 2) := by decide +kernel
theorem dX5_which_65 : decode cX5_which 65 = .ok (.ifCond .eq 8, 3) := by decide +kernel
theorem dX5_which_68 : decode cX5_which 68 = .ok (.iload 5, 2) := by decide +kernel
theorem dX5_which_70 : decode cX5_which 70 = .ok (.goto 5, 3) := by decide +kernel
theorem dX5_which_73 : decode cX5_which 73 = .ok (.bipush (-2), 2) := by decide +kernel
theorem dX5_which_75 : decode cX5_which 75 = .ok (.ireturn, 1) := by decide +kernel
theorem dX5_which_76 : decode cX5_which 76 = .ok (.iconst 0, 1) := by decide +kernel
theorem dX5_which_77 : decode cX5_which 77 = .ok (.istore 6, 2) := by decide +kernel
theorem dX5_which_79 : decode cX5_which 79 = .ok (.bipush (-4), 2) := by decide +kernel
theorem dX5_which_81 : decode cX5_which 81 = .ok (.istore 7, 2) := by decide +kernel
theorem dX5_which_83 : decode cX5_which 83 = .ok (.iconst 0, 1) := by decide +kernel
theorem dX5_which_84 : decode cX5_which 84 = .ok (.istore 8, 2) := by decide +kernel
theorem dX5_which_86 : decode cX5_which 86 = .ok (.iload 8, 2) := by decide +kernel
theorem dX5_which_88 : decode cX5_which 88 = .ok (.iconst 1, 1) := by decide +kernel
theorem dX5_which_89 : decode cX5_which 89 = .ok (.aload_n 0, 1) := by decide +kernel
theorem dX5_which_90 : decode cX5_which 90 = .ok (.getfield 7, 3) := by decide +kernel
theorem dX5_which_93 : decode cX5_which 93 = .ok (.bipush 12, 2) := by decide +kernel
theorem dX5_which_95 : decode cX5_which 95 = .ok (.iaload, 1) := by decide +kernel
theorem dX5_which_96 : decode cX5_which 96 = .ok (.ishl, 1) := by decide +kernel
theorem dX5_which_97 : decode cX5_which 97 = .ok (.if_icmp .ge 63, 3) := by decide +kernel
theorem dX5_which_100 : decode cX5_which 100 = .ok (.iload 8, 2) := by decide +kernel
theorem dX5_which_102 : decode cX5_which 102 = .ok (.ifCond .le 16, 3) := by decide +kernel
theorem dX5_which_105 : decode cX5_which 105 = .ok (.iload 8, 2) := by decide +kernel
theorem dX5_which_107 : decode cX5_which 107 = .ok (.iload 8, 2) := by decide +kernel
theorem dX5_which_109 : decode cX5_which 109 = .ok (.iconst 1, 1) := by decide +kernel
theorem dX5_which_110 : decode cX5_which 110 = .ok (.isub, 1) := by decide +kernel
theorem dX5_which_111 : decode cX5_which 111 = .ok (.iand, 1) := by decide +kernel
theorem dX5_which_112 : decode cX5_which 112 = .ok (.ifCond .ne 6, 3) := by decide +kernel
theorem dX5_which_115 : decode cX5_which 115 = .ok (.goto 39, 3) := by decide +kernel
theorem dX5_which_118 : decode cX5_which 118 = .ok (.aload_n 0, 1) := by decide +kernel
theorem dX5_which_119 : decode cX5_which 119 = .ok (.iload 8, 2) := by decide +kernel
theorem dX5_which_121 : decode cX5_which 121 = .ok (.invokevirtual 194, 3) := by decide +kernel
theorem dX5_which_124 : decode cX5_which 124 = .ok (.aload_n 0, 1) := by decide +kernel
theorem dX5_which_125 : decode cX5_which 125 = .ok (.bipush 16, 2) := by decide +kernel
theorem dX5_which_127 : decode cX5_which 127 = .ok (.iload_n 1, 1) := by decide +kernel
theorem dX5_which_128 : decode cX5_which 128 = .ok (.imul, 1) := by decide +kernel
theorem dX5_which_129 : decode cX5_which 129 = .ok (.iload_n 3, 1) := by decide +kernel
theorem dX5_which_130 : decode cX5_which 130 = .ok (.iadd, 1) := by decide +kernel
theorem dX5_which_131 : decode cX5_which 131 = .ok (.invokevirtual 231, 3) := by decide +kernel
theorem dX5_which_134 : decode cX5_which 134 = .ok (.ifCond .eq 20, 3) := by decide +kernel
theorem dX5_which_137 : decode cX5_which 137 = .ok (.iload 6, 2) := by decide +kernel
theorem dX5_which_139 : decode cX5_which 139 = .ok (.ifCond .ne 8, 3) := by decide +kernel
theorem dX5_which_142 : decode cX5_which 142 = .ok (.iload 8, 2) := by decide +kernel
theorem dX5_which_144 : decode cX5_which 144 = .ok (.goto 5, 3) := by decide +kernel
theorem dX5_which_147 : decode cX5_which 147 = .ok (.iload 7, 2) := by decide +kernel
theorem dX5_which_149 : decode cX5_which 149 = .ok (.istore 7, 2) := by decide +kernel
theorem dX5_which_151 : decode cX5_which 151 = .ok (.iinc 6 1, 3) := by decide +kernel
theorem dX5_which_154 : decode cX5_which 154 = .ok (.iinc 8 1, 3) := by decide +kernel
theorem dX5_which_157 : decode cX5_which 157 = .ok (.goto (-71), 3) := by decide +kernel
theorem dX5_which_160 : decode cX5_which 160 = .ok (.iload 4, 2) := by decide +kernel
theorem dX5_which_162 : decode cX5_which 162 = .ok (.ifCond .ne 8, 3) := by decide +kernel
theorem dX5_which_165 : decode cX5_which 165 = .ok (.iload 6, 2) := by decide +kernel
theorem dX5_which_167 : decode cX5_which 167 = .ok (.goto 5, 3) := by decide +kernel
theorem dX5_which_170 : decode cX5_which 170 = .ok (.iload 7, 2) := by decide +kernel
theorem dX5_which_172 : decode cX5_which 172 = .ok (.ireturn, 1) := by decide +kernel
theorem dX5_film_0 : decode cX5_film 0 = .ok (.iload_n 1, 1) := by decide +kernel
theorem dX5_film_1 : decode cX5_film 1 = .ok (.invokestatic 225, 3) := by decide +kernel
theorem dX5_film_4 : decode cX5_film 4 = .ok (.ifCond .eq 15, 3) := by decide +kernel
theorem dX5_film_7 : decode cX5_film 7 = .ok (.iload_n 2, 1) := by decide +kernel
theorem dX5_film_8 : decode cX5_film 8 = .ok (.i2l, 1) := by decide +kernel
theorem dX5_film_9 : decode cX5_film 9 = .ok (.lconst 0, 1) := by decide +kernel
theorem dX5_film_10 : decode cX5_film 10 = .ok (.ldc2_w 197, 3) := by decide +kernel
theorem dX5_film_13 : decode cX5_film 13 = .ok (.invokestatic 77, 3) := by decide +kernel
theorem dX5_film_16 : decode cX5_film 16 = .ok (.ifCond .ne 5, 3) := by decide +kernel
theorem dX5_film_19 : decode cX5_film 19 = .ok (.iconst (-1), 1) := by decide +kernel
theorem dX5_film_20 : decode cX5_film 20 = .ok (.ireturn, 1) := by decide +kernel
theorem dX5_film_21 : decode cX5_film 21 = .ok (.aload_n 0, 1) := by decide +kernel
theorem dX5_film_22 : decode cX5_film 22 = .ok (.iload_n 1, 1) := by decide +kernel
theorem dX5_film_23 : decode cX5_film 23 = .ok (.iload_n 2, 1) := by decide +kernel
theorem dX5_film_24 : decode cX5_film 24 = .ok (.iload_n 3, 1) := by decide +kernel
theorem dX5_film_25 : decode cX5_film 25 = .ok (.iconst 2, 1) := by decide +kernel
theorem dX5_film_26 : decode cX5_film 26 = .ok (.aload_n 0, 1) := by decide +kernel
theorem dX5_film_27 : decode cX5_film 27 = .ok (.getfield 7, 3) := by decide +kernel
theorem dX5_film_30 : decode cX5_film 30 = .ok (.iconst 5, 1) := by decide +kernel
theorem dX5_film_31 : decode cX5_film 31 = .ok (.iaload, 1) := by decide +kernel
theorem dX5_film_32 : decode cX5_film 32 = .ok (.imul, 1) := by decide +kernel
theorem dX5_film_33 : decode cX5_film 33 = .ok (.invokevirtual 228, 3) := by decide +kernel
theorem dX5_film_36 : decode cX5_film 36 = .ok (.istore 4, 2) := by decide +kernel
theorem dX5_film_38 : decode cX5_film 38 = .ok (.iload 4, 2) := by decide +kernel
theorem dX5_film_40 : decode cX5_film 40 = .ok (.ifCond .ne 12, 3) := by decide +kernel
theorem dX5_film_43 : decode cX5_film 43 = .ok (.aload_n 0, 1) := by decide +kernel
theorem dX5_film_44 : decode cX5_film 44 = .ok (.getfield 7, 3) := by decide +kernel
theorem dX5_film_47 : decode cX5_film 47 = .ok (.iconst 5, 1) := by decide +kernel
theorem dX5_film_48 : decode cX5_film 48 = .ok (.iaload, 1) := by decide +kernel
theorem dX5_film_49 : decode cX5_film 49 = .ok (.ifCond .ne 16, 3) := by decide +kernel
theorem dX5_film_52 : decode cX5_film 52 = .ok (.iload 4, 2) := by decide +kernel
theorem dX5_film_54 : decode cX5_film 54 = .ok (.ifCond .eq 8, 3) := by decide +kernel
theorem dX5_film_57 : decode cX5_film 57 = .ok (.iload 4, 2) := by decide +kernel
theorem dX5_film_59 : decode cX5_film 59 = .ok (.goto 5, 3) := by decide +kernel
theorem dX5_film_62 : decode cX5_film 62 = .ok (.bipush (-2), 2) := by decide +kernel
theorem dX5_film_64 : decode cX5_film 64 = .ok (.ireturn, 1) := by decide +kernel
theorem dX5_film_65 : decode cX5_film 65 = .ok (.aload_n 0, 1) := by decide +kernel
theorem dX5_film_66 : decode cX5_film 66 = .ok (.iconst 0, 1) := by decide +kernel
theorem dX5_film_67 : decode cX5_film 67 = .ok (.invokevirtual 194, 3) := by decide +kernel
theorem dX5_film_70 : decode cX5_film 70 = .ok (.iconst 0, 1) := by decide +kernel
theorem dX5_film_71 : decode cX5_film 71 = .ok (.istore 5, 2) := by decide +kernel
theorem dX5_film_73 : decode cX5_film 73 = .ok (.iload 5, 2) := by decide +kernel
theorem dX5_film_75 : decode cX5_film 75 = .ok (.aload_n 0, 1) := by decide +kernel
theorem dX5_film_76 : decode cX5_film 76 = .ok (.getfield 7, 3) := by decide +kernel
theorem dX5_film_79 : decode cX5_film 79 = .ok (.iconst 5, 1) := by decide +kernel
theorem dX5_film_80 : decode cX5_film 80 = .ok (.iaload, 1) := by decide +kernel
theorem dX5_film_81 : decode cX5_film 81 = .ok (.if_icmp .ge 89, 3) := by decide +kernel
theorem dX5_film_84 : decode cX5_film 84 = .ok (.aload_n 0, 1) := by decide +kernel
theorem dX5_film_85 : decode cX5_film 85 = .ok (.getfield 70, 3) := by decide +kernel
theorem dX5_film_88 : decode cX5_film 88 = .ok (.bipush 16, 2) := by decide +kernel
theorem dX5_film_90 : decode cX5_film 90 = .ok (.iload_n 1, 1) := by decide +kernel
theorem dX5_film_91 : decode cX5_film 91 = .ok (.imul, 1) := by decide +kernel
theorem dX5_film_92 : decode cX5_film 92 = .ok (.iload_n 3, 1) := by decide +kernel
theorem dX5_film_93 : decode cX5_film 93 = .ok (.iadd, 1) := by decide +kernel
theorem dX5_film_94 : decode cX5_film 94 = .ok (.iconst 2, 1) := by decide +kernel
theorem dX5_film_95 : decode cX5_film 95 = .ok (.iload 5, 2) := by decide +kernel
theorem dX5_film_97 : decode cX5_film 97 = .ok (.imul, 1) := by decide +kernel
theorem dX5_film_98 : decode cX5_film 98 = .ok (.iadd, 1) := by decide +kernel
theorem dX5_film_99 : decode cX5_film 99 = .ok (.aload_n 0, 1) := by decide +kernel
theorem dX5_film_100 : decode cX5_film 100 = .ok (.getfield 37, 3) := by decide +kernel
theorem dX5_film_103 : decode cX5_film 103 = .ok (.iload 5, 2) := by decide +kernel
theorem dX5_film_105 : decode cX5_film 105 = .ok (.iaload, 1) := by decide +kernel
theorem dX5_film_106 : decode cX5_film 106 = .ok (.ifCond .ge 9, 3) := by decide +kernel
theorem dX5_film_109 : decode cX5_film 109 = .ok (.ldc2_w 208, 3) := by decide +kernel
theorem dX5_film_112 : decode cX5_film 112 = .ok (.goto 11, 3) := by decide +kernel
theorem dX5_film_115 : decode cX5_film 115 = .ok (.aload_n 0, 1) := by decide +kernel
theorem dX5_film_116 : decode cX5_film 116 = .ok (.getfield 37, 3) := by decide +kernel
theorem dX5_film_119 : decode cX5_film 119 = .ok (.iload 5, 2) := by decide +kernel
theorem dX5_film_121 : decode cX5_film 121 = .ok (.iaload, 1) := by decide +kernel
theorem dX5_film_122 : decode cX5_film 122 = .ok (.i2l, 1) := by decide +kernel
theorem dX5_film_123 : decode cX5_film 123 = .ok (.lastore, 1) := by decide +kernel
theorem dX5_film_124 : decode cX5_film 124 = .ok (.aload_n 0, 1) := by decide +kernel
theorem dX5_film_125 : decode cX5_film 125 = .ok (.getfield 70, 3) := by decide +kernel
theorem dX5_film_128 : decode cX5_film 128 = .ok (.bipush 16, 2) := by decide +kernel
theorem dX5_film_130 : decode cX5_film 130 = .ok (.iload_n 1, 1) := by decide +kernel
theorem dX5_film_131 : decode cX5_film 131 = .ok (.imul, 1) := by decide +kernel
theorem dX5_film_132 : decode cX5_film 132 = .ok (.iload_n 3, 1) := by decide +kernel
theorem dX5_film_133 : decode cX5_film 133 = .ok (.iadd, 1) := by decide +kernel
theorem dX5_film_134 : decode cX5_film 134 = .ok (.iconst 2, 1) := by decide +kernel
theorem dX5_film_135 : decode cX5_film 135 = .ok (.iload 5, 2) := by decide +kernel
theorem dX5_film_137 : decode cX5_film 137 = .ok (.imul, 1) := by decide +kernel
theorem dX5_film_138 : decode cX5_film 138 = .ok (.iadd, 1) := by decide +kernel
theorem dX5_film_139 : decode cX5_film 139 = .ok (.iconst 1, 1) := by decide +kernel
theorem dX5_film_140 : decode cX5_film 140 = .ok (.iadd, 1) := by decide +kernel
theorem dX5_film_141 : decode cX5_film 141 = .ok (.aload_n 0, 1) := by decide +kernel
theorem dX5_film_142 : decode cX5_film 142 = .ok (.getfield 37, 3) := by decide +kernel
theorem dX5_film_145 : decode cX5_film 145 = .ok (.iload 5, 2) := by decide +kernel
theorem dX5_film_147 : decode cX5_film 147 = .ok (.iaload, 1) := by decide +kernel
theorem dX5_film_148 : decode cX5_film 148 = .ok (.ifCond .ge 7, 3) := by decide +kernel
theorem dX5_film_151 : decode cX5_film 151 = .ok (.lconst 0, 1) := by decide +kernel
theorem dX5_film_152 : decode cX5_film 152 = .ok (.goto 11, 3) := by decide +kernel
theorem dX5_film_155 : decode cX5_film 155 = .ok (.aload_n 0, 1) := by decide +kernel
theorem dX5_film_156 : decode cX5_film 156 = .ok (.getfield 40, 3) := by decide +kernel
theorem dX5_film_159 : decode cX5_film 159 = .ok (.iload 5, 2) := by decide +kernel
theorem dX5_film_161 : decode cX5_film 161 = .ok (.iaload, 1) := by decide +kernel
theorem dX5_film_162 : decode cX5_film 162 = .ok (.i2l, 1) := by decide +kernel
theorem dX5_film_163 : decode cX5_film 163 = .ok (.lastore, 1) := by decide +kernel
theorem dX5_film_164 : decode cX5_film 164 = .ok (.iinc 5 1, 3) := by decide +kernel
theorem dX5_film_167 : decode cX5_film 167 = .ok (.goto (-94), 3) := by decide +kernel
theorem dX5_film_170 : decode cX5_film 170 = .ok (.iconst 2, 1) := by decide +kernel
theorem dX5_film_171 : decode cX5_film 171 = .ok (.aload_n 0, 1) := by decide +kernel
theorem dX5_film_172 : decode cX5_film 172 = .ok (.getfield 7, 3) := by decide +kernel
theorem dX5_film_175 : decode cX5_film 175 = .ok (.iconst 5, 1) := by decide +kernel
theorem dX5_film_176 : decode cX5_film 176 = .ok (.iaload, 1) := by decide +kernel
theorem dX5_film_177 : decode cX5_film 177 = .ok (.imul, 1) := by decide +kernel
theorem dX5_film_178 : decode cX5_film 178 = .ok (.ireturn, 1) := by decide +kernel
theorem dX5_sheet_0 : decode cX5_sheet 0 = .ok (.iload_n 1, 1) := by decide +kernel
theorem dX5_sheet_1 : decode cX5_sheet 1 = .ok (.invokestatic 225, 3) := by decide +kernel
theorem dX5_sheet_4 : decode cX5_sheet 4 = .ok (.ifCond .eq 21, 3) := by decide +kernel
theorem dX5_sheet_7 : decode cX5_sheet 7 = .ok (.iload_n 2, 1) := by decide +kernel
theorem dX5_sheet_8 : decode cX5_sheet 8 = .ok (.i2l, 1) := by decide +kernel
theorem dX5_sheet_9 : decode cX5_sheet 9 = .ok (.lconst 0, 1) := by decide +kernel
theorem dX5_sheet_10 : decode cX5_sheet 10 = .ok (.ldc2_w 197, 3) := by decide +kernel
theorem dX5_sheet_13 : decode cX5_sheet 13 = .ok (.invokestatic 77, 3) := by decide +kernel
theorem dX5_sheet_16 : decode cX5_sheet 16 = .ok (.ifCond .eq 9, 3) := by decide +kernel
theorem dX5_sheet_19 : decode cX5_sheet 19 = .ok (.iload_n 3, 1) := by decide +kernel
theorem dX5_sheet_20 : decode cX5_sheet 20 = .ok (.bipush 16, 2) := by decide +kernel
theorem dX5_sheet_22 : decode cX5_sheet 22 = .ok (.if_icmp .le 5, 3) := by decide +kernel
theorem dX5_sheet_25 : decode cX5_sheet 25 = .ok (.iconst (-1), 1) := by decide +kernel
theorem dX5_sheet_26 : decode cX5_sheet 26 = .ok (.ireturn, 1) := by decide +kernel
theorem dX5_sheet_27 : decode cX5_sheet 27 = .ok (.iload_n 3, 1) := by decide +kernel
theorem dX5_sheet_28 : decode cX5_sheet 28 = .ok (.ifCond .ge 6, 3) := by decide +kernel
theorem dX5_sheet_31 : decode cX5_sheet 31 = .ok (.bipush (-14), 2) := by decide +kernel
theorem dX5_sheet_33 : decode cX5_sheet 33 = .ok (.ireturn, 1) := by decide +kernel
theorem dX5_sheet_34 : decode cX5_sheet 34 = .ok (.aload_n 0, 1) := by decide +kernel
theorem dX5_sheet_35 : decode cX5_sheet 35 = .ok (.getfield 64, 3) := by decide +kernel
theorem dX5_sheet_38 : decode cX5_sheet 38 = .ok (.iload_n 1, 1) := by decide +kernel
theorem dX5_sheet_39 : decode cX5_sheet 39 = .ok (.iload_n 2, 1) := by decide +kernel
theorem dX5_sheet_40 : decode cX5_sheet 40 = .ok (.iastore, 1) := by decide +kernel
theorem dX5_sheet_41 : decode cX5_sheet 41 = .ok (.aload_n 0, 1) := by decide +kernel
theorem dX5_sheet_42 : decode cX5_sheet 42 = .ok (.getfield 67, 3) := by decide +kernel
theorem dX5_sheet_45 : decode cX5_sheet 45 = .ok (.iload_n 1, 1) := by decide +kernel
theorem dX5_sheet_46 : decode cX5_sheet 46 = .ok (.iload_n 3, 1) := by decide +kernel
theorem dX5_sheet_47 : decode cX5_sheet 47 = .ok (.iastore, 1) := by decide +kernel
theorem dX5_sheet_48 : decode cX5_sheet 48 = .ok (.iconst 0, 1) := by decide +kernel
theorem dX5_sheet_49 : decode cX5_sheet 49 = .ok (.istore 4, 2) := by decide +kernel
theorem dX5_sheet_51 : decode cX5_sheet 51 = .ok (.iload 4, 2) := by decide +kernel
theorem dX5_sheet_53 : decode cX5_sheet 53 = .ok (.bipush 16, 2) := by decide +kernel
theorem dX5_sheet_55 : decode cX5_sheet 55 = .ok (.if_icmp .ge 22, 3) := by decide +kernel
theorem dX5_sheet_58 : decode cX5_sheet 58 = .ok (.aload_n 0, 1) := by decide +kernel
theorem dX5_sheet_59 : decode cX5_sheet 59 = .ok (.getfield 70, 3) := by decide +kernel
theorem dX5_sheet_62 : decode cX5_sheet 62 = .ok (.bipush 16, 2) := by decide +kernel
theorem dX5_sheet_64 : decode cX5_sheet 64 = .ok (.iload_n 1, 1) := by decide +kernel
theorem dX5_sheet_65 : decode cX5_sheet 65 = .ok (.imul, 1) := by decide +kernel
theorem dX5_sheet_66 : decode cX5_sheet 66 = .ok (.iload 4, 2) := by decide +kernel
theorem dX5_sheet_68 : decode cX5_sheet 68 = .ok (.iadd, 1) := by decide +kernel
theorem dX5_sheet_69 : decode cX5_sheet 69 = .ok (.lconst 0, 1) := by decide +kernel
theorem dX5_sheet_70 : decode cX5_sheet 70 = .ok (.lastore, 1) := by decide +kernel
theorem dX5_sheet_71 : decode cX5_sheet 71 = .ok (.iinc 4 1, 3) := by decide +kernel
theorem dX5_sheet_74 : decode cX5_sheet 74 = .ok (.goto (-23), 3) := by decide +kernel
theorem dX5_sheet_77 : decode cX5_sheet 77 = .ok (.iload_n 3, 1) := by decide +kernel
theorem dX5_sheet_78 : decode cX5_sheet 78 = .ok (.ireturn, 1) := by decide +kernel
theorem dX5_drop_0 : decode cX5_drop 0 = .ok (.iload_n 1, 1) := by decide +kernel
theorem dX5_drop_1 : decode cX5_drop 1 = .ok (.invokestatic 225, 3) := by decide +kernel
theorem dX5_drop_4 : decode cX5_drop 4 = .ok (.ifCond .ne 5, 3) := by decide +kernel
theorem dX5_drop_7 : decode cX5_drop 7 = .ok (.iconst (-1), 1) := by decide +kernel
theorem dX5_drop_8 : decode cX5_drop 8 = .ok (.ireturn, 1) := by decide +kernel
theorem dX5_drop_9 : decode cX5_drop 9 = .ok (.aload_n 0, 1) := by decide +kernel
theorem dX5_drop_10 : decode cX5_drop 10 = .ok (.getfield 64, 3) := by decide +kernel
theorem dX5_drop_13 : decode cX5_drop 13 = .ok (.iload_n 1, 1) := by decide +kernel
theorem dX5_drop_14 : decode cX5_drop 14 = .ok (.iaload, 1) := by decide +kernel
theorem dX5_drop_15 : decode cX5_drop 15 = .ok (.ifCond .ge 6, 3) := by decide +kernel
theorem dX5_drop_18 : decode cX5_drop 18 = .ok (.bipush (-11), 2) := by decide +kernel
theorem dX5_drop_20 : decode cX5_drop 20 = .ok (.ireturn, 1) := by decide +kernel
theorem dX5_drop_21 : decode cX5_drop 21 = .ok (.aload_n 0, 1) := by decide +kernel
theorem dX5_drop_22 : decode cX5_drop 22 = .ok (.getfield 64, 3) := by decide +kernel
theorem dX5_drop_25 : decode cX5_drop 25 = .ok (.iload_n 1, 1) := by decide +kernel
theorem dX5_drop_26 : decode cX5_drop 26 = .ok (.iconst (-1), 1) := by decide +kernel
theorem dX5_drop_27 : decode cX5_drop 27 = .ok (.iastore, 1) := by decide +kernel
theorem dX5_drop_28 : decode cX5_drop 28 = .ok (.aload_n 0, 1) := by decide +kernel
theorem dX5_drop_29 : decode cX5_drop 29 = .ok (.getfield 67, 3) := by decide +kernel
theorem dX5_drop_32 : decode cX5_drop 32 = .ok (.iload_n 1, 1) := by decide +kernel
theorem dX5_drop_33 : decode cX5_drop 33 = .ok (.iaload, 1) := by decide +kernel
theorem dX5_drop_34 : decode cX5_drop 34 = .ok (.ireturn, 1) := by decide +kernel
theorem dX5_item_0 : decode cX5_item 0 = .ok (.iload_n 1, 1) := by decide +kernel
theorem dX5_item_1 : decode cX5_item 1 = .ok (.invokestatic 225, 3) := by decide +kernel
theorem dX5_item_4 : decode cX5_item 4 = .ok (.ifCond .eq 15, 3) := by decide +kernel
theorem dX5_item_7 : decode cX5_item 7 = .ok (.iload_n 2, 1) := by decide +kernel
theorem dX5_item_8 : decode cX5_item 8 = .ok (.i2l, 1) := by decide +kernel
theorem dX5_item_9 : decode cX5_item 9 = .ok (.lconst 0, 1) := by decide +kernel
theorem dX5_item_10 : decode cX5_item 10 = .ok (.ldc2_w 197, 3) := by decide +kernel
theorem dX5_item_13 : decode cX5_item 13 = .ok (.invokestatic 77, 3) := by decide +kernel
theorem dX5_item_16 : decode cX5_item 16 = .ok (.ifCond .ne 5, 3) := by decide +kernel
theorem dX5_item_19 : decode cX5_item 19 = .ok (.iconst (-1), 1) := by decide +kernel
theorem dX5_item_20 : decode cX5_item 20 = .ok (.ireturn, 1) := by decide +kernel
theorem dX5_item_21 : decode cX5_item 21 = .ok (.aload_n 0, 1) := by decide +kernel
theorem dX5_item_22 : decode cX5_item 22 = .ok (.iload_n 1, 1) := by decide +kernel
theorem dX5_item_23 : decode cX5_item 23 = .ok (.iload_n 2, 1) := by decide +kernel
theorem dX5_item_24 : decode cX5_item 24 = .ok (.iload_n 3, 1) := by decide +kernel
theorem dX5_item_25 : decode cX5_item 25 = .ok (.iconst 1, 1) := by decide +kernel
theorem dX5_item_26 : decode cX5_item 26 = .ok (.invokevirtual 228, 3) := by decide +kernel
theorem dX5_item_29 : decode cX5_item 29 = .ok (.istore 6, 2) := by decide +kernel
theorem dX5_item_31 : decode cX5_item 31 = .ok (.iload 6, 2) := by decide +kernel
theorem dX5_item_33 : decode cX5_item 33 = .ok (.ifCond .eq 6, 3) := by decide +kernel
theorem dX5_item_36 : decode cX5_item 36 = .ok (.iload 6, 2) := by decide +kernel
theorem dX5_item_38 : decode cX5_item 38 = .ok (.ireturn, 1) := by decide +kernel
theorem dX5_item_39 : decode cX5_item 39 = .ok (.aload_n 0, 1) := by decide +kernel
theorem dX5_item_40 : decode cX5_item 40 = .ok (.getfield 70, 3) := by decide +kernel
theorem dX5_item_43 : decode cX5_item 43 = .ok (.bipush 16, 2) := by decide +kernel
theorem dX5_item_45 : decode cX5_item 45 = .ok (.iload_n 1, 1) := by decide +kernel
theorem dX5_item_46 : decode cX5_item 46 = .ok (.imul, 1) := by decide +kernel
theorem dX5_item_47 : decode cX5_item 47 = .ok (.iload_n 3, 1) := by decide +kernel
theorem dX5_item_48 : decode cX5_item 48 = .ok (.iadd, 1) := by decide +kernel
theorem dX5_item_49 : decode cX5_item 49 = .ok (.iload_n 2, 1) := by decide +kernel
theorem dX5_item_50 : decode cX5_item 50 = .ok (.lload 4, 2) := by decide +kernel
theorem dX5_item_52 : decode cX5_item 52 = .ok (.invokestatic 234, 3) := by decide +kernel
theorem dX5_item_55 : decode cX5_item 55 = .ok (.lastore, 1) := by decide +kernel
theorem dX5_item_56 : decode cX5_item 56 = .ok (.iconst 1, 1) := by decide +kernel
theorem dX5_item_57 : decode cX5_item 57 = .ok (.ireturn, 1) := by decide +kernel
theorem dX5_copy_0 : decode cX5_copy 0 = .ok (.iload_n 1, 1) := by decide +kernel
theorem dX5_copy_1 : decode cX5_copy 1 = .ok (.invokestatic 225, 3) := by decide +kernel
theorem dX5_copy_4 : decode cX5_copy 4 = .ok (.ifCond .eq 10, 3) := by decide +kernel
theorem dX5_copy_7 : decode cX5_copy 7 = .ok (.iload_n 3, 1) := by decide +kernel
theorem dX5_copy_8 : decode cX5_copy 8 = .ok (.invokestatic 225, 3) := by decide +kernel
theorem dX5_copy_11 : decode cX5_copy 11 = .ok (.ifCond .ne 5, 3) := by decide +kernel
theorem dX5_copy_14 : decode cX5_copy 14 = .ok (.iconst (-1), 1) := by decide +kernel
theorem dX5_copy_15 : decode cX5_copy 15 = .ok (.ireturn, 1) := by decide +kernel
theorem dX5_copy_16 : decode cX5_copy 16 = .ok (.aload_n 0, 1) := by decide +kernel
theorem dX5_copy_17 : decode cX5_copy 17 = .ok (.getfield 64, 3) := by decide +kernel
theorem dX5_copy_20 : decode cX5_copy 20 = .ok (.iload_n 1, 1) := by decide +kernel
theorem dX5_copy_21 : decode cX5_copy 21 = .ok (.iaload, 1) := by decide +kernel
theorem dX5_copy_22 : decode cX5_copy 22 = .ok (.ifCond .lt 12, 3) := by decide +kernel
theorem dX5_copy_25 : decode cX5_copy 25 = .ok (.aload_n 0, 1) := by decide +kernel
theorem dX5_copy_26 : decode cX5_copy 26 = .ok (.getfield 64, 3) := by decide +kernel
theorem dX5_copy_29 : decode cX5_copy 29 = .ok (.iload_n 3, 1) := by decide +kernel
theorem dX5_copy_30 : decode cX5_copy 30 = .ok (.iaload, 1) := by decide +kernel
theorem dX5_copy_31 : decode cX5_copy 31 = .ok (.ifCond .ge 6, 3) := by decide +kernel
theorem dX5_copy_34 : decode cX5_copy 34 = .ok (.bipush (-11), 2) := by decide +kernel
theorem dX5_copy_36 : decode cX5_copy 36 = .ok (.ireturn, 1) := by decide +kernel
theorem dX5_copy_37 : decode cX5_copy 37 = .ok (.aload_n 0, 1) := by decide +kernel
theorem dX5_copy_38 : decode cX5_copy 38 = .ok (.iload_n 1, 1) := by decide +kernel
theorem dX5_copy_39 : decode cX5_copy 39 = .ok (.aload_n 0, 1) := by decide +kernel
theorem dX5_copy_40 : decode cX5_copy 40 = .ok (.getfield 64, 3) := by decide +kernel
theorem dX5_copy_43 : decode cX5_copy 43 = .ok (.iload_n 3, 1) := by decide +kernel
theorem dX5_copy_44 : decode cX5_copy 44 = .ok (.iaload, 1) := by decide +kernel
theorem dX5_copy_45 : decode cX5_copy 45 = .ok (.iload_n 2, 1) := by decide +kernel
theorem dX5_copy_46 : decode cX5_copy 46 = .ok (.iload 5, 2) := by decide +kernel
theorem dX5_copy_48 : decode cX5_copy 48 = .ok (.invokevirtual 228, 3) := by decide +kernel
theorem dX5_copy_51 : decode cX5_copy 51 = .ok (.istore 6, 2) := by decide +kernel
theorem dX5_copy_53 : decode cX5_copy 53 = .ok (.iload 6, 2) := by decide +kernel
theorem dX5_copy_55 : decode cX5_copy 55 = .ok (.ifCond .ne 21, 3) := by decide +kernel
theorem dX5_copy_58 : decode cX5_copy 58 = .ok (.aload_n 0, 1) := by decide +kernel
theorem dX5_copy_59 : decode cX5_copy 59 = .ok (.iload_n 3, 1) := by decide +kernel
theorem dX5_copy_60 : decode cX5_copy 60 = .ok (.aload_n 0, 1) := by decide +kernel
theorem dX5_copy_61 : decode cX5_copy 61 = .ok (.getfield 64, 3) := by decide +kernel
theorem dX5_copy_64 : decode cX5_copy 64 = .ok (.iload_n 1, 1) := by decide +kernel
theorem dX5_copy_65 : decode cX5_copy 65 = .ok (.iaload, 1) := by decide +kernel
theorem dX5_copy_66 : decode cX5_copy 66 = .ok (.iload 4, 2) := by decide +kernel
theorem dX5_copy_68 : decode cX5_copy 68 = .ok (.iload 5, 2) := by decide +kernel
theorem dX5_copy_70 : decode cX5_copy 70 = .ok (.invokevirtual 228, 3) := by decide +kernel
theorem dX5_copy_73 : decode cX5_copy 73 = .ok (.goto 5, 3) := by decide +kernel
theorem dX5_copy_76 : decode cX5_copy 76 = .ok (.iload 6, 2) := by decide +kernel
theorem dX5_copy_78 : decode cX5_copy 78 = .ok (.istore 6, 2) := by decide +kernel
theorem dX5_copy_80 : decode cX5_copy 80 = .ok (.iload 6, 2) := by decide +kernel
theorem dX5_copy_82 : decode cX5_copy 82 = .ok (.ifCond .eq 6, 3) := by decide +kernel
theorem dX5_copy_85 : decode cX5_copy 85 = .ok (.iload 6, 2) := by decide +kernel
theorem dX5_copy_87 : decode cX5_copy 87 = .ok (.ireturn, 1) := by decide +kernel
theorem dX5_copy_88 : decode cX5_copy 88 = .ok (.iconst 0, 1) := by decide +kernel
theorem dX5_copy_89 : decode cX5_copy 89 = .ok (.istore 7, 2) := by decide +kernel
theorem dX5_copy_91 : decode cX5_copy 91 = .ok (.iload 7, 2) := by decide +kernel
theorem dX5_copy_93 : decode cX5_copy 93 = .ok (.iload 5, 2) := by decide +kernel
theorem dX5_copy_95 : decode cX5_copy 95 = .ok (.if_icmp .ge 30, 3) := by decide +kernel
theorem dX5_copy_98 : decode cX5_copy 98 = .ok (.aload_n 0, 1) := by decide +kernel
theorem dX5_copy_99 : decode cX5_copy 99 = .ok (.getfield 74, 3) := by decide +kernel
theorem dX5_copy_102 : decode cX5_copy 102 = .ok (.iload 7, 2) := by decide +kernel
theorem dX5_copy_104 : decode cX5_copy 104 = .ok (.aload_n 0, 1) := by decide +kernel
theorem dX5_copy_105 : decode cX5_copy 105 = .ok (.getfield 70, 3) := by decide +kernel
theorem dX5_copy_108 : decode cX5_copy 108 = .ok (.bipush 16, 2) := by decide +kernel
theorem dX5_copy_110 : decode cX5_copy 110 = .ok (.iload_n 1, 1) := by decide +kernel
theorem dX5_copy_111 : decode cX5_copy 111 = .ok (.imul, 1) := by decide +kernel
theorem dX5_copy_112 : decode cX5_copy 112 = .ok (.iload_n 2, 1) := by decide +kernel
theorem dX5_copy_113 : decode cX5_copy 113 = .ok (.iadd, 1) := by decide +kernel
theorem dX5_copy_114 : decode cX5_copy 114 = .ok (.iload 7, 2) := by decide +kernel
theorem dX5_copy_116 : decode cX5_copy 116 = .ok (.iadd, 1) := by decide +kernel
theorem dX5_copy_117 : decode cX5_copy 117 = .ok (.laload, 1) := by decide +kernel
theorem dX5_copy_118 : decode cX5_copy 118 = .ok (.lastore, 1) := by decide +kernel
theorem dX5_copy_119 : decode cX5_copy 119 = .ok (.iinc 7 1, 3) := by decide +kernel
theorem dX5_copy_122 : decode cX5_copy 122 = .ok (.goto (-31), 3) := by decide +kernel
theorem dX5_copy_125 : decode cX5_copy 125 = .ok (.iconst 0, 1) := by decide +kernel
theorem dX5_copy_126 : decode cX5_copy 126 = .ok (.istore 7, 2) := by decide +kernel
theorem dX5_copy_128 : decode cX5_copy 128 = .ok (.iload 7, 2) := by decide +kernel
theorem dX5_copy_130 : decode cX5_copy 130 = .ok (.iload 5, 2) := by decide +kernel
theorem dX5_copy_132 : decode cX5_copy 132 = .ok (.if_icmp .ge 31, 3) := by decide +kernel
theorem dX5_copy_135 : decode cX5_copy 135 = .ok (.aload_n 0, 1) := by decide +kernel
theorem dX5_copy_136 : decode cX5_copy 136 = .ok (.getfield 70, 3) := by decide +kernel
theorem dX5_copy_139 : decode cX5_copy 139 = .ok (.bipush 16, 2) := by decide +kernel
theorem dX5_copy_141 : decode cX5_copy 141 = .ok (.iload_n 3, 1) := by decide +kernel
theorem dX5_copy_142 : decode cX5_copy 142 = .ok (.imul, 1) := by decide +kernel
theorem dX5_copy_143 : decode cX5_copy 143 = .ok (.iload 4, 2) := by decide +kernel
theorem dX5_copy_145 : decode cX5_copy 145 = .ok (.iadd, 1) := by decide +kernel
theorem dX5_copy_146 : decode cX5_copy 146 = .ok (.iload 7, 2) := by decide +kernel
theorem dX5_copy_148 : decode cX5_copy 148 = .ok (.iadd, 1) := by decide +kernel
theorem dX5_copy_149 : decode cX5_copy 149 = .ok (.aload_n 0, 1) := by decide +kernel
theorem dX5_copy_150 : decode cX5_copy 150 = .ok (.getfield 74, 3) := by decide +kernel
theorem dX5_copy_153 : decode cX5_copy 153 = .ok (.iload 7, 2) := by decide +kernel
theorem dX5_copy_155 : decode cX5_copy 155 = .ok (.laload, 1) := by decide +kernel
theorem dX5_copy_156 : decode cX5_copy 156 = .ok (.lastore, 1) := by decide +kernel
theorem dX5_copy_157 : decode cX5_copy 157 = .ok (.iinc 7 1, 3) := by decide +kernel
theorem dX5_copy_160 : decode cX5_copy 160 = .ok (.goto (-32), 3) := by decide +kernel
theorem dX5_copy_163 : decode cX5_copy 163 = .ok (.iload 5, 2) := by decide +kernel
theorem dX5_copy_165 : decode cX5_copy 165 = .ok (.ireturn, 1) := by decide +kernel

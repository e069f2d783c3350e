theorem dX5_lot_0 : decode cX5_lot 0 = .ok (.iload_n 1, 1) := by decide +kernel
theorem dX5_lot_1 : decode cX5_lot 1 = .ok (.i2l, 1) := by decide +kernel
theorem dX5_lot_2 : decode cX5_lot 2 = .ok (.lconst 0, 1) := by decide +kernel
theorem dX5_lot_3 : decode cX5_lot 3 = .ok (.aload_n 0, 1) := by decide +kernel
theorem dX5_lot_4 : decode cX5_lot 4 = .ok (.getfield 7, 3) := by decide +kernel
theorem dX5_lot_7 : decode cX5_lot 7 = .ok (.iconst 5, 1) := by decide +kernel
theorem dX5_lot_8 : decode cX5_lot 8 = .ok (.iaload, 1) := by decide +kernel
theorem dX5_lot_9 : decode cX5_lot 9 = .ok (.iconst 1, 1) := by decide +kernel
theorem dX5_lot_10 : decode cX5_lot 10 = .ok (.isub, 1) := by decide +kernel
theorem dX5_lot_11 : decode cX5_lot 11 = .ok (.i2l, 1) := by decide +kernel
theorem dX5_lot_12 : decode cX5_lot 12 = .ok (.invokestatic 77, 3) := by decide +kernel
theorem dX5_lot_15 : decode cX5_lot 15 = .ok (.ifCond .eq 15, 3) := by decide +kernel
theorem dX5_lot_18 : decode cX5_lot 18 = .ok (.iload_n 2, 1) := by decide +kernel
theorem dX5_lot_19 : decode cX5_lot 19 = .ok (.i2l, 1) := by decide +kernel
theorem dX5_lot_20 : decode cX5_lot 20 = .ok (.lconst 0, 1) := by decide +kernel
theorem dX5_lot_21 : decode cX5_lot 21 = .ok (.ldc2_w 81, 3) := by decide +kernel
theorem dX5_lot_24 : decode cX5_lot 24 = .ok (.invokestatic 77, 3) := by decide +kernel
theorem dX5_lot_27 : decode cX5_lot 27 = .ok (.ifCond .ne 5, 3) := by decide +kernel
theorem dX5_lot_30 : decode cX5_lot 30 = .ok (.iconst (-1), 1) := by decide +kernel
theorem dX5_lot_31 : decode cX5_lot 31 = .ok (.ireturn, 1) := by decide +kernel
theorem dX5_lot_32 : decode cX5_lot 32 = .ok (.aload_n 0, 1) := by decide +kernel
theorem dX5_lot_33 : decode cX5_lot 33 = .ok (.iconst 0, 1) := by decide +kernel
theorem dX5_lot_34 : decode cX5_lot 34 = .ok (.invokevirtual 194, 3) := by decide +kernel
theorem dX5_lot_37 : decode cX5_lot 37 = .ok (.iload_n 2, 1) := by decide +kernel
theorem dX5_lot_38 : decode cX5_lot 38 = .ok (.ifCond .ne 15, 3) := by decide +kernel
theorem dX5_lot_41 : decode cX5_lot 41 = .ok (.aload_n 0, 1) := by decide +kernel
theorem dX5_lot_42 : decode cX5_lot 42 = .ok (.getfield 7, 3) := by decide +kernel
theorem dX5_lot_45 : decode cX5_lot 45 = .ok (.bipush 6, 2) := by decide +kernel
theorem dX5_lot_47 : decode cX5_lot 47 = .ok (.iload_n 1, 1) := by decide +kernel
theorem dX5_lot_48 : decode cX5_lot 48 = .ok (.iadd, 1) := by decide +kernel
theorem dX5_lot_49 : decode cX5_lot 49 = .ok (.iaload, 1) := by decide +kernel
theorem dX5_lot_50 : decode cX5_lot 50 = .ok (.goto 51, 3) := by decide +kernel
theorem dX5_lot_53 : decode cX5_lot 53 = .ok (.iload_n 2, 1) := by decide +kernel
theorem dX5_lot_54 : decode cX5_lot 54 = .ok (.iconst 1, 1) := by decide +kernel
theorem dX5_lot_55 : decode cX5_lot 55 = .ok (.if_icmp .ne 12, 3) := by decide +kernel
theorem dX5_lot_58 : decode cX5_lot 58 = .ok (.aload_n 0, 1) := by decide +kernel
theorem dX5_lot_59 : decode cX5_lot 59 = .ok (.getfield 37, 3) := by decide +kernel
theorem dX5_lot_62 : decode cX5_lot 62 = .ok (.iload_n 1, 1) := by decide +kernel
theorem dX5_lot_63 : decode cX5_lot 63 = .ok (.iaload, 1) := by decide +kernel
theorem dX5_lot_64 : decode cX5_lot 64 = .ok (.goto 37, 3) := by decide +kernel
theorem dX5_lot_67 : decode cX5_lot 67 = .ok (.iload_n 2, 1) := by decide +kernel
theorem dX5_lot_68 : decode cX5_lot 68 = .ok (.iconst 2, 1) := by decide +kernel
theorem dX5_lot_69 : decode cX5_lot 69 = .ok (.if_icmp .ne 12, 3) := by decide +kernel
theorem dX5_lot_72 : decode cX5_lot 72 = .ok (.aload_n 0, 1) := by decide +kernel
theorem dX5_lot_73 : decode cX5_lot 73 = .ok (.getfield 40, 3) := by decide +kernel
theorem dX5_lot_76 : decode cX5_lot 76 = .ok (.iload_n 1, 1) := by decide +kernel
theorem dX5_lot_77 : decode cX5_lot 77 = .ok (.iaload, 1) := by decide +kernel
theorem dX5_lot_78 : decode cX5_lot 78 = .ok (.goto 23, 3) := by decide +kernel
theorem dX5_lot_81 : decode cX5_lot 81 = .ok (.iload_n 2, 1) := by decide +kernel
theorem dX5_lot_82 : decode cX5_lot 82 = .ok (.iconst 3, 1) := by decide +kernel
theorem dX5_lot_83 : decode cX5_lot 83 = .ok (.if_icmp .ne 12, 3) := by decide +kernel
theorem dX5_lot_86 : decode cX5_lot 86 = .ok (.aload_n 0, 1) := by decide +kernel
theorem dX5_lot_87 : decode cX5_lot 87 = .ok (.getfield 43, 3) := by decide +kernel
theorem dX5_lot_90 : decode cX5_lot 90 = .ok (.iload_n 1, 1) := by decide +kernel
theorem dX5_lot_91 : decode cX5_lot 91 = .ok (.iaload, 1) := by decide +kernel
theorem dX5_lot_92 : decode cX5_lot 92 = .ok (.goto 9, 3) := by decide +kernel
theorem dX5_lot_95 : decode cX5_lot 95 = .ok (.aload_n 0, 1) := by decide +kernel
theorem dX5_lot_96 : decode cX5_lot 96 = .ok (.getfield 46, 3) := by decide +kernel
theorem dX5_lot_99 : decode cX5_lot 99 = .ok (.iload_n 1, 1) := by decide +kernel
theorem dX5_lot_100 : decode cX5_lot 100 = .ok (.iaload, 1) := by decide +kernel
theorem dX5_lot_101 : decode cX5_lot 101 = .ok (.ireturn, 1) := by decide +kernel
theorem dX5_gain_0 : decode cX5_gain 0 = .ok (.aload_n 0, 1) := by decide +kernel
theorem dX5_gain_1 : decode cX5_gain 1 = .ok (.iload_n 1, 1) := by decide +kernel
theorem dX5_gain_2 : decode cX5_gain 2 = .ok (.invokevirtual 92, 3) := by decide +kernel
theorem dX5_gain_5 : decode cX5_gain 5 = .ok (.ifCond .ne 6, 3) := by decide +kernel
theorem dX5_gain_8 : decode cX5_gain 8 = .ok (.ldc 104, 2) := by decide +kernel
theorem dX5_gain_10 : decode cX5_gain 10 = .ok (.ireturn, 1) := by decide +kernel
theorem dX5_gain_11 : decode cX5_gain 11 = .ok (.aload_n 0, 1) := by decide +kernel
theorem dX5_gain_12 : decode cX5_gain 12 = .ok (.iconst 0, 1) := by decide +kernel
theorem dX5_gain_13 : decode cX5_gain 13 = .ok (.invokevirtual 194, 3) := by decide +kernel
theorem dX5_gain_16 : decode cX5_gain 16 = .ok (.aload_n 0, 1) := by decide +kernel
theorem dX5_gain_17 : decode cX5_gain 17 = .ok (.getfield 34, 3) := by decide +kernel
theorem dX5_gain_20 : decode cX5_gain 20 = .ok (.iload_n 1, 1) := by decide +kernel
theorem dX5_gain_21 : decode cX5_gain 21 = .ok (.iaload, 1) := by decide +kernel
theorem dX5_gain_22 : decode cX5_gain 22 = .ok (.ireturn, 1) := by decide +kernel
theorem dX5_rise_0 : decode cX5_rise 0 = .ok (.aload_n 0, 1) := by decide +kernel
theorem dX5_rise_1 : decode cX5_rise 1 = .ok (.getfield 7, 3) := by decide +kernel
theorem dX5_rise_4 : decode cX5_rise 4 = .ok (.iconst 2, 1) := by decide +kernel
theorem dX5_rise_5 : decode cX5_rise 5 = .ok (.iaload, 1) := by decide +kernel
theorem dX5_rise_6 : decode cX5_rise 6 = .ok (.istore_n 2, 1) := by decide +kernel
theorem dX5_rise_7 : decode cX5_rise 7 = .ok (.iconst (-1), 1) := by decide +kernel
theorem dX5_rise_8 : decode cX5_rise 8 = .ok (.istore_n 3, 1) := by decide +kernel
theorem dX5_rise_9 : decode cX5_rise 9 = .ok (.iconst (-1), 1) := by decide +kernel
theorem dX5_rise_10 : decode cX5_rise 10 = .ok (.istore 4, 2) := by decide +kernel
theorem dX5_rise_12 : decode cX5_rise 12 = .ok (.iconst 0, 1) := by decide +kernel
theorem dX5_rise_13 : decode cX5_rise 13 = .ok (.istore 5, 2) := by decide +kernel
theorem dX5_rise_15 : decode cX5_rise 15 = .ok (.iload 5, 2) := by decide +kernel
theorem dX5_rise_17 : decode cX5_rise 17 = .ok (.aload_n 0, 1) := by decide +kernel
theorem dX5_rise_18 : decode cX5_rise 18 = .ok (.getfield 7, 3) := by decide +kernel
theorem dX5_rise_21 : decode cX5_rise 21 = .ok (.bipush 12, 2) := by decide +kernel
theorem dX5_rise_23 : decode cX5_rise 23 = .ok (.iaload, 1) := by decide +kernel
theorem dX5_rise_24 : decode cX5_rise 24 = .ok (.if_icmp .ge 115, 3) := by decide +kernel
theorem dX5_rise_27 : decode cX5_rise 27 = .ok (.aload_n 0, 1) := by decide +kernel
theorem dX5_rise_28 : decode cX5_rise 28 = .ok (.getfield 31, 3) := by decide +kernel
theorem dX5_rise_31 : decode cX5_rise 31 = .ok (.iload 5, 2) := by decide +kernel
theorem dX5_rise_33 : decode cX5_rise 33 = .ok (.iaload, 1) := by decide +kernel
theorem dX5_rise_34 : decode cX5_rise 34 = .ok (.ifCond .le 99, 3) := by decide +kernel
theorem dX5_rise_37 : decode cX5_rise 37 = .ok (.aload_n 0, 1) := by decide +kernel
theorem dX5_rise_38 : decode cX5_rise 38 = .ok (.iload 5, 2) := by decide +kernel
theorem dX5_rise_40 : decode cX5_rise 40 = .ok (.invokevirtual 163, 3) := by decide +kernel
theorem dX5_rise_43 : decode cX5_rise 43 = .ok (.iload_n 2, 1) := by decide +kernel
theorem dX5_rise_44 : decode cX5_rise 44 = .ok (.if_icmp .lt 89, 3) := by decide +kernel
theorem dX5_rise_47 : decode cX5_rise 47 = .ok (.aload_n 0, 1) := by decide +kernel
theorem dX5_rise_48 : decode cX5_rise 48 = .ok (.iload 5, 2) := by decide +kernel
theorem dX5_rise_50 : decode cX5_rise 50 = .ok (.iload_n 1, 1) := by decide +kernel
theorem dX5_rise_51 : decode cX5_rise 51 = .ok (.invokevirtual 150, 3) := by decide +kernel
theorem dX5_rise_54 : decode cX5_rise 54 = .ok (.iload_n 2, 1) := by decide +kernel
theorem dX5_rise_55 : decode cX5_rise 55 = .ok (.if_icmp .lt 78, 3) := by decide +kernel
theorem dX5_rise_58 : decode cX5_rise 58 = .ok (.iload_n 3, 1) := by decide +kernel
theorem dX5_rise_59 : decode cX5_rise 59 = .ok (.ifCond .lt 19, 3) := by decide +kernel
theorem dX5_rise_62 : decode cX5_rise 62 = .ok (.aload_n 0, 1) := by decide +kernel
theorem dX5_rise_63 : decode cX5_rise 63 = .ok (.iload 5, 2) := by decide +kernel
theorem dX5_rise_65 : decode cX5_rise 65 = .ok (.iload_n 1, 1) := by decide +kernel
theorem dX5_rise_66 : decode cX5_rise 66 = .ok (.invokevirtual 150, 3) := by decide +kernel
theorem dX5_rise_69 : decode cX5_rise 69 = .ok (.aload_n 0, 1) := by decide +kernel
theorem dX5_rise_70 : decode cX5_rise 70 = .ok (.iload_n 3, 1) := by decide +kernel
theorem dX5_rise_71 : decode cX5_rise 71 = .ok (.iload_n 1, 1) := by decide +kernel
theorem dX5_rise_72 : decode cX5_rise 72 = .ok (.invokevirtual 150, 3) := by decide +kernel
theorem dX5_rise_75 : decode cX5_rise 75 = .ok (.if_icmp .le 7, 3) := by decide +kernel
theorem dX5_rise_78 : decode cX5_rise 78 = .ok (.iconst 1, 1) := by decide +kernel
theorem dX5_rise_79 : decode cX5_rise 79 = .ok (.goto 4, 3) := by decide +kernel
theorem dX5_rise_82 : decode cX5_rise 82 = .ok (.iconst 0, 1) := by decide +kernel
theorem dX5_rise_83 : decode cX5_rise 83 = .ok (.istore 6, 2) := by decide +kernel
theorem dX5_rise_85 : decode cX5_rise 85 = .ok (.iload 6, 2) := by decide +kernel
theorem dX5_rise_87 : decode cX5_rise 87 = .ok (.ifCond .eq 20, 3) := by decide +kernel
theorem dX5_rise_90 : decode cX5_rise 90 = .ok (.iload_n 3, 1) := by decide +kernel
theorem dX5_rise_91 : decode cX5_rise 91 = .ok (.ifCond .ge 7, 3) := by decide +kernel
theorem dX5_rise_94 : decode cX5_rise 94 = .ok (.iconst (-1), 1) := by decide +kernel
theorem dX5_rise_95 : decode cX5_rise 95 = .ok (.goto 24, 3) := by decide +kernel
theorem dX5_rise_98 : decode cX5_rise 98 = .ok (.aload_n 0, 1) := by decide +kernel
theorem dX5_rise_99 : decode cX5_rise 99 = .ok (.iload_n 3, 1) := by decide +kernel
theorem dX5_rise_100 : decode cX5_rise 100 = .ok (.iload_n 1, 1) := by decide +kernel
theorem dX5_rise_101 : decode cX5_rise 101 = .ok (.invokevirtual 150, 3) := by decide +kernel
theorem dX5_rise_104 : decode cX5_rise 104 = .ok (.goto 15, 3) := by decide +kernel
theorem dX5_rise_107 : decode cX5_rise 107 = .ok (.iload 4, 2) := by decide +kernel
theorem dX5_rise_109 : decode cX5_rise 109 = .ok (.aload_n 0, 1) := by decide +kernel
theorem dX5_rise_110 : decode cX5_rise 110 = .ok (.iload 5, 2) := by decide +kernel
theorem dX5_rise_112 : decode cX5_rise 112 = .ok (.iload_n 1, 1) := by decide +kernel
theorem dX5_rise_113 : decode cX5_rise 113 = .ok (.invokevirtual 150, 3) := by decide +kernel
theorem dX5_rise_116 : decode cX5_rise 116 = .ok (.invokestatic 169, 3) := by decide +kernel
theorem dX5_rise_119 : decode cX5_rise 119 = .ok (.istore 4, 2) := by decide +kernel
theorem dX5_rise_121 : decode cX5_rise 121 = .ok (.iload 6, 2) := by decide +kernel
theorem dX5_rise_123 : decode cX5_rise 123 = .ok (.ifCond .eq 8, 3) := by decide +kernel
theorem dX5_rise_126 : decode cX5_rise 126 = .ok (.iload 5, 2) := by decide +kernel
theorem dX5_rise_128 : decode cX5_rise 128 = .ok (.goto 4, 3) := by decide +kernel
theorem dX5_rise_131 : decode cX5_rise 131 = .ok (.iload_n 3, 1) := by decide +kernel
theorem dX5_rise_132 : decode cX5_rise 132 = .ok (.istore_n 3, 1) := by decide +kernel
theorem dX5_rise_133 : decode cX5_rise 133 = .ok (.iinc 5 1, 3) := by decide +kernel
theorem dX5_rise_136 : decode cX5_rise 136 = .ok (.goto (-121), 3) := by decide +kernel
theorem dX5_rise_139 : decode cX5_rise 139 = .ok (.iload_n 3, 1) := by decide +kernel
theorem dX5_rise_140 : decode cX5_rise 140 = .ok (.ifCond .lt 47, 3) := by decide +kernel
theorem dX5_rise_143 : decode cX5_rise 143 = .ok (.iload 4, 2) := by decide +kernel
theorem dX5_rise_145 : decode cX5_rise 145 = .ok (.ifCond .ge 7, 3) := by decide +kernel
theorem dX5_rise_148 : decode cX5_rise 148 = .ok (.iload_n 2, 1) := by decide +kernel
theorem dX5_rise_149 : decode cX5_rise 149 = .ok (.goto 28, 3) := by decide +kernel
theorem dX5_rise_152 : decode cX5_rise 152 = .ok (.iload 4, 2) := by decide +kernel
theorem dX5_rise_154 : decode cX5_rise 154 = .ok (.iconst 1, 1) := by decide +kernel
theorem dX5_rise_155 : decode cX5_rise 155 = .ok (.iadd, 1) := by decide +kernel
theorem dX5_rise_156 : decode cX5_rise 156 = .ok (.iload_n 2, 1) := by decide +kernel
theorem dX5_rise_157 : decode cX5_rise 157 = .ok (.invokestatic 169, 3) := by decide +kernel
theorem dX5_rise_160 : decode cX5_rise 160 = .ok (.aload_n 0, 1) := by decide +kernel
theorem dX5_rise_161 : decode cX5_rise 161 = .ok (.iload_n 3, 1) := by decide +kernel
theorem dX5_rise_162 : decode cX5_rise 162 = .ok (.iload_n 1, 1) := by decide +kernel
theorem dX5_rise_163 : decode cX5_rise 163 = .ok (.invokevirtual 150, 3) := by decide +kernel
theorem dX5_rise_166 : decode cX5_rise 166 = .ok (.aload_n 0, 1) := by decide +kernel
theorem dX5_rise_167 : decode cX5_rise 167 = .ok (.iload_n 3, 1) := by decide +kernel
theorem dX5_rise_168 : decode cX5_rise 168 = .ok (.invokevirtual 163, 3) := by decide +kernel
theorem dX5_rise_171 : decode cX5_rise 171 = .ok (.invokestatic 132, 3) := by decide +kernel
theorem dX5_rise_174 : decode cX5_rise 174 = .ok (.invokestatic 132, 3) := by decide +kernel
theorem dX5_rise_177 : decode cX5_rise 177 = .ok (.istore 5, 2) := by decide +kernel
theorem dX5_rise_179 : decode cX5_rise 179 = .ok (.aload_n 0, 1) := by decide +kernel
theorem dX5_rise_180 : decode cX5_rise 180 = .ok (.iload_n 3, 1) := by decide +kernel
theorem dX5_rise_181 : decode cX5_rise 181 = .ok (.iload_n 1, 1) := by decide +kernel
theorem dX5_rise_182 : decode cX5_rise 182 = .ok (.iload 5, 2) := by decide +kernel
theorem dX5_rise_184 : decode cX5_rise 184 = .ok (.invokevirtual 180, 3) := by decide +kernel
theorem dX5_rise_187 : decode cX5_rise 187 = .ok (.return_, 1) := by decide +kernel
theorem dX5_open_0 : decode cX5_open 0 = .ok (.iconst (-1), 1) := by decide +kernel
theorem dX5_open_1 : decode cX5_open 1 = .ok (.istore_n 2, 1) := by decide +kernel
theorem dX5_open_2 : decode cX5_open 2 = .ok (.iconst (-1), 1) := by decide +kernel
theorem dX5_open_3 : decode cX5_open 3 = .ok (.istore_n 3, 1) := by decide +kernel
theorem dX5_open_4 : decode cX5_open 4 = .ok (.iconst 0, 1) := by decide +kernel
theorem dX5_open_5 : decode cX5_open 5 = .ok (.istore 4, 2) := by decide +kernel
theorem dX5_open_7 : decode cX5_open 7 = .ok (.iload 4, 2) := by decide +kernel
theorem dX5_open_9 : decode cX5_open 9 = .ok (.aload_n 0, 1) := by decide +kernel
theorem dX5_open_10 : decode cX5_open 10 = .ok (.getfield 7, 3) := by decide +kernel
theorem dX5_open_13 : decode cX5_open 13 = .ok (.bipush 12, 2) := by decide +kernel
theorem dX5_open_15 : decode cX5_open 15 = .ok (.iaload, 1) := by decide +kernel
theorem dX5_open_16 : decode cX5_open 16 = .ok (.if_icmp .ge 69, 3) := by decide +kernel
theorem dX5_open_19 : decode cX5_open 19 = .ok (.aload_n 0, 1) := by decide +kernel
theorem dX5_open_20 : decode cX5_open 20 = .ok (.iload 4, 2) := by decide +kernel
theorem dX5_open_22 : decode cX5_open 22 = .ok (.iload_n 1, 1) := by decide +kernel
theorem dX5_open_23 : decode cX5_open 23 = .ok (.invokevirtual 150, 3) := by decide +kernel
theorem dX5_open_26 : decode cX5_open 26 = .ok (.aload_n 0, 1) := by decide +kernel
theorem dX5_open_27 : decode cX5_open 27 = .ok (.iload 4, 2) := by decide +kernel
theorem dX5_open_29 : decode cX5_open 29 = .ok (.invokevirtual 160, 3) := by decide +kernel
theorem dX5_open_32 : decode cX5_open 32 = .ok (.isub, 1) := by decide +kernel
theorem dX5_open_33 : decode cX5_open 33 = .ok (.istore 5, 2) := by decide +kernel
theorem dX5_open_35 : decode cX5_open 35 = .ok (.aload_n 0, 1) := by decide +kernel
theorem dX5_open_36 : decode cX5_open 36 = .ok (.getfield 31, 3) := by decide +kernel
theorem dX5_open_39 : decode cX5_open 39 = .ok (.iload 4, 2) := by decide +kernel
theorem dX5_open_41 : decode cX5_open 41 = .ok (.iaload, 1) := by decide +kernel
theorem dX5_open_42 : decode cX5_open 42 = .ok (.ifCond .le 37, 3) := by decide +kernel
theorem dX5_open_45 : decode cX5_open 45 = .ok (.iload 5, 2) := by decide +kernel
theorem dX5_open_47 : decode cX5_open 47 = .ok (.aload_n 0, 1) := by decide +kernel
theorem dX5_open_48 : decode cX5_open 48 = .ok (.getfield 7, 3) := by decide +kernel
theorem dX5_open_51 : decode cX5_open 51 = .ok (.iconst 2, 1) := by decide +kernel
theorem dX5_open_52 : decode cX5_open 52 = .ok (.iaload, 1) := by decide +kernel
theorem dX5_open_53 : decode cX5_open 53 = .ok (.if_icmp .lt 26, 3) := by decide +kernel
theorem dX5_open_56 : decode cX5_open 56 = .ok (.aload_n 0, 1) := by decide +kernel
theorem dX5_open_57 : decode cX5_open 57 = .ok (.iload 4, 2) := by decide +kernel
theorem dX5_open_59 : decode cX5_open 59 = .ok (.invokevirtual 163, 3) := by decide +kernel
theorem dX5_open_62 : decode cX5_open 62 = .ok (.iload 5, 2) := by decide +kernel
theorem dX5_open_64 : decode cX5_open 64 = .ok (.if_icmp .lt 15, 3) := by decide +kernel
theorem dX5_open_67 : decode cX5_open 67 = .ok (.iload 5, 2) := by decide +kernel
theorem dX5_open_69 : decode cX5_open 69 = .ok (.iload_n 3, 1) := by decide +kernel
theorem dX5_open_70 : decode cX5_open 70 = .ok (.if_icmp .le 9, 3) := by decide +kernel
theorem dX5_open_73 : decode cX5_open 73 = .ok (.iload 4, 2) := by decide +kernel
theorem dX5_open_75 : decode cX5_open 75 = .ok (.istore_n 2, 1) := by decide +kernel
theorem dX5_open_76 : decode cX5_open 76 = .ok (.iload 5, 2) := by decide +kernel
theorem dX5_open_78 : decode cX5_open 78 = .ok (.istore_n 3, 1) := by decide +kernel
theorem dX5_open_79 : decode cX5_open 79 = .ok (.iinc 4 1, 3) := by decide +kernel
theorem dX5_open_82 : decode cX5_open 82 = .ok (.goto (-75), 3) := by decide +kernel
theorem dX5_open_85 : decode cX5_open 85 = .ok (.iload_n 2, 1) := by decide +kernel
theorem dX5_open_86 : decode cX5_open 86 = .ok (.ifCond .lt 10, 3) := by decide +kernel
theorem dX5_open_89 : decode cX5_open 89 = .ok (.aload_n 0, 1) := by decide +kernel
theorem dX5_open_90 : decode cX5_open 90 = .ok (.iload_n 2, 1) := by decide +kernel
theorem dX5_open_91 : decode cX5_open 91 = .ok (.iload_n 1, 1) := by decide +kernel
theorem dX5_open_92 : decode cX5_open 92 = .ok (.iload_n 3, 1) := by decide +kernel
theorem dX5_open_93 : decode cX5_open 93 = .ok (.invokevirtual 180, 3) := by decide +kernel
theorem dX5_open_96 : decode cX5_open 96 = .ok (.return_, 1) := by decide +kernel
theorem dX5_till_0 : decode cX5_till 0 = .ok (.iload_n 1, 1) := by decide +kernel
theorem dX5_till_1 : decode cX5_till 1 = .ok (.i2l, 1) := by decide +kernel
theorem dX5_till_2 : decode cX5_till 2 = .ok (.lconst 0, 1) := by decide +kernel
theorem dX5_till_3 : decode cX5_till 3 = .ok (.ldc2_w 197, 3) := by decide +kernel
theorem dX5_till_6 : decode cX5_till 6 = .ok (.invokestatic 77, 3) := by decide +kernel
theorem dX5_till_9 : decode cX5_till 9 = .ok (.ifCond .ne 5, 3) := by decide +kernel
theorem dX5_till_12 : decode cX5_till 12 = .ok (.iconst (-1), 1) := by decide +kernel
theorem dX5_till_13 : decode cX5_till 13 = .ok (.ireturn, 1) := by decide +kernel
theorem dX5_till_14 : decode cX5_till 14 = .ok (.aload_n 0, 1) := by decide +kernel
theorem dX5_till_15 : decode cX5_till 15 = .ok (.iconst 0, 1) := by decide +kernel
theorem dX5_till_16 : decode cX5_till 16 = .ok (.invokevirtual 194, 3) := by decide +kernel
theorem dX5_till_19 : decode cX5_till 19 = .ok (.iload_n 1, 1) := by decide +kernel
theorem dX5_till_20 : decode cX5_till 20 = .ok (.ifCond .le 59, 3) := by decide +kernel
theorem dX5_till_23 : decode cX5_till 23 = .ok (.aload_n 0, 1) := by decide +kernel
theorem dX5_till_24 : decode cX5_till 24 = .ok (.invokevirtual 184, 3) := by decide +kernel
theorem dX5_till_27 : decode cX5_till 27 = .ok (.iconst 0, 1) := by decide +kernel
theorem dX5_till_28 : decode cX5_till 28 = .ok (.istore_n 2, 1) := by decide +kernel
theorem dX5_till_29 : decode cX5_till 29 = .ok (.iload_n 2, 1) := by decide +kernel
theorem dX5_till_30 : decode cX5_till 30 = .ok (.aload_n 0, 1) := by decide +kernel
theorem dX5_till_31 : decode cX5_till 31 = .ok (.getfield 7, 3) := by decide +kernel
theorem dX5_till_34 : decode cX5_till 34 = .ok (.iconst 5, 1) := by decide +kernel
theorem dX5_till_35 : decode cX5_till 35 = .ok (.iaload, 1) := by decide +kernel
theorem dX5_till_36 : decode cX5_till 36 = .ok (.if_icmp .ge 43, 3) := by decide +kernel
theorem dX5_till_39 : decode cX5_till 39 = .ok (.iload_n 1, 1) := by decide +kernel
theorem dX5_till_40 : decode cX5_till 40 = .ok (.iconst 1, 1) := by decide +kernel
theorem dX5_till_41 : decode cX5_till 41 = .ok (.if_icmp .ne 19, 3) := by decide +kernel
theorem dX5_till_44 : decode cX5_till 44 = .ok (.aload_n 0, 1) := by decide +kernel
theorem dX5_till_45 : decode cX5_till 45 = .ok (.aload_n 0, 1) := by decide +kernel
theorem dX5_till_46 : decode cX5_till 46 = .ok (.getfield 7, 3) := by decide +kernel
theorem dX5_till_49 : decode cX5_till 49 = .ok (.bipush 6, 2) := by decide +kernel
theorem dX5_till_51 : decode cX5_till 51 = .ok (.iload_n 2, 1) := by decide +kernel
theorem dX5_till_52 : decode cX5_till 52 = .ok (.iadd, 1) := by decide +kernel
theorem dX5_till_53 : decode cX5_till 53 = .ok (.iaload, 1) := by decide +kernel
theorem dX5_till_54 : decode cX5_till 54 = .ok (.invokevirtual 199, 3) := by decide +kernel
theorem dX5_till_57 : decode cX5_till 57 = .ok (.goto 16, 3) := by decide +kernel
theorem dX5_till_60 : decode cX5_till 60 = .ok (.aload_n 0, 1) := by decide +kernel
theorem dX5_till_61 : decode cX5_till 61 = .ok (.aload_n 0, 1) := by decide +kernel
theorem dX5_till_62 : decode cX5_till 62 = .ok (.getfield 7, 3) := by decide +kernel
theorem dX5_till_65 : decode cX5_till 65 = .ok (.bipush 6, 2) := by decide +kernel
theorem dX5_till_67 : decode cX5_till 67 = .ok (.iload_n 2, 1) := by decide +kernel
theorem dX5_till_68 : decode cX5_till 68 = .ok (.iadd, 1) := by decide +kernel
theorem dX5_till_69 : decode cX5_till 69 = .ok (.iaload, 1) := by decide +kernel
theorem dX5_till_70 : decode cX5_till 70 = .ok (.invokevirtual 202, 3) := by decide +kernel
theorem dX5_till_73 : decode cX5_till 73 = .ok (.iinc 2 1, 3) := by decide +kernel
theorem dX5_till_76 : decode cX5_till 76 = .ok (.goto (-47), 3) := by decide +kernel
theorem dX5_till_79 : decode cX5_till 79 = .ok (.aload_n 0, 1) := by decide +kernel
theorem dX5_till_80 : decode cX5_till 80 = .ok (.getfield 147, 3) := by decide +kernel
theorem dX5_till_83 : decode cX5_till 83 = .ok (.ireturn, 1) := by decide +kernel
theorem dX5_hear_0 : decode cX5_hear 0 = .ok (.iconst 0, 1) := by decide +kernel
theorem dX5_hear_1 : decode cX5_hear 1 = .ok (.istore_n 2, 1) := by decide +kernel
theorem dX5_hear_2 : decode cX5_hear 2 = .ok (.iload_n 2, 1) := by decide +kernel
theorem dX5_hear_3 : decode cX5_hear 3 = .ok (.aload_n 0, 1) := by decide +kernel
theorem dX5_hear_4 : decode cX5_hear 4 = .ok (.getfield 7, 3) := by decide +kernel
theorem dX5_hear_7 : decode cX5_hear 7 = .ok (.bipush 12, 2) := by decide +kernel
theorem dX5_hear_9 : decode cX5_hear 9 = .ok (.iaload, 1) := by decide +kernel
theorem dX5_hear_10 : decode cX5_hear 10 = .ok (.if_icmp .ge 122, 3) := by decide +kernel
theorem dX5_hear_13 : decode cX5_hear 13 = .ok (.aload_n 0, 1) := by decide +kernel
theorem dX5_hear_14 : decode cX5_hear 14 = .ok (.getfield 55, 3) := by decide +kernel
theorem dX5_hear_17 : decode cX5_hear 17 = .ok (.iload_n 1, 1) := by decide +kernel
theorem dX5_hear_18 : decode cX5_hear 18 = .ok (.iaload, 1) := by decide +kernel
theorem dX5_hear_19 : decode cX5_hear 19 = .ok (.iload_n 2, 1) := by decide +kernel
theorem dX5_hear_20 : decode cX5_hear 20 = .ok (.invokestatic 156, 3) := by decide +kernel
theorem dX5_hear_23 : decode cX5_hear 23 = .ok (.ifCond .ne 6, 3) := by decide +kernel
theorem dX5_hear_26 : decode cX5_hear 26 = .ok (.goto 100, 3) := by decide +kernel
theorem dX5_hear_29 : decode cX5_hear 29 = .ok (.iconst 4, 1) := by decide +kernel
theorem dX5_hear_30 : decode cX5_hear 30 = .ok (.iload_n 2, 1) := by decide +kernel
theorem dX5_hear_31 : decode cX5_hear 31 = .ok (.imul, 1) := by decide +kernel
theorem dX5_hear_32 : decode cX5_hear 32 = .ok (.aload_n 0, 1) := by decide +kernel
theorem dX5_hear_33 : decode cX5_hear 33 = .ok (.getfield 7, 3) := by decide +kernel
theorem dX5_hear_36 : decode cX5_hear 36 = .ok (.bipush 6, 2) := by decide +kernel
theorem dX5_hear_38 : decode cX5_hear 38 = .ok (.iload_n 1, 1) := by decide +kernel
theorem dX5_hear_39 : decode cX5_hear 39 = .ok (.iadd, 1) := by decide +kernel
theorem dX5_hear_40 : decode cX5_hear 40 = .ok (.iaload, 1) := by decide +kernel
theorem dX5_hear_41 : decode cX5_hear 41 = .ok (.iadd, 1) := by decide +kernel
theorem dX5_hear_42 : decode cX5_hear 42 = .ok (.istore_n 3, 1) := by decide +kernel
theorem dX5_hear_43 : decode cX5_hear 43 = .ok (.aload_n 0, 1) := by decide +kernel
theorem dX5_hear_44 : decode cX5_hear 44 = .ok (.getfield 49, 3) := by decide +kernel
theorem dX5_hear_47 : decode cX5_hear 47 = .ok (.iload_n 1, 1) := by decide +kernel
theorem dX5_hear_48 : decode cX5_hear 48 = .ok (.iaload, 1) := by decide +kernel
theorem dX5_hear_49 : decode cX5_hear 49 = .ok (.aload_n 0, 1) := by decide +kernel
theorem dX5_hear_50 : decode cX5_hear 50 = .ok (.iload_n 2, 1) := by decide +kernel
theorem dX5_hear_51 : decode cX5_hear 51 = .ok (.invokevirtual 160, 3) := by decide +kernel
theorem dX5_hear_54 : decode cX5_hear 54 = .ok (.iadd, 1) := by decide +kernel
theorem dX5_hear_55 : decode cX5_hear 55 = .ok (.istore 4, 2) := by decide +kernel
theorem dX5_hear_57 : decode cX5_hear 57 = .ok (.aload_n 0, 1) := by decide +kernel
theorem dX5_hear_58 : decode cX5_hear 58 = .ok (.getfield 52, 3) := by decide +kernel
theorem dX5_hear_61 : decode cX5_hear 61 = .ok (.iload_n 1, 1) := by decide +kernel
theorem dX5_hear_62 : decode cX5_hear 62 = .ok (.iaload, 1) := by decide +kernel
theorem dX5_hear_63 : decode cX5_hear 63 = .ok (.iload_n 2, 1) := by decide +kernel
theorem dX5_hear_64 : decode cX5_hear 64 = .ok (.invokestatic 156, 3) := by decide +kernel
theorem dX5_hear_67 : decode cX5_hear 67 = .ok (.ifCond .eq 34, 3) := by decide +kernel
theorem dX5_hear_70 : decode cX5_hear 70 = .ok (.aload_n 0, 1) := by decide +kernel
theorem dX5_hear_71 : decode cX5_hear 71 = .ok (.getfield 7, 3) := by decide +kernel
theorem dX5_hear_74 : decode cX5_hear 74 = .ok (.bipush 48, 2) := by decide +kernel
theorem dX5_hear_76 : decode cX5_hear 76 = .ok (.iload_n 3, 1) := by decide +kernel
theorem dX5_hear_77 : decode cX5_hear 77 = .ok (.iadd, 1) := by decide +kernel
theorem dX5_hear_78 : decode cX5_hear 78 = .ok (.aload_n 0, 1) := by decide +kernel
theorem dX5_hear_79 : decode cX5_hear 79 = .ok (.getfield 7, 3) := by decide +kernel
theorem dX5_hear_82 : decode cX5_hear 82 = .ok (.bipush 48, 2) := by decide +kernel
theorem dX5_hear_84 : decode cX5_hear 84 = .ok (.iload_n 3, 1) := by decide +kernel
theorem dX5_hear_85 : decode cX5_hear 85 = .ok (.iadd, 1) := by decide +kernel
theorem dX5_hear_86 : decode cX5_hear 86 = .ok (.iaload, 1) := by decide +kernel
theorem dX5_hear_87 : decode cX5_hear 87 = .ok (.bipush 99, 2) := by decide +kernel
theorem dX5_hear_89 : decode cX5_hear 89 = .ok (.iload 4, 2) := by decide +kernel
theorem dX5_hear_91 : decode cX5_hear 91 = .ok (.invokestatic 132, 3) := by decide +kernel
theorem dX5_hear_94 : decode cX5_hear 94 = .ok (.invokestatic 169, 3) := by decide +kernel
theorem dX5_hear_97 : decode cX5_hear 97 = .ok (.iastore, 1) := by decide +kernel
theorem dX5_hear_98 : decode cX5_hear 98 = .ok (.goto 28, 3) := by decide +kernel
theorem dX5_hear_101 : decode cX5_hear 101 = .ok (.aload_n 0, 1) := by decide +kernel
theorem dX5_hear_102 : decode cX5_hear 102 = .ok (.getfield 7, 3) := by decide +kernel
theorem dX5_hear_105 : decode cX5_hear 105 = .ok (.bipush 68, 2) := by decide +kernel
theorem dX5_hear_107 : decode cX5_hear 107 = .ok (.iload_n 3, 1) := by decide +kernel
theorem dX5_hear_108 : decode cX5_hear 108 = .ok (.iadd, 1) := by decide +kernel
theorem dX5_hear_109 : decode cX5_hear 109 = .ok (.aload_n 0, 1) := by decide +kernel
theorem dX5_hear_110 : decode cX5_hear 110 = .ok (.getfield 7, 3) := by decide +kernel
theorem dX5_hear_113 : decode cX5_hear 113 = .ok (.bipush 68, 2) := by decide +kernel
theorem dX5_hear_115 : decode cX5_hear 115 = .ok (.iload_n 3, 1) := by decide +kernel
theorem dX5_hear_116 : decode cX5_hear 116 = .ok (.iadd, 1) := by decide +kernel
theorem dX5_hear_117 : decode cX5_hear 117 = .ok (.iaload, 1) := by decide +kernel
theorem dX5_hear_118 : decode cX5_hear 118 = .ok (.iload 4, 2) := by decide +kernel
theorem dX5_hear_120 : decode cX5_hear 120 = .ok (.iconst 1, 1) := by decide +kernel
theorem dX5_hear_121 : decode cX5_hear 121 = .ok (.isub, 1) := by decide +kernel
theorem dX5_hear_122 : decode cX5_hear 122 = .ok (.invokestatic 132, 3) := by decide +kernel
theorem dX5_hear_125 : decode cX5_hear 125 = .ok (.iastore, 1) := by decide +kernel
theorem dX5_hear_126 : decode cX5_hear 126 = .ok (.iinc 2 1, 3) := by decide +kernel
theorem dX5_hear_129 : decode cX5_hear 129 = .ok (.goto (-127), 3) := by decide +kernel
theorem dX5_hear_132 : decode cX5_hear 132 = .ok (.return_, 1) := by decide +kernel
theorem dX5_morning_0 : decode cX5_morning 0 = .ok (.aload_n 0, 1) := by decide +kernel
theorem dX5_morning_1 : decode cX5_morning 1 = .ok (.getfield 7, 3) := by decide +kernel
theorem dX5_morning_4 : decode cX5_morning 4 = .ok (.iconst 5, 1) := by decide +kernel
theorem dX5_morning_5 : decode cX5_morning 5 = .ok (.iaload, 1) := by decide +kernel
theorem dX5_morning_6 : decode cX5_morning 6 = .ok (.ifCond .ne 6, 3) := by decide +kernel
theorem dX5_morning_9 : decode cX5_morning 9 = .ok (.bipush (-2), 2) := by decide +kernel
theorem dX5_morning_11 : decode cX5_morning 11 = .ok (.ireturn, 1) := by decide +kernel
theorem dX5_morning_12 : decode cX5_morning 12 = .ok (.aload_n 0, 1) := by decide +kernel
theorem dX5_morning_13 : decode cX5_morning 13 = .ok (.getfield 7, 3) := by decide +kernel
theorem dX5_morning_16 : decode cX5_morning 16 = .ok (.bipush 88, 2) := by decide +kernel
theorem dX5_morning_18 : decode cX5_morning 18 = .ok (.iaload, 1) := by decide +kernel
theorem dX5_morning_19 : decode cX5_morning 19 = .ok (.sipush 9999, 3) := by decide +kernel
theorem dX5_morning_22 : decode cX5_morning 22 = .ok (.if_icmp .ne 6, 3) := by decide +kernel
theorem dX5_morning_25 : decode cX5_morning 25 = .ok (.bipush (-3), 2) := by decide +kernel
theorem dX5_morning_27 : decode cX5_morning 27 = .ok (.ireturn, 1) := by decide +kernel
theorem dX5_morning_28 : decode cX5_morning 28 = .ok (.aload_n 0, 1) := by decide +kernel
theorem dX5_morning_29 : decode cX5_morning 29 = .ok (.iconst 0, 1) := by decide +kernel
theorem dX5_morning_30 : decode cX5_morning 30 = .ok (.invokevirtual 194, 3) := by decide +kernel
theorem dX5_morning_33 : decode cX5_morning 33 = .ok (.iconst 0, 1) := by decide +kernel
theorem dX5_morning_34 : decode cX5_morning 34 = .ok (.istore_n 1, 1) := by decide +kernel
theorem dX5_morning_35 : decode cX5_morning 35 = .ok (.iload_n 1, 1) := by decide +kernel
theorem dX5_morning_36 : decode cX5_morning 36 = .ok (.aload_n 0, 1) := by decide +kernel
theorem dX5_morning_37 : decode cX5_morning 37 = .ok (.getfield 7, 3) := by decide +kernel
theorem dX5_morning_40 : decode cX5_morning 40 = .ok (.iconst 5, 1) := by decide +kernel
theorem dX5_morning_41 : decode cX5_morning 41 = .ok (.iaload, 1) := by decide +kernel
theorem dX5_morning_42 : decode cX5_morning 42 = .ok (.if_icmp .ge 14, 3) := by decide +kernel
theorem dX5_morning_45 : decode cX5_morning 45 = .ok (.aload_n 0, 1) := by decide +kernel
theorem dX5_morning_46 : decode cX5_morning 46 = .ok (.iload_n 1, 1) := by decide +kernel
theorem dX5_morning_47 : decode cX5_morning 47 = .ok (.invokevirtual 205, 3) := by decide +kernel
theorem dX5_morning_50 : decode cX5_morning 50 = .ok (.iinc 1 1, 3) := by decide +kernel
theorem dX5_morning_53 : decode cX5_morning 53 = .ok (.goto (-18), 3) := by decide +kernel
theorem dX5_morning_56 : decode cX5_morning 56 = .ok (.iconst 0, 1) := by decide +kernel
theorem dX5_morning_57 : decode cX5_morning 57 = .ok (.istore_n 1, 1) := by decide +kernel
theorem dX5_morning_58 : decode cX5_morning 58 = .ok (.iload_n 1, 1) := by decide +kernel
theorem dX5_morning_59 : decode cX5_morning 59 = .ok (.aload_n 0, 1) := by decide +kernel
theorem dX5_morning_60 : decode cX5_morning 60 = .ok (.getfield 7, 3) := by decide +kernel
theorem dX5_morning_63 : decode cX5_morning 63 = .ok (.bipush 12, 2) := by decide +kernel
theorem dX5_morning_65 : decode cX5_morning 65 = .ok (.iaload, 1) := by decide +kernel
theorem dX5_morning_66 : decode cX5_morning 66 = .ok (.if_icmp .ge 24, 3) := by decide +kernel
theorem dX5_morning_69 : decode cX5_morning 69 = .ok (.aload_n 0, 1) := by decide +kernel
theorem dX5_morning_70 : decode cX5_morning 70 = .ok (.getfield 7, 3) := by decide +kernel
theorem dX5_morning_73 : decode cX5_morning 73 = .ok (.bipush 18, 2) := by decide +kernel
theorem dX5_morning_75 : decode cX5_morning 75 = .ok (.iload_n 1, 1) := by decide +kernel
theorem dX5_morning_76 : decode cX5_morning 76 = .ok (.iadd, 1) := by decide +kernel
theorem dX5_morning_77 : decode cX5_morning 77 = .ok (.aload_n 0, 1) := by decide +kernel
theorem dX5_morning_78 : decode cX5_morning 78 = .ok (.getfield 28, 3) := by decide +kernel
theorem dX5_morning_81 : decode cX5_morning 81 = .ok (.iload_n 1, 1) := by decide +kernel
theorem dX5_morning_82 : decode cX5_morning 82 = .ok (.iaload, 1) := by decide +kernel
theorem dX5_morning_83 : decode cX5_morning 83 = .ok (.iastore, 1) := by decide +kernel
theorem dX5_morning_84 : decode cX5_morning 84 = .ok (.iinc 1 1, 3) := by decide +kernel
theorem dX5_morning_87 : decode cX5_morning 87 = .ok (.goto (-29), 3) := by decide +kernel
theorem dX5_morning_90 : decode cX5_morning 90 = .ok (.aload_n 0, 1) := by decide +kernel
theorem dX5_morning_91 : decode cX5_morning 91 = .ok (.getfield 7, 3) := by decide +kernel
theorem dX5_morning_94 : decode cX5_morning 94 = .ok (.bipush 88, 2) := by decide +kernel
theorem dX5_morning_96 : decode cX5_morning 96 = .ok (.dup2, 1) := by decide +kernel
theorem dX5_morning_97 : decode cX5_morning 97 = .ok (.iaload, 1) := by decide +kernel
theorem dX5_morning_98 : decode cX5_morning 98 = .ok (.iconst 1, 1) := by decide +kernel
theorem dX5_morning_99 : decode cX5_morning 99 = .ok (.iadd, 1) := by decide +kernel
theorem dX5_morning_100 : decode cX5_morning 100 = .ok (.iastore, 1) := by decide +kernel
theorem dX5_morning_101 : decode cX5_morning 101 = .ok (.aload_n 0, 1) := by decide +kernel
theorem dX5_morning_102 : decode cX5_morning 102 = .ok (.getfield 147, 3) := by decide +kernel
theorem dX5_morning_105 : decode cX5_morning 105 = .ok (.ireturn, 1) := by decide +kernel
theorem dX5_span_0 : decode cX5_span 0 = .ok (.aload_n 0, 1) := by decide +kernel
theorem dX5_span_1 : decode cX5_span 1 = .ok (.iload_n 1, 1) := by decide +kernel
theorem dX5_span_2 : decode cX5_span 2 = .ok (.invokevirtual 92, 3) := by decide +kernel
theorem dX5_span_5 : decode cX5_span 5 = .ok (.ifCond .eq 25, 3) := by decide +kernel
theorem dX5_span_8 : decode cX5_span 8 = .ok (.iload_n 2, 1) := by decide +kernel
theorem dX5_span_9 : decode cX5_span 9 = .ok (.i2l, 1) := by decide +kernel
theorem dX5_span_10 : decode cX5_span 10 = .ok (.lconst 0, 1) := by decide +kernel
theorem dX5_span_11 : decode cX5_span 11 = .ok (.ldc2_w 96, 3) := by decide +kernel
theorem dX5_span_14 : decode cX5_span 14 = .ok (.invokestatic 77, 3) := by decide +kernel
theorem dX5_span_17 : decode cX5_span 17 = .ok (.ifCond .eq 13, 3) := by decide +kernel
theorem dX5_span_20 : decode cX5_span 20 = .ok (.iload_n 3, 1) := by decide +kernel
theorem dX5_span_21 : decode cX5_span 21 = .ok (.i2l, 1) := by decide +kernel
theorem dX5_span_22 : decode cX5_span 22 = .ok (.lconst 0, 1) := by decide +kernel
theorem dX5_span_23 : decode cX5_span 23 = .ok (.lconst 1, 1) := by decide +kernel
theorem dX5_span_24 : decode cX5_span 24 = .ok (.invokestatic 77, 3) := by decide +kernel
theorem dX5_span_27 : decode cX5_span 27 = .ok (.ifCond .ne 5, 3) := by decide +kernel
theorem dX5_span_30 : decode cX5_span 30 = .ok (.iconst (-1), 1) := by decide +kernel
theorem dX5_span_31 : decode cX5_span 31 = .ok (.ireturn, 1) := by decide +kernel
theorem dX5_span_32 : decode cX5_span 32 = .ok (.aload_n 0, 1) := by decide +kernel
theorem dX5_span_33 : decode cX5_span 33 = .ok (.getfield 7, 3) := by decide +kernel
theorem dX5_span_36 : decode cX5_span 36 = .ok (.iload_n 3, 1) := by decide +kernel
theorem dX5_span_37 : decode cX5_span 37 = .ok (.ifCond .ne 8, 3) := by decide +kernel
theorem dX5_span_40 : decode cX5_span 40 = .ok (.bipush 48, 2) := by decide +kernel
theorem dX5_span_42 : decode cX5_span 42 = .ok (.goto 5, 3) := by decide +kernel
theorem dX5_span_45 : decode cX5_span 45 = .ok (.bipush 68, 2) := by decide +kernel
theorem dX5_span_47 : decode cX5_span 47 = .ok (.iconst 4, 1) := by decide +kernel
theorem dX5_span_48 : decode cX5_span 48 = .ok (.iload_n 1, 1) := by decide +kernel
theorem dX5_span_49 : decode cX5_span 49 = .ok (.imul, 1) := by decide +kernel
theorem dX5_span_50 : decode cX5_span 50 = .ok (.iadd, 1) := by decide +kernel
theorem dX5_span_51 : decode cX5_span 51 = .ok (.iload_n 2, 1) := by decide +kernel
theorem dX5_span_52 : decode cX5_span 52 = .ok (.iadd, 1) := by decide +kernel
theorem dX5_span_53 : decode cX5_span 53 = .ok (.iaload, 1) := by decide +kernel
theorem dX5_span_54 : decode cX5_span 54 = .ok (.ireturn, 1) := by decide +kernel
theorem dX5_hush_0 : decode cX5_hush 0 = .ok (.iconst 0, 1) := by decide +kernel
theorem dX5_hush_1 : decode cX5_hush 1 = .ok (.istore_n 1, 1) := by decide +kernel
theorem dX5_hush_2 : decode cX5_hush 2 = .ok (.iconst 0, 1) := by decide +kernel
theorem dX5_hush_3 : decode cX5_hush 3 = .ok (.istore_n 2, 1) := by decide +kernel
theorem dX5_hush_4 : decode cX5_hush 4 = .ok (.iload_n 2, 1) := by decide +kernel
theorem dX5_hush_5 : decode cX5_hush 5 = .ok (.iconst 4, 1) := by decide +kernel
theorem dX5_hush_6 : decode cX5_hush 6 = .ok (.aload_n 0, 1) := by decide +kernel
theorem dX5_hush_7 : decode cX5_hush 7 = .ok (.getfield 7, 3) := by decide +kernel
theorem dX5_hush_10 : decode cX5_hush 10 = .ok (.bipush 12, 2) := by decide +kernel
theorem dX5_hush_12 : decode cX5_hush 12 = .ok (.iaload, 1) := by decide +kernel
theorem dX5_hush_13 : decode cX5_hush 13 = .ok (.imul, 1) := by decide +kernel
theorem dX5_hush_14 : decode cX5_hush 14 = .ok (.if_icmp .ge 64, 3) := by decide +kernel
theorem dX5_hush_17 : decode cX5_hush 17 = .ok (.iload_n 1, 1) := by decide +kernel
theorem dX5_hush_18 : decode cX5_hush 18 = .ok (.aload_n 0, 1) := by decide +kernel
theorem dX5_hush_19 : decode cX5_hush 19 = .ok (.getfield 7, 3) := by decide +kernel
theorem dX5_hush_22 : decode cX5_hush 22 = .ok (.bipush 48, 2) := by decide +kernel
theorem dX5_hush_24 : decode cX5_hush 24 = .ok (.iload_n 2, 1) := by decide +kernel
theorem dX5_hush_25 : decode cX5_hush 25 = .ok (.iadd, 1) := by decide +kernel
theorem dX5_hush_26 : decode cX5_hush 26 = .ok (.iaload, 1) := by decide +kernel
theorem dX5_hush_27 : decode cX5_hush 27 = .ok (.ifCond .ne 17, 3) := by decide +kernel
theorem dX5_hush_30 : decode cX5_hush 30 = .ok (.aload_n 0, 1) := by decide +kernel
theorem dX5_hush_31 : decode cX5_hush 31 = .ok (.getfield 7, 3) := by decide +kernel
theorem dX5_hush_34 : decode cX5_hush 34 = .ok (.bipush 68, 2) := by decide +kernel
theorem dX5_hush_36 : decode cX5_hush 36 = .ok (.iload_n 2, 1) := by decide +kernel
theorem dX5_hush_37 : decode cX5_hush 37 = .ok (.iadd, 1) := by decide +kernel
theorem dX5_hush_38 : decode cX5_hush 38 = .ok (.iaload, 1) := by decide +kernel
theorem dX5_hush_39 : decode cX5_hush 39 = .ok (.bipush 99, 2) := by decide +kernel
theorem dX5_hush_41 : decode cX5_hush 41 = .ok (.if_icmp .eq 7, 3) := by decide +kernel
theorem dX5_hush_44 : decode cX5_hush 44 = .ok (.iconst 1, 1) := by decide +kernel
theorem dX5_hush_45 : decode cX5_hush 45 = .ok (.goto 4, 3) := by decide +kernel
theorem dX5_hush_48 : decode cX5_hush 48 = .ok (.iconst 0, 1) := by decide +kernel
theorem dX5_hush_49 : decode cX5_hush 49 = .ok (.iadd, 1) := by decide +kernel
theorem dX5_hush_50 : decode cX5_hush 50 = .ok (.istore_n 1, 1) := by decide +kernel
theorem dX5_hush_51 : decode cX5_hush 51 = .ok (.aload_n 0, 1) := by decide +kernel
theorem dX5_hush_52 : decode cX5_hush 52 = .ok (.getfield 7, 3) := by decide +kernel
theorem dX5_hush_55 : decode cX5_hush 55 = .ok (.bipush 48, 2) := by decide +kernel
theorem dX5_hush_57 : decode cX5_hush 57 = .ok (.iload_n 2, 1) := by decide +kernel
theorem dX5_hush_58 : decode cX5_hush 58 = .ok (.iadd, 1) := by decide +kernel
theorem dX5_hush_59 : decode cX5_hush 59 = .ok (.iconst 0, 1) := by decide +kernel
theorem dX5_hush_60 : decode cX5_hush 60 = .ok (.iastore, 1) := by decide +kernel
theorem dX5_hush_61 : decode cX5_hush 61 = .ok (.aload_n 0, 1) := by decide +kernel
theorem dX5_hush_62 : decode cX5_hush 62 = .ok (.getfield 7, 3) := by decide +kernel
theorem dX5_hush_65 : decode cX5_hush 65 = .ok (.bipush 68, 2) := by decide +kernel
theorem dX5_hush_67 : decode cX5_hush 67 = .ok (.iload_n 2, 1) := by decide +kernel
theorem dX5_hush_68 : decode cX5_hush 68 = .ok (.iadd, 1) := by decide +kernel
theorem dX5_hush_69 : decode cX5_hush 69 = .ok (.bipush 99, 2) := by decide +kernel
theorem dX5_hush_71 : decode cX5_hush 71 = .ok (.iastore, 1) := by decide +kernel
theorem dX5_hush_72 : decode cX5_hush 72 = .ok (.iinc 2 1, 3) := by decide +kernel
theorem dX5_hush_75 : decode cX5_hush 75 = .ok (.goto (-71), 3) := by decide +kernel
theorem dX5_hush_78 : decode cX5_hush 78 = .ok (.iload_n 1, 1) := by decide +kernel
theorem dX5_hush_79 : decode cX5_hush 79 = .ok (.ireturn, 1) := by decide +kernel
theorem dX5_best_0 : decode cX5_best 0 = .ok (.aload_n 0, 1) := by decide +kernel
theorem dX5_best_1 : decode cX5_best 1 = .ok (.iload_n 1, 1) := by decide +kernel
theorem dX5_best_2 : decode cX5_best 2 = .ok (.invokevirtual 92, 3) := by decide +kernel
theorem dX5_best_5 : decode cX5_best 5 = .ok (.ifCond .ne 5, 3) := by decide +kernel
theorem dX5_best_8 : decode cX5_best 8 = .ok (.iconst (-1), 1) := by decide +kernel
theorem dX5_best_9 : decode cX5_best 9 = .ok (.ireturn, 1) := by decide +kernel
theorem dX5_best_10 : decode cX5_best 10 = .ok (.aload_n 0, 1) := by decide +kernel
theorem dX5_best_11 : decode cX5_best 11 = .ok (.iconst 0, 1) := by decide +kernel
theorem dX5_best_12 : decode cX5_best 12 = .ok (.invokevirtual 194, 3) := by decide +kernel
theorem dX5_best_15 : decode cX5_best 15 = .ok (.iconst 0, 1) := by decide +kernel
theorem dX5_best_16 : decode cX5_best 16 = .ok (.istore_n 2, 1) := by decide +kernel
theorem dX5_best_17 : decode cX5_best 17 = .ok (.iconst 0, 1) := by decide +kernel
theorem dX5_best_18 : decode cX5_best 18 = .ok (.istore_n 3, 1) := by decide +kernel
theorem dX5_best_19 : decode cX5_best 19 = .ok (.iconst 0, 1) := by decide +kernel
theorem dX5_best_20 : decode cX5_best 20 = .ok (.istore 4, 2) := by decide +kernel
theorem dX5_best_22 : decode cX5_best 22 = .ok (.iload 4, 2) := by decide +kernel
theorem dX5_best_24 : decode cX5_best 24 = .ok (.bipush 40, 2) := by decide +kernel
theorem dX5_best_26 : decode cX5_best 26 = .ok (.if_icmp .gt 72, 3) := by decide +kernel
theorem dX5_best_29 : decode cX5_best 29 = .ok (.aload_n 0, 1) := by decide +kernel
theorem dX5_best_30 : decode cX5_best 30 = .ok (.getfield 25, 3) := by decide +kernel
theorem dX5_best_33 : decode cX5_best 33 = .ok (.iload_n 1, 1) := by decide +kernel
theorem dX5_best_34 : decode cX5_best 34 = .ok (.iload 4, 2) := by decide +kernel
theorem dX5_best_36 : decode cX5_best 36 = .ok (.iastore, 1) := by decide +kernel
theorem dX5_best_37 : decode cX5_best 37 = .ok (.aload_n 0, 1) := by decide +kernel
theorem dX5_best_38 : decode cX5_best 38 = .ok (.iconst 0, 1) := by decide +kernel
theorem dX5_best_39 : decode cX5_best 39 = .ok (.invokevirtual 191, 3) := by decide +kernel
theorem dX5_best_42 : decode cX5_best 42 = .ok (.iload 4, 2) := by decide +kernel
theorem dX5_best_44 : decode cX5_best 44 = .ok (.ifCond .eq 13, 3) := by decide +kernel
theorem dX5_best_47 : decode cX5_best 47 = .ok (.aload_n 0, 1) := by decide +kernel
theorem dX5_best_48 : decode cX5_best 48 = .ok (.getfield 34, 3) := by decide +kernel
theorem dX5_best_51 : decode cX5_best 51 = .ok (.iload_n 1, 1) := by decide +kernel
theorem dX5_best_52 : decode cX5_best 52 = .ok (.iaload, 1) := by decide +kernel
theorem dX5_best_53 : decode cX5_best 53 = .ok (.iload_n 3, 1) := by decide +kernel
theorem dX5_best_54 : decode cX5_best 54 = .ok (.if_icmp .le 7, 3) := by decide +kernel
theorem dX5_best_57 : decode cX5_best 57 = .ok (.iconst 1, 1) := by decide +kernel
theorem dX5_best_58 : decode cX5_best 58 = .ok (.goto 4, 3) := by decide +kernel
theorem dX5_best_61 : decode cX5_best 61 = .ok (.iconst 0, 1) := by decide +kernel
theorem dX5_best_62 : decode cX5_best 62 = .ok (.istore 5, 2) := by decide +kernel
theorem dX5_best_64 : decode cX5_best 64 = .ok (.iload 5, 2) := by decide +kernel
theorem dX5_best_66 : decode cX5_best 66 = .ok (.ifCond .eq 8, 3) := by decide +kernel
theorem dX5_best_69 : decode cX5_best 69 = .ok (.iload 4, 2) := by decide +kernel
theorem dX5_best_71 : decode cX5_best 71 = .ok (.goto 4, 3) := by decide +kernel
theorem dX5_best_74 : decode cX5_best 74 = .ok (.iload_n 2, 1) := by decide +kernel
theorem dX5_best_75 : decode cX5_best 75 = .ok (.istore_n 2, 1) := by decide +kernel
theorem dX5_best_76 : decode cX5_best 76 = .ok (.iload 5, 2) := by decide +kernel
theorem dX5_best_78 : decode cX5_best 78 = .ok (.ifCond .eq 12, 3) := by decide +kernel
theorem dX5_best_81 : decode cX5_best 81 = .ok (.aload_n 0, 1) := by decide +kernel
theorem dX5_best_82 : decode cX5_best 82 = .ok (.getfield 34, 3) := by decide +kernel
theorem dX5_best_85 : decode cX5_best 85 = .ok (.iload_n 1, 1) := by decide +kernel
theorem dX5_best_86 : decode cX5_best 86 = .ok (.iaload, 1) := by decide +kernel
theorem dX5_best_87 : decode cX5_best 87 = .ok (.goto 4, 3) := by decide +kernel
theorem dX5_best_90 : decode cX5_best 90 = .ok (.iload_n 3, 1) := by decide +kernel
theorem dX5_best_91 : decode cX5_best 91 = .ok (.istore_n 3, 1) := by decide +kernel
theorem dX5_best_92 : decode cX5_best 92 = .ok (.iinc 4 1, 3) := by decide +kernel
theorem dX5_best_95 : decode cX5_best 95 = .ok (.goto (-73), 3) := by decide +kernel
theorem dX5_best_98 : decode cX5_best 98 = .ok (.iload_n 2, 1) := by decide +kernel
theorem dX5_best_99 : decode cX5_best 99 = .ok (.ireturn, 1) := by decide +kernel
theorem dX5_isResting_0 : decode cX5_isResting 0 = .ok (.iconst 0, 1) := by decide +kernel
theorem dX5_isResting_1 : decode cX5_isResting 1 = .ok (.istore_n 2, 1) := by decide +kernel
theorem dX5_isResting_2 : decode cX5_isResting 2 = .ok (.iload_n 2, 1) := by decide +kernel
theorem dX5_isResting_3 : decode cX5_isResting 3 = .ok (.aload_n 0, 1) := by decide +kernel
theorem dX5_isResting_4 : decode cX5_isResting 4 = .ok (.getfield 7, 3) := by decide +kernel
theorem dX5_isResting_7 : decode cX5_isResting 7 = .ok (.bipush 12, 2) := by decide +kernel
theorem dX5_isResting_9 : decode cX5_isResting 9 = .ok (.iaload, 1) := by decide +kernel
theorem dX5_isResting_10 : decode cX5_isResting 10 = .ok (.if_icmp .ge 82, 3) := by decide +kernel
theorem dX5_isResting_13 : decode cX5_isResting 13 = .ok (.iconst 1, 1) := by decide +kernel
theorem dX5_isResting_14 : decode cX5_isResting 14 = .ok (.iconst 2, 1) := by decide +kernel
theorem dX5_isResting_15 : decode cX5_isResting 15 = .ok (.aload_n 0, 1) := by decide +kernel
theorem dX5_isResting_16 : decode cX5_isResting 16 = .ok (.getfield 7, 3) := by decide +kernel
theorem dX5_isResting_19 : decode cX5_isResting 19 = .ok (.bipush 12, 2) := by decide +kernel
theorem dX5_isResting_21 : decode cX5_isResting 21 = .ok (.iaload, 1) := by decide +kernel
theorem dX5_isResting_22 : decode cX5_isResting 22 = .ok (.iconst 1, 1) := by decide +kernel
theorem dX5_isResting_23 : decode cX5_isResting 23 = .ok (.isub, 1) := by decide +kernel
theorem dX5_isResting_24 : decode cX5_isResting 24 = .ok (.iload_n 2, 1) := by decide +kernel
theorem dX5_isResting_25 : decode cX5_isResting 25 = .ok (.isub, 1) := by decide +kernel
theorem dX5_isResting_26 : decode cX5_isResting 26 = .ok (.imul, 1) := by decide +kernel
theorem dX5_isResting_27 : decode cX5_isResting 27 = .ok (.ishl, 1) := by decide +kernel
theorem dX5_isResting_28 : decode cX5_isResting 28 = .ok (.istore_n 3, 1) := by decide +kernel
theorem dX5_isResting_29 : decode cX5_isResting 29 = .ok (.iload_n 1, 1) := by decide +kernel
theorem dX5_isResting_30 : decode cX5_isResting 30 = .ok (.iload_n 1, 1) := by decide +kernel
theorem dX5_isResting_31 : decode cX5_isResting 31 = .ok (.iload_n 3, 1) := by decide +kernel
theorem dX5_isResting_32 : decode cX5_isResting 32 = .ok (.idiv, 1) := by decide +kernel
theorem dX5_isResting_33 : decode cX5_isResting 33 = .ok (.iconst 3, 1) := by decide +kernel
theorem dX5_isResting_34 : decode cX5_isResting 34 = .ok (.iand, 1) := by decide +kernel
theorem dX5_isResting_35 : decode cX5_isResting 35 = .ok (.iload_n 3, 1) := by decide +kernel
theorem dX5_isResting_36 : decode cX5_isResting 36 = .ok (.imul, 1) := by decide +kernel
theorem dX5_isResting_37 : decode cX5_isResting 37 = .ok (.isub, 1) := by decide +kernel
theorem dX5_isResting_38 : decode cX5_isResting 38 = .ok (.istore 4, 2) := by decide +kernel
theorem dX5_isResting_40 : decode cX5_isResting 40 = .ok (.iconst 0, 1) := by decide +kernel
theorem dX5_isResting_41 : decode cX5_isResting 41 = .ok (.istore 5, 2) := by decide +kernel
theorem dX5_isResting_43 : decode cX5_isResting 43 = .ok (.iload 5, 2) := by decide +kernel
theorem dX5_isResting_45 : decode cX5_isResting 45 = .ok (.iconst 4, 1) := by decide +kernel
theorem dX5_isResting_46 : decode cX5_isResting 46 = .ok (.if_icmp .ge 40, 3) := by decide +kernel
theorem dX5_isResting_49 : decode cX5_isResting 49 = .ok (.aload_n 0, 1) := by decide +kernel
theorem dX5_isResting_50 : decode cX5_isResting 50 = .ok (.getfield 58, 3) := by decide +kernel
theorem dX5_isResting_53 : decode cX5_isResting 53 = .ok (.iconst 5, 1) := by decide +kernel
theorem dX5_isResting_54 : decode cX5_isResting 54 = .ok (.iload 4, 2) := by decide +kernel
theorem dX5_isResting_56 : decode cX5_isResting 56 = .ok (.iload 5, 2) := by decide +kernel
theorem dX5_isResting_58 : decode cX5_isResting 58 = .ok (.iload_n 3, 1) := by decide +kernel
theorem dX5_isResting_59 : decode cX5_isResting 59 = .ok (.imul, 1) := by decide +kernel
theorem dX5_isResting_60 : decode cX5_isResting 60 = .ok (.iadd, 1) := by decide +kernel
theorem dX5_isResting_61 : decode cX5_isResting 61 = .ok (.imul, 1) := by decide +kernel
theorem dX5_isResting_62 : decode cX5_isResting 62 = .ok (.iload_n 2, 1) := by decide +kernel
theorem dX5_isResting_63 : decode cX5_isResting 63 = .ok (.iadd, 1) := by decide +kernel
theorem dX5_isResting_64 : decode cX5_isResting 64 = .ok (.iaload, 1) := by decide +kernel
theorem dX5_isResting_65 : decode cX5_isResting 65 = .ok (.aload_n 0, 1) := by decide +kernel
theorem dX5_isResting_66 : decode cX5_isResting 66 = .ok (.getfield 58, 3) := by decide +kernel
theorem dX5_isResting_69 : decode cX5_isResting 69 = .ok (.iconst 5, 1) := by decide +kernel
theorem dX5_isResting_70 : decode cX5_isResting 70 = .ok (.iload_n 1, 1) := by decide +kernel
theorem dX5_isResting_71 : decode cX5_isResting 71 = .ok (.imul, 1) := by decide +kernel
theorem dX5_isResting_72 : decode cX5_isResting 72 = .ok (.iload_n 2, 1) := by decide +kernel
theorem dX5_isResting_73 : decode cX5_isResting 73 = .ok (.iadd, 1) := by decide +kernel
theorem dX5_isResting_74 : decode cX5_isResting 74 = .ok (.iaload, 1) := by decide +kernel
theorem dX5_isResting_75 : decode cX5_isResting 75 = .ok (.if_icmp .le 5, 3) := by decide +kernel
theorem dX5_isResting_78 : decode cX5_isResting 78 = .ok (.iconst 0, 1) := by decide +kernel
theorem dX5_isResting_79 : decode cX5_isResting 79 = .ok (.ireturn, 1) := by decide +kernel
theorem dX5_isResting_80 : decode cX5_isResting 80 = .ok (.iinc 5 1, 3) := by decide +kernel
theorem dX5_isResting_83 : decode cX5_isResting 83 = .ok (.goto (-40), 3) := by decide +kernel
theorem dX5_isResting_86 : decode cX5_isResting 86 = .ok (.iinc 2 1, 3) := by decide +kernel
theorem dX5_isResting_89 : decode cX5_isResting 89 = .ok (.goto (-87), 3) := by decide +kernel
theorem dX5_isResting_92 : decode cX5_isResting 92 = .ok (.iconst 1, 1) := by decide +kernel
theorem dX5_isResting_93 : decode cX5_isResting 93 = .ok (.ireturn, 1) := by decide +kernel
theorem dX5_rests_0 : decode cX5_rests 0 = .ok (.iload_n 1, 1) := by decide +kernel
theorem dX5_rests_1 : decode cX5_rests 1 = .ok (.i2l, 1) := by decide +kernel
theorem dX5_rests_2 : decode cX5_rests 2 = .ok (.ldc2_w 208, 3) := by decide +kernel
theorem dX5_rests_5 : decode cX5_rests 5 = .ok (.ldc2_w 81, 3) := by decide +kernel
theorem dX5_rests_8 : decode cX5_rests 8 = .ok (.invokestatic 77, 3) := by decide +kernel
theorem dX5_rests_11 : decode cX5_rests 11 = .ok (.ifCond .ne 5, 3) := by decide +kernel
theorem dX5_rests_14 : decode cX5_rests 14 = .ok (.iconst (-1), 1) := by decide +kernel
theorem dX5_rests_15 : decode cX5_rests 15 = .ok (.ireturn, 1) := by decide +kernel
theorem dX5_rests_16 : decode cX5_rests 16 = .ok (.aload_n 0, 1) := by decide +kernel
theorem dX5_rests_17 : decode cX5_rests 17 = .ok (.getfield 7, 3) := by decide +kernel
theorem dX5_rests_20 : decode cX5_rests 20 = .ok (.bipush 12, 2) := by decide +kernel
theorem dX5_rests_22 : decode cX5_rests 22 = .ok (.iaload, 1) := by decide +kernel
theorem dX5_rests_23 : decode cX5_rests 23 = .ok (.istore_n 2, 1) := by decide +kernel
theorem dX5_rests_24 : decode cX5_rests 24 = .ok (.iload_n 2, 1) := by decide +kernel
theorem dX5_rests_25 : decode cX5_rests 25 = .ok (.ifCond .ne 6, 3) := by decide +kernel
theorem dX5_rests_28 : decode cX5_rests 28 = .ok (.bipush (-2), 2) := by decide +kernel
theorem dX5_rests_30 : decode cX5_rests 30 = .ok (.ireturn, 1) := by decide +kernel
theorem dX5_rests_31 : decode cX5_rests 31 = .ok (.iload_n 1, 1) := by decide +kernel
theorem dX5_rests_32 : decode cX5_rests 32 = .ok (.iload_n 2, 1) := by decide +kernel
theorem dX5_rests_33 : decode cX5_rests 33 = .ok (.if_icmp .lt 6, 3) := by decide +kernel
theorem dX5_rests_36 : decode cX5_rests 36 = .ok (.bipush (-4), 2) := by decide +kernel
theorem dX5_rests_38 : decode cX5_rests 38 = .ok (.ireturn, 1) := by decide +kernel
theorem dX5_rests_39 : decode cX5_rests 39 = .ok (.aload_n 0, 1) := by decide +kernel
theorem dX5_rests_40 : decode cX5_rests 40 = .ok (.iconst 0, 1) := by decide +kernel
theorem dX5_rests_41 : decode cX5_rests 41 = .ok (.invokevirtual 194, 3) := by decide +kernel
theorem dX5_rests_44 : decode cX5_rests 44 = .ok (.iconst 1, 1) := by decide +kernel
theorem dX5_rests_45 : decode cX5_rests 45 = .ok (.iconst 2, 1) := by decide +kernel
theorem dX5_rests_46 : decode cX5_rests 46 = .ok (.iload_n 2, 1) := by decide +kernel
theorem dX5_rests_47 : decode cX5_rests 47 = .ok (.imul, 1) := by decide +kernel
theorem dX5_rests_48 : decode cX5_rests 48 = .ok (.ishl, 1) := by decide +kernel
theorem dX5_rests_49 : decode cX5_rests 49 = .ok (.istore_n 3, 1) := by decide +kernel
theorem dX5_rests_50 : decode cX5_rests 50 = .ok (.iconst 0, 1) := by decide +kernel
theorem dX5_rests_51 : decode cX5_rests 51 = .ok (.istore 4, 2) := by decide +kernel
theorem dX5_rests_53 : decode cX5_rests 53 = .ok (.iload 4, 2) := by decide +kernel
theorem dX5_rests_55 : decode cX5_rests 55 = .ok (.iload_n 3, 1) := by decide +kernel
theorem dX5_rests_56 : decode cX5_rests 56 = .ok (.if_icmp .ge 86, 3) := by decide +kernel
theorem dX5_rests_59 : decode cX5_rests 59 = .ok (.iconst 0, 1) := by decide +kernel
theorem dX5_rests_60 : decode cX5_rests 60 = .ok (.istore 5, 2) := by decide +kernel
theorem dX5_rests_62 : decode cX5_rests 62 = .ok (.iload 5, 2) := by decide +kernel
theorem dX5_rests_64 : decode cX5_rests 64 = .ok (.iload_n 2, 1) := by decide +kernel
theorem dX5_rests_65 : decode cX5_rests 65 = .ok (.if_icmp .ge 32, 3) := by decide +kernel
theorem dX5_rests_68 : decode cX5_rests 68 = .ok (.aload_n 0, 1) := by decide +kernel
theorem dX5_rests_69 : decode cX5_rests 69 = .ok (.getfield 25, 3) := by decide +kernel
theorem dX5_rests_72 : decode cX5_rests 72 = .ok (.iload 5, 2) := by decide +kernel
theorem dX5_rests_74 : decode cX5_rests 74 = .ok (.bipush 8, 2) := by decide +kernel
theorem dX5_rests_76 : decode cX5_rests 76 = .ok (.iload 4, 2) := by decide +kernel
theorem dX5_rests_78 : decode cX5_rests 78 = .ok (.iconst 2, 1) := by decide +kernel
theorem dX5_rests_79 : decode cX5_rests 79 = .ok (.iload_n 2, 1) := by decide +kernel
theorem dX5_rests_80 : decode cX5_rests 80 = .ok (.iconst 1, 1) := by decide +kernel
theorem dX5_rests_81 : decode cX5_rests 81 = .ok (.isub, 1) := by decide +kernel
theorem dX5_rests_82 : decode cX5_rests 82 = .ok (.iload 5, 2) := by decide +kernel
theorem dX5_rests_84 : decode cX5_rests 84 = .ok (.isub, 1) := by decide +kernel
theorem dX5_rests_85 : decode cX5_rests 85 = .ok (.imul, 1) := by decide +kernel
theorem dX5_rests_86 : decode cX5_rests 86 = .ok (.ishr, 1) := by decide +kernel
theorem dX5_rests_87 : decode cX5_rests 87 = .ok (.iconst 3, 1) := by decide +kernel
theorem dX5_rests_88 : decode cX5_rests 88 = .ok (.iand, 1) := by decide +kernel
theorem dX5_rests_89 : decode cX5_rests 89 = .ok (.imul, 1) := by decide +kernel
theorem dX5_rests_90 : decode cX5_rests 90 = .ok (.iastore, 1) := by decide +kernel
theorem dX5_rests_91 : decode cX5_rests 91 = .ok (.iinc 5 1, 3) := by decide +kernel
theorem dX5_rests_94 : decode cX5_rests 94 = .ok (.goto (-32), 3) := by decide +kernel
theorem dX5_rests_97 : decode cX5_rests 97 = .ok (.aload_n 0, 1) := by decide +kernel
theorem dX5_rests_98 : decode cX5_rests 98 = .ok (.iconst 0, 1) := by decide +kernel
theorem dX5_rests_99 : decode cX5_rests 99 = .ok (.invokevirtual 191, 3) := by decide +kernel
theorem dX5_rests_102 : decode cX5_rests 102 = .ok (.iconst 0, 1) := by decide +kernel
theorem dX5_rests_103 : decode cX5_rests 103 = .ok (.istore 5, 2) := by decide +kernel
theorem dX5_rests_105 : decode cX5_rests 105 = .ok (.iload 5, 2) := by decide +kernel
theorem dX5_rests_107 : decode cX5_rests 107 = .ok (.iload_n 2, 1) := by decide +kernel
theorem dX5_rests_108 : decode cX5_rests 108 = .ok (.if_icmp .ge 28, 3) := by decide +kernel
theorem dX5_rests_111 : decode cX5_rests 111 = .ok (.aload_n 0, 1) := by decide +kernel
theorem dX5_rests_112 : decode cX5_rests 112 = .ok (.getfield 58, 3) := by decide +kernel
theorem dX5_rests_115 : decode cX5_rests 115 = .ok (.iconst 5, 1) := by decide +kernel
theorem dX5_rests_116 : decode cX5_rests 116 = .ok (.iload 4, 2) := by decide +kernel
theorem dX5_rests_118 : decode cX5_rests 118 = .ok (.imul, 1) := by decide +kernel
theorem dX5_rests_119 : decode cX5_rests 119 = .ok (.iload 5, 2) := by decide +kernel
theorem dX5_rests_121 : decode cX5_rests 121 = .ok (.iadd, 1) := by decide +kernel
theorem dX5_rests_122 : decode cX5_rests 122 = .ok (.aload_n 0, 1) := by decide +kernel
theorem dX5_rests_123 : decode cX5_rests 123 = .ok (.getfield 34, 3) := by decide +kernel
theorem dX5_rests_126 : decode cX5_rests 126 = .ok (.iload 5, 2) := by decide +kernel
theorem dX5_rests_128 : decode cX5_rests 128 = .ok (.iaload, 1) := by decide +kernel
theorem dX5_rests_129 : decode cX5_rests 129 = .ok (.iastore, 1) := by decide +kernel
theorem dX5_rests_130 : decode cX5_rests 130 = .ok (.iinc 5 1, 3) := by decide +kernel
theorem dX5_rests_133 : decode cX5_rests 133 = .ok (.goto (-28), 3) := by decide +kernel
theorem dX5_rests_136 : decode cX5_rests 136 = .ok (.iinc 4 1, 3) := by decide +kernel
theorem dX5_rests_139 : decode cX5_rests 139 = .ok (.goto (-86), 3) := by decide +kernel
theorem dX5_rests_142 : decode cX5_rests 142 = .ok (.iconst 0, 1) := by decide +kernel
theorem dX5_rests_143 : decode cX5_rests 143 = .ok (.istore 4, 2) := by decide +kernel
theorem dX5_rests_145 : decode cX5_rests 145 = .ok (.iconst (-1), 1) := by decide +kernel
theorem dX5_rests_146 : decode cX5_rests 146 = .ok (.istore 5, 2) := by decide +kernel
theorem dX5_rests_148 : decode cX5_rests 148 = .ok (.iconst 0, 1) := by decide +kernel
theorem dX5_rests_149 : decode cX5_rests 149 = .ok (.istore 6, 2) := by decide +kernel
theorem dX5_rests_151 : decode cX5_rests 151 = .ok (.iload 6, 2) := by decide +kernel
theorem dX5_rests_153 : decode cX5_rests 153 = .ok (.iload_n 3, 1) := by decide +kernel
theorem dX5_rests_154 : decode cX5_rests 154 = .ok (.if_icmp .ge 35, 3) := by decide +kernel
theorem dX5_rests_157 : decode cX5_rests 157 = .ok (.aload_n 0, 1) := by decide +kernel
theorem dX5_rests_158 : decode cX5_rests 158 = .ok (.iload 6, 2) := by decide +kernel
theorem dX5_rests_160 : decode cX5_rests 160 = .ok (.invokevirtual 210, 3) := by decide +kernel
theorem dX5_rests_163 : decode cX5_rests 163 = .ok (.ifCond .eq 20, 3) := by decide +kernel
theorem dX5_rests_166 : decode cX5_rests 166 = .ok (.iload 4, 2) := by decide +kernel
theorem dX5_rests_168 : decode cX5_rests 168 = .ok (.ifCond .ne 8, 3) := by decide +kernel
theorem dX5_rests_171 : decode cX5_rests 171 = .ok (.iload 6, 2) := by decide +kernel
theorem dX5_rests_173 : decode cX5_rests 173 = .ok (.goto 5, 3) := by decide +kernel
theorem dX5_rests_176 : decode cX5_rests 176 = .ok (.iload 5, 2) := by decide +kernel
theorem dX5_rests_178 : decode cX5_rests 178 = .ok (.istore 5, 2) := by decide +kernel
theorem dX5_rests_180 : decode cX5_rests 180 = .ok (.iinc 4 1, 3) := by decide +kernel
theorem dX5_rests_183 : decode cX5_rests 183 = .ok (.iinc 6 1, 3) := by decide +kernel
theorem dX5_rests_186 : decode cX5_rests 186 = .ok (.goto (-35), 3) := by decide +kernel
theorem dX5_rests_189 : decode cX5_rests 189 = .ok (.iload_n 1, 1) := by decide +kernel
theorem dX5_rests_190 : decode cX5_rests 190 = .ok (.ifCond .ge 8, 3) := by decide +kernel
theorem dX5_rests_193 : decode cX5_rests 193 = .ok (.iload 4, 2) := by decide +kernel
theorem dX5_rests_195 : decode cX5_rests 195 = .ok (.goto 28, 3) := by decide +kernel
theorem dX5_rests_198 : decode cX5_rests 198 = .ok (.iload 5, 2) := by decide +kernel
theorem dX5_rests_200 : decode cX5_rests 200 = .ok (.ifCond .ge 8, 3) := by decide +kernel
theorem dX5_rests_203 : decode cX5_rests 203 = .ok (.bipush (-4), 2) := by decide +kernel
theorem dX5_rests_205 : decode cX5_rests 205 = .ok (.goto 18, 3) := by decide +kernel
theorem dX5_rests_208 : decode cX5_rests 208 = .ok (.bipush 8, 2) := by decide +kernel
theorem dX5_rests_210 : decode cX5_rests 210 = .ok (.iload 5, 2) := by decide +kernel
theorem dX5_rests_212 : decode cX5_rests 212 = .ok (.iconst 2, 1) := by decide +kernel
theorem dX5_rests_213 : decode cX5_rests 213 = .ok (.iload_n 2, 1) := by decide +kernel
theorem dX5_rests_214 : decode cX5_rests 214 = .ok (.iconst 1, 1) := by decide +kernel
theorem dX5_rests_215 : decode cX5_rests 215 = .ok (.isub, 1) := by decide +kernel
theorem dX5_rests_216 : decode cX5_rests 216 = .ok (.iload_n 1, 1) := by decide +kernel
theorem dX5_rests_217 : decode cX5_rests 217 = .ok (.isub, 1) := by decide +kernel
theorem dX5_rests_218 : decode cX5_rests 218 = .ok (.imul, 1) := by decide +kernel
theorem dX5_rests_219 : decode cX5_rests 219 = .ok (.ishr, 1) := by decide +kernel
theorem dX5_rests_220 : decode cX5_rests 220 = .ok (.iconst 3, 1) := by decide +kernel
theorem dX5_rests_221 : decode cX5_rests 221 = .ok (.iand, 1) := by decide +kernel
theorem dX5_rests_222 : decode cX5_rests 222 = .ok (.imul, 1) := by decide +kernel
theorem dX5_rests_223 : decode cX5_rests 223 = .ok (.ireturn, 1) := by decide +kernel
theorem dX5_nextRow_0 : decode cX5_nextRow 0 = .ok (.iload_n 1, 1) := by decide +kernel
theorem dX5_nextRow_1 : decode cX5_nextRow 1 = .ok (.iconst 2, 1) := by decide +kernel
theorem dX5_nextRow_2 : decode cX5_nextRow 2 = .ok (.isub, 1) := by decide +kernel
theorem dX5_nextRow_3 : decode cX5_nextRow 3 = .ok (.istore_n 2, 1) := by decide +kernel
theorem dX5_nextRow_4 : decode cX5_nextRow 4 = .ok (.iload_n 2, 1) := by decide +kernel
theorem dX5_nextRow_5 : decode cX5_nextRow 5 = .ok (.ifCond .lt 26, 3) := by decide +kernel
theorem dX5_nextRow_8 : decode cX5_nextRow 8 = .ok (.aload_n 0, 1) := by decide +kernel
theorem dX5_nextRow_9 : decode cX5_nextRow 9 = .ok (.getfield 22, 3) := by decide +kernel
theorem dX5_nextRow_12 : decode cX5_nextRow 12 = .ok (.iload_n 2, 1) := by decide +kernel
theorem dX5_nextRow_13 : decode cX5_nextRow 13 = .ok (.iaload, 1) := by decide +kernel
theorem dX5_nextRow_14 : decode cX5_nextRow 14 = .ok (.aload_n 0, 1) := by decide +kernel
theorem dX5_nextRow_15 : decode cX5_nextRow 15 = .ok (.getfield 22, 3) := by decide +kernel
theorem dX5_nextRow_18 : decode cX5_nextRow 18 = .ok (.iload_n 2, 1) := by decide +kernel
theorem dX5_nextRow_19 : decode cX5_nextRow 19 = .ok (.iconst 1, 1) := by decide +kernel
theorem dX5_nextRow_20 : decode cX5_nextRow 20 = .ok (.iadd, 1) := by decide +kernel
theorem dX5_nextRow_21 : decode cX5_nextRow 21 = .ok (.iaload, 1) := by decide +kernel
theorem dX5_nextRow_22 : decode cX5_nextRow 22 = .ok (.if_icmp .le 9, 3) := by decide +kernel
theorem dX5_nextRow_25 : decode cX5_nextRow 25 = .ok (.iinc 2 (-1), 3) := by decide +kernel
theorem dX5_nextRow_28 : decode cX5_nextRow 28 = .ok (.goto (-24), 3) := by decide +kernel
theorem dX5_nextRow_31 : decode cX5_nextRow 31 = .ok (.iload_n 2, 1) := by decide +kernel
theorem dX5_nextRow_32 : decode cX5_nextRow 32 = .ok (.ifCond .ge 5, 3) := by decide +kernel
theorem dX5_nextRow_35 : decode cX5_nextRow 35 = .ok (.iconst 0, 1) := by decide +kernel
theorem dX5_nextRow_36 : decode cX5_nextRow 36 = .ok (.ireturn, 1) := by decide +kernel
theorem dX5_nextRow_37 : decode cX5_nextRow 37 = .ok (.iload_n 1, 1) := by decide +kernel
theorem dX5_nextRow_38 : decode cX5_nextRow 38 = .ok (.iconst 1, 1) := by decide +kernel
theorem dX5_nextRow_39 : decode cX5_nextRow 39 = .ok (.isub, 1) := by decide +kernel
theorem dX5_nextRow_40 : decode cX5_nextRow 40 = .ok (.istore_n 3, 1) := by decide +kernel

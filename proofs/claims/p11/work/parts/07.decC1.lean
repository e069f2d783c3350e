theorem dX4_which_78 : decode cX4_which 78 = .ok (.bipush 32, 2) := by decide +kernel
theorem dX4_which_80 : decode cX4_which 80 = .ok (.if_icmp .ge 65, 3) := by decide +kernel
theorem dX4_which_83 : decode cX4_which 83 = .ok (.iload 8, 2) := by decide +kernel
theorem dX4_which_85 : decode cX4_which 85 = .ok (.ifCond .eq 15, 3) := by decide +kernel
theorem dX4_which_88 : decode cX4_which 88 = .ok (.aload_n 0, 1) := by decide +kernel
theorem dX4_which_89 : decode cX4_which 89 = .ok (.iload 8, 2) := by decide +kernel
theorem dX4_which_91 : decode cX4_which 91 = .ok (.invokevirtual 198, 3) := by decide +kernel
theorem dX4_which_94 : decode cX4_which 94 = .ok (.ifCond .ne 6, 3) := by decide +kernel
theorem dX4_which_97 : decode cX4_which 97 = .ok (.goto 42, 3) := by decide +kernel
theorem dX4_which_100 : decode cX4_which 100 = .ok (.aload_n 0, 1) := by decide +kernel
theorem dX4_which_101 : decode cX4_which 101 = .ok (.getfield 26, 3) := by decide +kernel
theorem dX4_which_104 : decode cX4_which 104 = .ok (.aload_n 0, 1) := by decide +kernel
theorem dX4_which_105 : decode cX4_which 105 = .ok (.getfield 10, 3) := by decide +kernel
theorem dX4_which_108 : decode cX4_which 108 = .ok (.iload 8, 2) := by decide +kernel
theorem dX4_which_110 : decode cX4_which 110 = .ok (.invokevirtual 186, 3) := by decide +kernel
theorem dX4_which_113 : decode cX4_which 113 = .ok (.aload_n 0, 1) := by decide +kernel
theorem dX4_which_114 : decode cX4_which 114 = .ok (.iload_n 1, 1) := by decide +kernel
theorem dX4_which_115 : decode cX4_which 115 = .ok (.iload_n 3, 1) := by decide +kernel
theorem dX4_which_116 : decode cX4_which 116 = .ok (.invokevirtual 212, 3) := by decide +kernel
theorem dX4_which_119 : decode cX4_which 119 = .ok (.ifCond .eq 20, 3) := by decide +kernel
theorem dX4_which_122 : decode cX4_which 122 = .ok (.iload 6, 2) := by decide +kernel
theorem dX4_which_124 : decode cX4_which 124 = .ok (.ifCond .ne 8, 3) := by decide +kernel
theorem dX4_which_127 : decode cX4_which 127 = .ok (.iload 8, 2) := by decide +kernel
theorem dX4_which_129 : decode cX4_which 129 = .ok (.goto 5, 3) := by decide +kernel
theorem dX4_which_132 : decode cX4_which 132 = .ok (.iload 7, 2) := by decide +kernel
theorem dX4_which_134 : decode cX4_which 134 = .ok (.istore 7, 2) := by decide +kernel
theorem dX4_which_136 : decode cX4_which 136 = .ok (.iinc 6 1, 3) := by decide +kernel
theorem dX4_which_139 : decode cX4_which 139 = .ok (.iinc 8 1, 3) := by decide +kernel
theorem dX4_which_142 : decode cX4_which 142 = .ok (.goto (-66), 3) := by decide +kernel
theorem dX4_which_145 : decode cX4_which 145 = .ok (.iload 4, 2) := by decide +kernel
theorem dX4_which_147 : decode cX4_which 147 = .ok (.ifCond .ne 8, 3) := by decide +kernel
theorem dX4_which_150 : decode cX4_which 150 = .ok (.iload 6, 2) := by decide +kernel
theorem dX4_which_152 : decode cX4_which 152 = .ok (.goto 5, 3) := by decide +kernel
theorem dX4_which_155 : decode cX4_which 155 = .ok (.iload 7, 2) := by decide +kernel
theorem dX4_which_157 : decode cX4_which 157 = .ok (.ireturn, 1) := by decide +kernel
theorem dX4_film_0 : decode cX4_film 0 = .ok (.aload_n 0, 1) := by decide +kernel
theorem dX4_film_1 : decode cX4_film 1 = .ok (.getfield 40, 3) := by decide +kernel
theorem dX4_film_4 : decode cX4_film 4 = .ok (.iload_n 1, 1) := by decide +kernel
theorem dX4_film_5 : decode cX4_film 5 = .ok (.iload_n 2, 1) := by decide +kernel
theorem dX4_film_6 : decode cX4_film 6 = .ok (.iload_n 3, 1) := by decide +kernel
theorem dX4_film_7 : decode cX4_film 7 = .ok (.iconst 2, 1) := by decide +kernel
theorem dX4_film_8 : decode cX4_film 8 = .ok (.aload_n 0, 1) := by decide +kernel
theorem dX4_film_9 : decode cX4_film 9 = .ok (.getfield 10, 3) := by decide +kernel
theorem dX4_film_12 : decode cX4_film 12 = .ok (.getfield 122, 3) := by decide +kernel
theorem dX4_film_15 : decode cX4_film 15 = .ok (.imul, 1) := by decide +kernel
theorem dX4_film_16 : decode cX4_film 16 = .ok (.invokevirtual 208, 3) := by decide +kernel
theorem dX4_film_19 : decode cX4_film 19 = .ok (.istore 4, 2) := by decide +kernel
theorem dX4_film_21 : decode cX4_film 21 = .ok (.iload 4, 2) := by decide +kernel
theorem dX4_film_23 : decode cX4_film 23 = .ok (.ifCond .ge 6, 3) := by decide +kernel
theorem dX4_film_26 : decode cX4_film 26 = .ok (.iload 4, 2) := by decide +kernel
theorem dX4_film_28 : decode cX4_film 28 = .ok (.ireturn, 1) := by decide +kernel
theorem dX4_film_29 : decode cX4_film 29 = .ok (.aload_n 0, 1) := by decide +kernel
theorem dX4_film_30 : decode cX4_film 30 = .ok (.getfield 10, 3) := by decide +kernel
theorem dX4_film_33 : decode cX4_film 33 = .ok (.getfield 122, 3) := by decide +kernel
theorem dX4_film_36 : decode cX4_film 36 = .ok (.ifCond .gt 6, 3) := by decide +kernel
theorem dX4_film_39 : decode cX4_film 39 = .ok (.bipush (-2), 2) := by decide +kernel
theorem dX4_film_41 : decode cX4_film 41 = .ok (.ireturn, 1) := by decide +kernel
theorem dX4_film_42 : decode cX4_film 42 = .ok (.aload_n 0, 1) := by decide +kernel
theorem dX4_film_43 : decode cX4_film 43 = .ok (.getfield 26, 3) := by decide +kernel
theorem dX4_film_46 : decode cX4_film 46 = .ok (.aload_n 0, 1) := by decide +kernel
theorem dX4_film_47 : decode cX4_film 47 = .ok (.getfield 10, 3) := by decide +kernel
theorem dX4_film_50 : decode cX4_film 50 = .ok (.invokevirtual 135, 3) := by decide +kernel
theorem dX4_film_53 : decode cX4_film 53 = .ok (.iconst 0, 1) := by decide +kernel
theorem dX4_film_54 : decode cX4_film 54 = .ok (.istore 5, 2) := by decide +kernel
theorem dX4_film_56 : decode cX4_film 56 = .ok (.iload 5, 2) := by decide +kernel
theorem dX4_film_58 : decode cX4_film 58 = .ok (.bipush 6, 2) := by decide +kernel
theorem dX4_film_60 : decode cX4_film 60 = .ok (.if_icmp .ge 113, 3) := by decide +kernel
theorem dX4_film_63 : decode cX4_film 63 = .ok (.iload 5, 2) := by decide +kernel
theorem dX4_film_65 : decode cX4_film 65 = .ok (.aload_n 0, 1) := by decide +kernel
theorem dX4_film_66 : decode cX4_film 66 = .ok (.getfield 10, 3) := by decide +kernel
theorem dX4_film_69 : decode cX4_film 69 = .ok (.getfield 122, 3) := by decide +kernel
theorem dX4_film_72 : decode cX4_film 72 = .ok (.if_icmp .ge 101, 3) := by decide +kernel
theorem dX4_film_75 : decode cX4_film 75 = .ok (.aload_n 0, 1) := by decide +kernel
theorem dX4_film_76 : decode cX4_film 76 = .ok (.getfield 26, 3) := by decide +kernel
theorem dX4_film_79 : decode cX4_film 79 = .ok (.getfield 139, 3) := by decide +kernel
theorem dX4_film_82 : decode cX4_film 82 = .ok (.iload 5, 2) := by decide +kernel
theorem dX4_film_84 : decode cX4_film 84 = .ok (.iaload, 1) := by decide +kernel
theorem dX4_film_85 : decode cX4_film 85 = .ok (.ifCond .ge 7, 3) := by decide +kernel
theorem dX4_film_88 : decode cX4_film 88 = .ok (.iconst 1, 1) := by decide +kernel
theorem dX4_film_89 : decode cX4_film 89 = .ok (.goto 4, 3) := by decide +kernel
theorem dX4_film_92 : decode cX4_film 92 = .ok (.iconst 0, 1) := by decide +kernel
theorem dX4_film_93 : decode cX4_film 93 = .ok (.istore 6, 2) := by decide +kernel
theorem dX4_film_95 : decode cX4_film 95 = .ok (.aload_n 0, 1) := by decide +kernel
theorem dX4_film_96 : decode cX4_film 96 = .ok (.getfield 40, 3) := by decide +kernel
theorem dX4_film_99 : decode cX4_film 99 = .ok (.iload_n 1, 1) := by decide +kernel
theorem dX4_film_100 : decode cX4_film 100 = .ok (.iload_n 3, 1) := by decide +kernel
theorem dX4_film_101 : decode cX4_film 101 = .ok (.iconst 2, 1) := by decide +kernel
theorem dX4_film_102 : decode cX4_film 102 = .ok (.iload 5, 2) := by decide +kernel
theorem dX4_film_104 : decode cX4_film 104 = .ok (.imul, 1) := by decide +kernel
theorem dX4_film_105 : decode cX4_film 105 = .ok (.iadd, 1) := by decide +kernel
theorem dX4_film_106 : decode cX4_film 106 = .ok (.iload 6, 2) := by decide +kernel
theorem dX4_film_108 : decode cX4_film 108 = .ok (.ifCond .eq 9, 3) := by decide +kernel
theorem dX4_film_111 : decode cX4_film 111 = .ok (.ldc2_w 215, 3) := by decide +kernel
theorem dX4_film_114 : decode cX4_film 114 = .ok (.goto 14, 3) := by decide +kernel
theorem dX4_film_117 : decode cX4_film 117 = .ok (.aload_n 0, 1) := by decide +kernel
theorem dX4_film_118 : decode cX4_film 118 = .ok (.getfield 26, 3) := by decide +kernel
theorem dX4_film_121 : decode cX4_film 121 = .ok (.getfield 139, 3) := by decide +kernel
theorem dX4_film_124 : decode cX4_film 124 = .ok (.iload 5, 2) := by decide +kernel
theorem dX4_film_126 : decode cX4_film 126 = .ok (.iaload, 1) := by decide +kernel
theorem dX4_film_127 : decode cX4_film 127 = .ok (.i2l, 1) := by decide +kernel
theorem dX4_film_128 : decode cX4_film 128 = .ok (.invokevirtual 217, 3) := by decide +kernel
theorem dX4_film_131 : decode cX4_film 131 = .ok (.aload_n 0, 1) := by decide +kernel
theorem dX4_film_132 : decode cX4_film 132 = .ok (.getfield 40, 3) := by decide +kernel
theorem dX4_film_135 : decode cX4_film 135 = .ok (.iload_n 1, 1) := by decide +kernel
theorem dX4_film_136 : decode cX4_film 136 = .ok (.iload_n 3, 1) := by decide +kernel
theorem dX4_film_137 : decode cX4_film 137 = .ok (.iconst 2, 1) := by decide +kernel
theorem dX4_film_138 : decode cX4_film 138 = .ok (.iload 5, 2) := by decide +kernel
theorem dX4_film_140 : decode cX4_film 140 = .ok (.imul, 1) := by decide +kernel
theorem dX4_film_141 : decode cX4_film 141 = .ok (.iadd, 1) := by decide +kernel
theorem dX4_film_142 : decode cX4_film 142 = .ok (.iconst 1, 1) := by decide +kernel
theorem dX4_film_143 : decode cX4_film 143 = .ok (.iadd, 1) := by decide +kernel
theorem dX4_film_144 : decode cX4_film 144 = .ok (.iload 6, 2) := by decide +kernel
theorem dX4_film_146 : decode cX4_film 146 = .ok (.ifCond .eq 7, 3) := by decide +kernel
theorem dX4_film_149 : decode cX4_film 149 = .ok (.lconst 0, 1) := by decide +kernel
theorem dX4_film_150 : decode cX4_film 150 = .ok (.goto 14, 3) := by decide +kernel
theorem dX4_film_153 : decode cX4_film 153 = .ok (.aload_n 0, 1) := by decide +kernel
theorem dX4_film_154 : decode cX4_film 154 = .ok (.getfield 26, 3) := by decide +kernel
theorem dX4_film_157 : decode cX4_film 157 = .ok (.getfield 142, 3) := by decide +kernel
theorem dX4_film_160 : decode cX4_film 160 = .ok (.iload 5, 2) := by decide +kernel
theorem dX4_film_162 : decode cX4_film 162 = .ok (.iaload, 1) := by decide +kernel
theorem dX4_film_163 : decode cX4_film 163 = .ok (.i2l, 1) := by decide +kernel
theorem dX4_film_164 : decode cX4_film 164 = .ok (.invokevirtual 217, 3) := by decide +kernel
theorem dX4_film_167 : decode cX4_film 167 = .ok (.iinc 5 1, 3) := by decide +kernel
theorem dX4_film_170 : decode cX4_film 170 = .ok (.goto (-114), 3) := by decide +kernel
theorem dX4_film_173 : decode cX4_film 173 = .ok (.iconst 2, 1) := by decide +kernel
theorem dX4_film_174 : decode cX4_film 174 = .ok (.aload_n 0, 1) := by decide +kernel
theorem dX4_film_175 : decode cX4_film 175 = .ok (.getfield 10, 3) := by decide +kernel
theorem dX4_film_178 : decode cX4_film 178 = .ok (.getfield 122, 3) := by decide +kernel
theorem dX4_film_181 : decode cX4_film 181 = .ok (.imul, 1) := by decide +kernel
theorem dX4_film_182 : decode cX4_film 182 = .ok (.ireturn, 1) := by decide +kernel
theorem dX4_sheet_0 : decode cX4_sheet 0 = .ok (.iload_n 1, 1) := by decide +kernel
theorem dX4_sheet_1 : decode cX4_sheet 1 = .ok (.invokestatic 221, 3) := by decide +kernel
theorem dX4_sheet_4 : decode cX4_sheet 4 = .ok (.ifCond .eq 16, 3) := by decide +kernel
theorem dX4_sheet_7 : decode cX4_sheet 7 = .ok (.iload_n 2, 1) := by decide +kernel
theorem dX4_sheet_8 : decode cX4_sheet 8 = .ok (.invokestatic 224, 3) := by decide +kernel
theorem dX4_sheet_11 : decode cX4_sheet 11 = .ok (.ifCond .eq 9, 3) := by decide +kernel
theorem dX4_sheet_14 : decode cX4_sheet 14 = .ok (.iload_n 3, 1) := by decide +kernel
theorem dX4_sheet_15 : decode cX4_sheet 15 = .ok (.bipush 16, 2) := by decide +kernel
theorem dX4_sheet_17 : decode cX4_sheet 17 = .ok (.if_icmp .le 5, 3) := by decide +kernel
theorem dX4_sheet_20 : decode cX4_sheet 20 = .ok (.iconst (-1), 1) := by decide +kernel
theorem dX4_sheet_21 : decode cX4_sheet 21 = .ok (.ireturn, 1) := by decide +kernel
theorem dX4_sheet_22 : decode cX4_sheet 22 = .ok (.iload_n 3, 1) := by decide +kernel
theorem dX4_sheet_23 : decode cX4_sheet 23 = .ok (.ifCond .ge 6, 3) := by decide +kernel
theorem dX4_sheet_26 : decode cX4_sheet 26 = .ok (.bipush (-14), 2) := by decide +kernel
theorem dX4_sheet_28 : decode cX4_sheet 28 = .ok (.ireturn, 1) := by decide +kernel
theorem dX4_sheet_29 : decode cX4_sheet 29 = .ok (.aload_n 0, 1) := by decide +kernel
theorem dX4_sheet_30 : decode cX4_sheet 30 = .ok (.getfield 40, 3) := by decide +kernel
theorem dX4_sheet_33 : decode cX4_sheet 33 = .ok (.iload_n 1, 1) := by decide +kernel
theorem dX4_sheet_34 : decode cX4_sheet 34 = .ok (.iload_n 2, 1) := by decide +kernel
theorem dX4_sheet_35 : decode cX4_sheet 35 = .ok (.iload_n 3, 1) := by decide +kernel
theorem dX4_sheet_36 : decode cX4_sheet 36 = .ok (.invokevirtual 227, 3) := by decide +kernel
theorem dX4_sheet_39 : decode cX4_sheet 39 = .ok (.iload_n 3, 1) := by decide +kernel
theorem dX4_sheet_40 : decode cX4_sheet 40 = .ok (.ireturn, 1) := by decide +kernel
theorem dX4_drop_0 : decode cX4_drop 0 = .ok (.iload_n 1, 1) := by decide +kernel
theorem dX4_drop_1 : decode cX4_drop 1 = .ok (.invokestatic 221, 3) := by decide +kernel
theorem dX4_drop_4 : decode cX4_drop 4 = .ok (.ifCond .ne 5, 3) := by decide +kernel
theorem dX4_drop_7 : decode cX4_drop 7 = .ok (.iconst (-1), 1) := by decide +kernel
theorem dX4_drop_8 : decode cX4_drop 8 = .ok (.ireturn, 1) := by decide +kernel
theorem dX4_drop_9 : decode cX4_drop 9 = .ok (.aload_n 0, 1) := by decide +kernel
theorem dX4_drop_10 : decode cX4_drop 10 = .ok (.getfield 40, 3) := by decide +kernel
theorem dX4_drop_13 : decode cX4_drop 13 = .ok (.getfield 231, 3) := by decide +kernel
theorem dX4_drop_16 : decode cX4_drop 16 = .ok (.iload_n 1, 1) := by decide +kernel
theorem dX4_drop_17 : decode cX4_drop 17 = .ok (.iaload, 1) := by decide +kernel
theorem dX4_drop_18 : decode cX4_drop 18 = .ok (.ifCond .ge 6, 3) := by decide +kernel
theorem dX4_drop_21 : decode cX4_drop 21 = .ok (.bipush (-11), 2) := by decide +kernel
theorem dX4_drop_23 : decode cX4_drop 23 = .ok (.ireturn, 1) := by decide +kernel
theorem dX4_drop_24 : decode cX4_drop 24 = .ok (.aload_n 0, 1) := by decide +kernel
theorem dX4_drop_25 : decode cX4_drop 25 = .ok (.getfield 40, 3) := by decide +kernel
theorem dX4_drop_28 : decode cX4_drop 28 = .ok (.getfield 231, 3) := by decide +kernel
theorem dX4_drop_31 : decode cX4_drop 31 = .ok (.iload_n 1, 1) := by decide +kernel
theorem dX4_drop_32 : decode cX4_drop 32 = .ok (.iconst (-1), 1) := by decide +kernel
theorem dX4_drop_33 : decode cX4_drop 33 = .ok (.iastore, 1) := by decide +kernel
theorem dX4_drop_34 : decode cX4_drop 34 = .ok (.aload_n 0, 1) := by decide +kernel
theorem dX4_drop_35 : decode cX4_drop 35 = .ok (.getfield 40, 3) := by decide +kernel
theorem dX4_drop_38 : decode cX4_drop 38 = .ok (.getfield 234, 3) := by decide +kernel
theorem dX4_drop_41 : decode cX4_drop 41 = .ok (.iload_n 1, 1) := by decide +kernel
theorem dX4_drop_42 : decode cX4_drop 42 = .ok (.iaload, 1) := by decide +kernel
theorem dX4_drop_43 : decode cX4_drop 43 = .ok (.ireturn, 1) := by decide +kernel
theorem dX4_item_0 : decode cX4_item 0 = .ok (.aload_n 0, 1) := by decide +kernel
theorem dX4_item_1 : decode cX4_item 1 = .ok (.getfield 40, 3) := by decide +kernel
theorem dX4_item_4 : decode cX4_item 4 = .ok (.iload_n 1, 1) := by decide +kernel
theorem dX4_item_5 : decode cX4_item 5 = .ok (.iload_n 2, 1) := by decide +kernel
theorem dX4_item_6 : decode cX4_item 6 = .ok (.iload_n 3, 1) := by decide +kernel
theorem dX4_item_7 : decode cX4_item 7 = .ok (.iconst 1, 1) := by decide +kernel
theorem dX4_item_8 : decode cX4_item 8 = .ok (.invokevirtual 208, 3) := by decide +kernel
theorem dX4_item_11 : decode cX4_item 11 = .ok (.istore 6, 2) := by decide +kernel
theorem dX4_item_13 : decode cX4_item 13 = .ok (.iload 6, 2) := by decide +kernel
theorem dX4_item_15 : decode cX4_item 15 = .ok (.ifCond .ge 6, 3) := by decide +kernel
theorem dX4_item_18 : decode cX4_item 18 = .ok (.iload 6, 2) := by decide +kernel
theorem dX4_item_20 : decode cX4_item 20 = .ok (.ireturn, 1) := by decide +kernel
theorem dX4_item_21 : decode cX4_item 21 = .ok (.aload_n 0, 1) := by decide +kernel
theorem dX4_item_22 : decode cX4_item 22 = .ok (.getfield 40, 3) := by decide +kernel
theorem dX4_item_25 : decode cX4_item 25 = .ok (.iload_n 1, 1) := by decide +kernel
theorem dX4_item_26 : decode cX4_item 26 = .ok (.iload_n 3, 1) := by decide +kernel
theorem dX4_item_27 : decode cX4_item 27 = .ok (.lload 4, 2) := by decide +kernel
theorem dX4_item_29 : decode cX4_item 29 = .ok (.invokevirtual 217, 3) := by decide +kernel
theorem dX4_item_32 : decode cX4_item 32 = .ok (.iconst 1, 1) := by decide +kernel
theorem dX4_item_33 : decode cX4_item 33 = .ok (.ireturn, 1) := by decide +kernel
theorem dX4_copy_0 : decode cX4_copy 0 = .ok (.iload_n 1, 1) := by decide +kernel
theorem dX4_copy_1 : decode cX4_copy 1 = .ok (.invokestatic 221, 3) := by decide +kernel
theorem dX4_copy_4 : decode cX4_copy 4 = .ok (.ifCond .eq 10, 3) := by decide +kernel
theorem dX4_copy_7 : decode cX4_copy 7 = .ok (.iload_n 3, 1) := by decide +kernel
theorem dX4_copy_8 : decode cX4_copy 8 = .ok (.invokestatic 221, 3) := by decide +kernel
theorem dX4_copy_11 : decode cX4_copy 11 = .ok (.ifCond .ne 5, 3) := by decide +kernel
theorem dX4_copy_14 : decode cX4_copy 14 = .ok (.iconst (-1), 1) := by decide +kernel
theorem dX4_copy_15 : decode cX4_copy 15 = .ok (.ireturn, 1) := by decide +kernel
theorem dX4_copy_16 : decode cX4_copy 16 = .ok (.aload_n 0, 1) := by decide +kernel
theorem dX4_copy_17 : decode cX4_copy 17 = .ok (.getfield 40, 3) := by decide +kernel
theorem dX4_copy_20 : decode cX4_copy 20 = .ok (.getfield 231, 3) := by decide +kernel
theorem dX4_copy_23 : decode cX4_copy 23 = .ok (.iload_n 1, 1) := by decide +kernel
theorem dX4_copy_24 : decode cX4_copy 24 = .ok (.iaload, 1) := by decide +kernel
theorem dX4_copy_25 : decode cX4_copy 25 = .ok (.ifCond .lt 15, 3) := by decide +kernel
theorem dX4_copy_28 : decode cX4_copy 28 = .ok (.aload_n 0, 1) := by decide +kernel
theorem dX4_copy_29 : decode cX4_copy 29 = .ok (.getfield 40, 3) := by decide +kernel
theorem dX4_copy_32 : decode cX4_copy 32 = .ok (.getfield 231, 3) := by decide +kernel
theorem dX4_copy_35 : decode cX4_copy 35 = .ok (.iload_n 3, 1) := by decide +kernel
theorem dX4_copy_36 : decode cX4_copy 36 = .ok (.iaload, 1) := by decide +kernel
theorem dX4_copy_37 : decode cX4_copy 37 = .ok (.ifCond .ge 6, 3) := by decide +kernel
theorem dX4_copy_40 : decode cX4_copy 40 = .ok (.bipush (-11), 2) := by decide +kernel
theorem dX4_copy_42 : decode cX4_copy 42 = .ok (.ireturn, 1) := by decide +kernel
theorem dX4_copy_43 : decode cX4_copy 43 = .ok (.aload_n 0, 1) := by decide +kernel
theorem dX4_copy_44 : decode cX4_copy 44 = .ok (.getfield 40, 3) := by decide +kernel
theorem dX4_copy_47 : decode cX4_copy 47 = .ok (.getfield 231, 3) := by decide +kernel
theorem dX4_copy_50 : decode cX4_copy 50 = .ok (.iload_n 1, 1) := by decide +kernel
theorem dX4_copy_51 : decode cX4_copy 51 = .ok (.iaload, 1) := by decide +kernel
theorem dX4_copy_52 : decode cX4_copy 52 = .ok (.aload_n 0, 1) := by decide +kernel
theorem dX4_copy_53 : decode cX4_copy 53 = .ok (.getfield 40, 3) := by decide +kernel
theorem dX4_copy_56 : decode cX4_copy 56 = .ok (.getfield 231, 3) := by decide +kernel
theorem dX4_copy_59 : decode cX4_copy 59 = .ok (.iload_n 3, 1) := by decide +kernel
theorem dX4_copy_60 : decode cX4_copy 60 = .ok (.iaload, 1) := by decide +kernel
theorem dX4_copy_61 : decode cX4_copy 61 = .ok (.if_icmp .eq 6, 3) := by decide +kernel
theorem dX4_copy_64 : decode cX4_copy 64 = .ok (.bipush (-12), 2) := by decide +kernel
theorem dX4_copy_66 : decode cX4_copy 66 = .ok (.ireturn, 1) := by decide +kernel
theorem dX4_copy_67 : decode cX4_copy 67 = .ok (.aload_n 0, 1) := by decide +kernel
theorem dX4_copy_68 : decode cX4_copy 68 = .ok (.getfield 40, 3) := by decide +kernel
theorem dX4_copy_71 : decode cX4_copy 71 = .ok (.iload_n 1, 1) := by decide +kernel
theorem dX4_copy_72 : decode cX4_copy 72 = .ok (.iload_n 2, 1) := by decide +kernel
theorem dX4_copy_73 : decode cX4_copy 73 = .ok (.iload 5, 2) := by decide +kernel
theorem dX4_copy_75 : decode cX4_copy 75 = .ok (.invokevirtual 237, 3) := by decide +kernel
theorem dX4_copy_78 : decode cX4_copy 78 = .ok (.ifCond .eq 18, 3) := by decide +kernel
theorem dX4_copy_81 : decode cX4_copy 81 = .ok (.aload_n 0, 1) := by decide +kernel
theorem dX4_copy_82 : decode cX4_copy 82 = .ok (.getfield 40, 3) := by decide +kernel
theorem dX4_copy_85 : decode cX4_copy 85 = .ok (.iload_n 3, 1) := by decide +kernel
theorem dX4_copy_86 : decode cX4_copy 86 = .ok (.iload 4, 2) := by decide +kernel
theorem dX4_copy_88 : decode cX4_copy 88 = .ok (.iload 5, 2) := by decide +kernel
theorem dX4_copy_90 : decode cX4_copy 90 = .ok (.invokevirtual 237, 3) := by decide +kernel
theorem dX4_copy_93 : decode cX4_copy 93 = .ok (.ifCond .ne 6, 3) := by decide +kernel
theorem dX4_copy_96 : decode cX4_copy 96 = .ok (.bipush (-13), 2) := by decide +kernel
theorem dX4_copy_98 : decode cX4_copy 98 = .ok (.ireturn, 1) := by decide +kernel
theorem dX4_copy_99 : decode cX4_copy 99 = .ok (.aload_n 0, 1) := by decide +kernel
theorem dX4_copy_100 : decode cX4_copy 100 = .ok (.getfield 40, 3) := by decide +kernel
theorem dX4_copy_103 : decode cX4_copy 103 = .ok (.getfield 241, 3) := by decide +kernel
theorem dX4_copy_106 : decode cX4_copy 106 = .ok (.iload_n 1, 1) := by decide +kernel
theorem dX4_copy_107 : decode cX4_copy 107 = .ok (.bipush 16, 2) := by decide +kernel
theorem dX4_copy_109 : decode cX4_copy 109 = .ok (.imul, 1) := by decide +kernel
theorem dX4_copy_110 : decode cX4_copy 110 = .ok (.iload_n 2, 1) := by decide +kernel
theorem dX4_copy_111 : decode cX4_copy 111 = .ok (.iadd, 1) := by decide +kernel
theorem dX4_copy_112 : decode cX4_copy 112 = .ok (.aload_n 0, 1) := by decide +kernel
theorem dX4_copy_113 : decode cX4_copy 113 = .ok (.getfield 40, 3) := by decide +kernel
theorem dX4_copy_116 : decode cX4_copy 116 = .ok (.getfield 241, 3) := by decide +kernel
theorem dX4_copy_119 : decode cX4_copy 119 = .ok (.iload_n 3, 1) := by decide +kernel
theorem dX4_copy_120 : decode cX4_copy 120 = .ok (.bipush 16, 2) := by decide +kernel
theorem dX4_copy_122 : decode cX4_copy 122 = .ok (.imul, 1) := by decide +kernel
theorem dX4_copy_123 : decode cX4_copy 123 = .ok (.iload 4, 2) := by decide +kernel
theorem dX4_copy_125 : decode cX4_copy 125 = .ok (.iadd, 1) := by decide +kernel
theorem dX4_copy_126 : decode cX4_copy 126 = .ok (.iload 5, 2) := by decide +kernel
theorem dX4_copy_128 : decode cX4_copy 128 = .ok (.invokestatic 116, 3) := by decide +kernel
theorem dX4_copy_131 : decode cX4_copy 131 = .ok (.iload 5, 2) := by decide +kernel
theorem dX4_copy_133 : decode cX4_copy 133 = .ok (.ireturn, 1) := by decide +kernel
theorem dX4_fitsRule_0 : decode cX4_fitsRule 0 = .ok (.iload_n 0, 1) := by decide +kernel
theorem dX4_fitsRule_1 : decode cX4_fitsRule 1 = .ok (.ifCond .lt 30, 3) := by decide +kernel
theorem dX4_fitsRule_4 : decode cX4_fitsRule 4 = .ok (.iload_n 0, 1) := by decide +kernel
theorem dX4_fitsRule_5 : decode cX4_fitsRule 5 = .ok (.iconst 5, 1) := by decide +kernel
theorem dX4_fitsRule_6 : decode cX4_fitsRule 6 = .ok (.if_icmp .ge 25, 3) := by decide +kernel
theorem dX4_fitsRule_9 : decode cX4_fitsRule 9 = .ok (.iload_n 1, 1) := by decide +kernel
theorem dX4_fitsRule_10 : decode cX4_fitsRule 10 = .ok (.getstatic 245, 3) := by decide +kernel
theorem dX4_fitsRule_13 : decode cX4_fitsRule 13 = .ok (.iload_n 0, 1) := by decide +kernel
theorem dX4_fitsRule_14 : decode cX4_fitsRule 14 = .ok (.iaload, 1) := by decide +kernel
theorem dX4_fitsRule_15 : decode cX4_fitsRule 15 = .ok (.if_icmp .lt 16, 3) := by decide +kernel
theorem dX4_fitsRule_18 : decode cX4_fitsRule 18 = .ok (.iload_n 1, 1) := by decide +kernel
theorem dX4_fitsRule_19 : decode cX4_fitsRule 19 = .ok (.getstatic 248, 3) := by decide +kernel
theorem dX4_fitsRule_22 : decode cX4_fitsRule 22 = .ok (.iload_n 0, 1) := by decide +kernel
theorem dX4_fitsRule_23 : decode cX4_fitsRule 23 = .ok (.iaload, 1) := by decide +kernel
theorem dX4_fitsRule_24 : decode cX4_fitsRule 24 = .ok (.if_icmp .gt 7, 3) := by decide +kernel
theorem dX4_fitsRule_27 : decode cX4_fitsRule 27 = .ok (.iconst 1, 1) := by decide +kernel
theorem dX4_fitsRule_28 : decode cX4_fitsRule 28 = .ok (.goto 4, 3) := by decide +kernel
theorem dX4_fitsRule_31 : decode cX4_fitsRule 31 = .ok (.iconst 0, 1) := by decide +kernel
theorem dX4_fitsRule_32 : decode cX4_fitsRule 32 = .ok (.ireturn, 1) := by decide +kernel
theorem dX4_isKind_0 : decode cX4_isKind 0 = .ok (.iload_n 0, 1) := by decide +kernel
theorem dX4_isKind_1 : decode cX4_isKind 1 = .ok (.ifCond .lt 12, 3) := by decide +kernel
theorem dX4_isKind_4 : decode cX4_isKind 4 = .ok (.iload_n 0, 1) := by decide +kernel
theorem dX4_isKind_5 : decode cX4_isKind 5 = .ok (.iconst 4, 1) := by decide +kernel
theorem dX4_isKind_6 : decode cX4_isKind 6 = .ok (.if_icmp .ge 7, 3) := by decide +kernel
theorem dX4_isKind_9 : decode cX4_isKind 9 = .ok (.iconst 1, 1) := by decide +kernel
theorem dX4_isKind_10 : decode cX4_isKind 10 = .ok (.goto 4, 3) := by decide +kernel
theorem dX4_isKind_13 : decode cX4_isKind 13 = .ok (.iconst 0, 1) := by decide +kernel
theorem dX4_isKind_14 : decode cX4_isKind 14 = .ok (.ireturn, 1) := by decide +kernel
theorem dX4_isSheet_0 : decode cX4_isSheet 0 = .ok (.iload_n 0, 1) := by decide +kernel
theorem dX4_isSheet_1 : decode cX4_isSheet 1 = .ok (.ifCond .lt 12, 3) := by decide +kernel
theorem dX4_isSheet_4 : decode cX4_isSheet 4 = .ok (.iload_n 0, 1) := by decide +kernel
theorem dX4_isSheet_5 : decode cX4_isSheet 5 = .ok (.iconst 4, 1) := by decide +kernel
theorem dX4_isSheet_6 : decode cX4_isSheet 6 = .ok (.if_icmp .ge 7, 3) := by decide +kernel
theorem dX4_isSheet_9 : decode cX4_isSheet 9 = .ok (.iconst 1, 1) := by decide +kernel
theorem dX4_isSheet_10 : decode cX4_isSheet 10 = .ok (.goto 4, 3) := by decide +kernel
theorem dX4_isSheet_13 : decode cX4_isSheet 13 = .ok (.iconst 0, 1) := by decide +kernel
theorem dX4_isSheet_14 : decode cX4_isSheet 14 = .ok (.ireturn, 1) := by decide +kernel
theorem dX4_isLane_0 : decode cX4_isLane 0 = .ok (.iload_n 0, 1) := by decide +kernel
theorem dX4_isLane_1 : decode cX4_isLane 1 = .ok (.ifCond .lt 12, 3) := by decide +kernel
theorem dX4_isLane_4 : decode cX4_isLane 4 = .ok (.iload_n 0, 1) := by decide +kernel
theorem dX4_isLane_5 : decode cX4_isLane 5 = .ok (.iconst 3, 1) := by decide +kernel
theorem dX4_isLane_6 : decode cX4_isLane 6 = .ok (.if_icmp .ge 7, 3) := by decide +kernel
theorem dX4_isLane_9 : decode cX4_isLane 9 = .ok (.iconst 1, 1) := by decide +kernel
theorem dX4_isLane_10 : decode cX4_isLane 10 = .ok (.goto 4, 3) := by decide +kernel
theorem dX4_isLane_13 : decode cX4_isLane 13 = .ok (.iconst 0, 1) := by decide +kernel
theorem dX4_isLane_14 : decode cX4_isLane 14 = .ok (.ireturn, 1) := by decide +kernel
theorem dX4_isRing_0 : decode cX4_isRing 0 = .ok (.iload_n 1, 1) := by decide +kernel
theorem dX4_isRing_1 : decode cX4_isRing 1 = .ok (.ifCond .lt 28, 3) := by decide +kernel
theorem dX4_isRing_4 : decode cX4_isRing 4 = .ok (.iload_n 1, 1) := by decide +kernel
theorem dX4_isRing_5 : decode cX4_isRing 5 = .ok (.iconst 1, 1) := by decide +kernel
theorem dX4_isRing_6 : decode cX4_isRing 6 = .ok (.aload_n 0, 1) := by decide +kernel
theorem dX4_isRing_7 : decode cX4_isRing 7 = .ok (.getfield 10, 3) := by decide +kernel
theorem dX4_isRing_10 : decode cX4_isRing 10 = .ok (.getfield 71, 3) := by decide +kernel
theorem dX4_isRing_13 : decode cX4_isRing 13 = .ok (.ishl, 1) := by decide +kernel
theorem dX4_isRing_14 : decode cX4_isRing 14 = .ok (.if_icmp .ge 15, 3) := by decide +kernel
theorem dX4_isRing_17 : decode cX4_isRing 17 = .ok (.iload_n 1, 1) := by decide +kernel
theorem dX4_isRing_18 : decode cX4_isRing 18 = .ok (.invokestatic 251, 3) := by decide +kernel
theorem dX4_isRing_21 : decode cX4_isRing 21 = .ok (.iconst 2, 1) := by decide +kernel
theorem dX4_isRing_22 : decode cX4_isRing 22 = .ok (.if_icmp .lt 7, 3) := by decide +kernel
theorem dX4_isRing_25 : decode cX4_isRing 25 = .ok (.iconst 1, 1) := by decide +kernel
theorem dX4_isRing_26 : decode cX4_isRing 26 = .ok (.goto 4, 3) := by decide +kernel
theorem dX4_isRing_29 : decode cX4_isRing 29 = .ok (.iconst 0, 1) := by decide +kernel
theorem dX4_isRing_30 : decode cX4_isRing 30 = .ok (.ireturn, 1) := by decide +kernel
theorem dX4_isAsFilmed_0 : decode cX4_isAsFilmed 0 = .ok (.iconst 0, 1) := by decide +kernel
theorem dX4_isAsFilmed_1 : decode cX4_isAsFilmed 1 = .ok (.istore_n 3, 1) := by decide +kernel
theorem dX4_isAsFilmed_2 : decode cX4_isAsFilmed 2 = .ok (.iload_n 3, 1) := by decide +kernel
theorem dX4_isAsFilmed_3 : decode cX4_isAsFilmed 3 = .ok (.bipush 6, 2) := by decide +kernel
theorem dX4_isAsFilmed_5 : decode cX4_isAsFilmed 5 = .ok (.if_icmp .ge 89, 3) := by decide +kernel
theorem dX4_isAsFilmed_8 : decode cX4_isAsFilmed 8 = .ok (.iload_n 3, 1) := by decide +kernel
theorem dX4_isAsFilmed_9 : decode cX4_isAsFilmed 9 = .ok (.aload_n 0, 1) := by decide +kernel
theorem dX4_isAsFilmed_10 : decode cX4_isAsFilmed 10 = .ok (.getfield 10, 3) := by decide +kernel
theorem dX4_isAsFilmed_13 : decode cX4_isAsFilmed 13 = .ok (.getfield 122, 3) := by decide +kernel
theorem dX4_isAsFilmed_16 : decode cX4_isAsFilmed 16 = .ok (.if_icmp .ge 78, 3) := by decide +kernel
theorem dX4_isAsFilmed_19 : decode cX4_isAsFilmed 19 = .ok (.aload_n 0, 1) := by decide +kernel
theorem dX4_isAsFilmed_20 : decode cX4_isAsFilmed 20 = .ok (.getfield 26, 3) := by decide +kernel
theorem dX4_isAsFilmed_23 : decode cX4_isAsFilmed 23 = .ok (.getfield 139, 3) := by decide +kernel
theorem dX4_isAsFilmed_26 : decode cX4_isAsFilmed 26 = .ok (.iload_n 3, 1) := by decide +kernel
theorem dX4_isAsFilmed_27 : decode cX4_isAsFilmed 27 = .ok (.iaload, 1) := by decide +kernel
theorem dX4_isAsFilmed_28 : decode cX4_isAsFilmed 28 = .ok (.istore 4, 2) := by decide +kernel
theorem dX4_isAsFilmed_30 : decode cX4_isAsFilmed 30 = .ok (.aload_n 0, 1) := by decide +kernel
theorem dX4_isAsFilmed_31 : decode cX4_isAsFilmed 31 = .ok (.getfield 40, 3) := by decide +kernel
theorem dX4_isAsFilmed_34 : decode cX4_isAsFilmed 34 = .ok (.iload_n 1, 1) := by decide +kernel
theorem dX4_isAsFilmed_35 : decode cX4_isAsFilmed 35 = .ok (.iload_n 2, 1) := by decide +kernel
theorem dX4_isAsFilmed_36 : decode cX4_isAsFilmed 36 = .ok (.iconst 2, 1) := by decide +kernel
theorem dX4_isAsFilmed_37 : decode cX4_isAsFilmed 37 = .ok (.iload_n 3, 1) := by decide +kernel
theorem dX4_isAsFilmed_38 : decode cX4_isAsFilmed 38 = .ok (.imul, 1) := by decide +kernel
theorem dX4_isAsFilmed_39 : decode cX4_isAsFilmed 39 = .ok (.iadd, 1) := by decide +kernel
theorem dX4_isAsFilmed_40 : decode cX4_isAsFilmed 40 = .ok (.invokevirtual 256, 3) := by decide +kernel
theorem dX4_isAsFilmed_43 : decode cX4_isAsFilmed 43 = .ok (.iload 4, 2) := by decide +kernel
theorem dX4_isAsFilmed_45 : decode cX4_isAsFilmed 45 = .ok (.i2l, 1) := by decide +kernel
theorem dX4_isAsFilmed_46 : decode cX4_isAsFilmed 46 = .ok (.lcmp, 1) := by decide +kernel
theorem dX4_isAsFilmed_47 : decode cX4_isAsFilmed 47 = .ok (.ifCond .eq 5, 3) := by decide +kernel
theorem dX4_isAsFilmed_50 : decode cX4_isAsFilmed 50 = .ok (.iconst 0, 1) := by decide +kernel
theorem dX4_isAsFilmed_51 : decode cX4_isAsFilmed 51 = .ok (.ireturn, 1) := by decide +kernel
theorem dX4_isAsFilmed_52 : decode cX4_isAsFilmed 52 = .ok (.iload 4, 2) := by decide +kernel
theorem dX4_isAsFilmed_54 : decode cX4_isAsFilmed 54 = .ok (.ifCond .lt 34, 3) := by decide +kernel
theorem dX4_isAsFilmed_57 : decode cX4_isAsFilmed 57 = .ok (.aload_n 0, 1) := by decide +kernel
theorem dX4_isAsFilmed_58 : decode cX4_isAsFilmed 58 = .ok (.getfield 40, 3) := by decide +kernel
theorem dX4_isAsFilmed_61 : decode cX4_isAsFilmed 61 = .ok (.iload_n 1, 1) := by decide +kernel
theorem dX4_isAsFilmed_62 : decode cX4_isAsFilmed 62 = .ok (.iload_n 2, 1) := by decide +kernel
theorem dX4_isAsFilmed_63 : decode cX4_isAsFilmed 63 = .ok (.iconst 2, 1) := by decide +kernel
theorem dX4_isAsFilmed_64 : decode cX4_isAsFilmed 64 = .ok (.iload_n 3, 1) := by decide +kernel
theorem dX4_isAsFilmed_65 : decode cX4_isAsFilmed 65 = .ok (.imul, 1) := by decide +kernel
theorem dX4_isAsFilmed_66 : decode cX4_isAsFilmed 66 = .ok (.iadd, 1) := by decide +kernel
theorem dX4_isAsFilmed_67 : decode cX4_isAsFilmed 67 = .ok (.iconst 1, 1) := by decide +kernel
theorem dX4_isAsFilmed_68 : decode cX4_isAsFilmed 68 = .ok (.iadd, 1) := by decide +kernel
theorem dX4_isAsFilmed_69 : decode cX4_isAsFilmed 69 = .ok (.invokevirtual 256, 3) := by decide +kernel
theorem dX4_isAsFilmed_72 : decode cX4_isAsFilmed 72 = .ok (.aload_n 0, 1) := by decide +kernel
theorem dX4_isAsFilmed_73 : decode cX4_isAsFilmed 73 = .ok (.getfield 26, 3) := by decide +kernel
theorem dX4_isAsFilmed_76 : decode cX4_isAsFilmed 76 = .ok (.getfield 142, 3) := by decide +kernel
theorem dX4_isAsFilmed_79 : decode cX4_isAsFilmed 79 = .ok (.iload_n 3, 1) := by decide +kernel
theorem dX4_isAsFilmed_80 : decode cX4_isAsFilmed 80 = .ok (.iaload, 1) := by decide +kernel
theorem dX4_isAsFilmed_81 : decode cX4_isAsFilmed 81 = .ok (.i2l, 1) := by decide +kernel
theorem dX4_isAsFilmed_82 : decode cX4_isAsFilmed 82 = .ok (.lcmp, 1) := by decide +kernel
theorem dX4_isAsFilmed_83 : decode cX4_isAsFilmed 83 = .ok (.ifCond .eq 5, 3) := by decide +kernel
theorem dX4_isAsFilmed_86 : decode cX4_isAsFilmed 86 = .ok (.iconst 0, 1) := by decide +kernel
theorem dX4_isAsFilmed_87 : decode cX4_isAsFilmed 87 = .ok (.ireturn, 1) := by decide +kernel
theorem dX4_isAsFilmed_88 : decode cX4_isAsFilmed 88 = .ok (.iinc 3 1, 3) := by decide +kernel
theorem dX4_isAsFilmed_91 : decode cX4_isAsFilmed 91 = .ok (.goto (-89), 3) := by decide +kernel
theorem dX4_isAsFilmed_94 : decode cX4_isAsFilmed 94 = .ok (.iconst 1, 1) := by decide +kernel
theorem dX4_isAsFilmed_95 : decode cX4_isAsFilmed 95 = .ok (.ireturn, 1) := by decide +kernel
theorem dX4_digitOf_0 : decode cX4_digitOf 0 = .ok (.iload_n 1, 1) := by decide +kernel
theorem dX4_digitOf_1 : decode cX4_digitOf 1 = .ok (.aload_n 0, 1) := by decide +kernel
theorem dX4_digitOf_2 : decode cX4_digitOf 2 = .ok (.iload_n 2, 1) := by decide +kernel
theorem dX4_digitOf_3 : decode cX4_digitOf 3 = .ok (.invokevirtual 260, 3) := by decide +kernel
theorem dX4_digitOf_6 : decode cX4_digitOf 6 = .ok (.ishr, 1) := by decide +kernel
theorem dX4_digitOf_7 : decode cX4_digitOf 7 = .ok (.iconst 3, 1) := by decide +kernel
theorem dX4_digitOf_8 : decode cX4_digitOf 8 = .ok (.iand, 1) := by decide +kernel
theorem dX4_digitOf_9 : decode cX4_digitOf 9 = .ok (.ireturn, 1) := by decide +kernel
theorem dX4_digitShift_0 : decode cX4_digitShift 0 = .ok (.iconst 2, 1) := by decide +kernel
theorem dX4_digitShift_1 : decode cX4_digitShift 1 = .ok (.aload_n 0, 1) := by decide +kernel
theorem dX4_digitShift_2 : decode cX4_digitShift 2 = .ok (.getfield 10, 3) := by decide +kernel
theorem dX4_digitShift_5 : decode cX4_digitShift 5 = .ok (.getfield 71, 3) := by decide +kernel
theorem dX4_digitShift_8 : decode cX4_digitShift 8 = .ok (.iconst 1, 1) := by decide +kernel
theorem dX4_digitShift_9 : decode cX4_digitShift 9 = .ok (.isub, 1) := by decide +kernel
theorem dX4_digitShift_10 : decode cX4_digitShift 10 = .ok (.iload_n 1, 1) := by decide +kernel
theorem dX4_digitShift_11 : decode cX4_digitShift 11 = .ok (.isub, 1) := by decide +kernel
theorem dX4_digitShift_12 : decode cX4_digitShift 12 = .ok (.imul, 1) := by decide +kernel
theorem dX4_digitShift_13 : decode cX4_digitShift 13 = .ok (.ireturn, 1) := by decide +kernel
theorem dX4_countRests_0 : decode cX4_countRests 0 = .ok (.sipush 1024, 3) := by decide +kernel
theorem dX4_countRests_3 : decode cX4_countRests 3 = .ok (.iconst 1, 1) := by decide +kernel
theorem dX4_countRests_4 : decode cX4_countRests 4 = .ok (.iconst 2, 1) := by decide +kernel
theorem dX4_countRests_5 : decode cX4_countRests 5 = .ok (.aload_n 0, 1) := by decide +kernel
theorem dX4_countRests_6 : decode cX4_countRests 6 = .ok (.getfield 10, 3) := by decide +kernel
theorem dX4_countRests_9 : decode cX4_countRests 9 = .ok (.getfield 71, 3) := by decide +kernel
theorem dX4_countRests_12 : decode cX4_countRests 12 = .ok (.imul, 1) := by decide +kernel
theorem dX4_countRests_13 : decode cX4_countRests 13 = .ok (.ishl, 1) := by decide +kernel
theorem dX4_countRests_14 : decode cX4_countRests 14 = .ok (.invokestatic 263, 3) := by decide +kernel
theorem dX4_countRests_17 : decode cX4_countRests 17 = .ok (.istore_n 1, 1) := by decide +kernel
theorem dX4_countRests_18 : decode cX4_countRests 18 = .ok (.iconst 0, 1) := by decide +kernel
theorem dX4_countRests_19 : decode cX4_countRests 19 = .ok (.istore_n 2, 1) := by decide +kernel
theorem dX4_countRests_20 : decode cX4_countRests 20 = .ok (.iload_n 2, 1) := by decide +kernel
theorem dX4_countRests_21 : decode cX4_countRests 21 = .ok (.iload_n 1, 1) := by decide +kernel
theorem dX4_countRests_22 : decode cX4_countRests 22 = .ok (.if_icmp .ge 82, 3) := by decide +kernel
theorem dX4_countRests_25 : decode cX4_countRests 25 = .ok (.iconst 0, 1) := by decide +kernel
theorem dX4_countRests_26 : decode cX4_countRests 26 = .ok (.istore_n 3, 1) := by decide +kernel
theorem dX4_countRests_27 : decode cX4_countRests 27 = .ok (.iload_n 3, 1) := by decide +kernel
theorem dX4_countRests_28 : decode cX4_countRests 28 = .ok (.iconst 5, 1) := by decide +kernel
theorem dX4_countRests_29 : decode cX4_countRests 29 = .ok (.if_icmp .ge 38, 3) := by decide +kernel
theorem dX4_countRests_32 : decode cX4_countRests 32 = .ok (.iload_n 3, 1) := by decide +kernel
theorem dX4_countRests_33 : decode cX4_countRests 33 = .ok (.aload_n 0, 1) := by decide +kernel
theorem dX4_countRests_34 : decode cX4_countRests 34 = .ok (.getfield 10, 3) := by decide +kernel
theorem dX4_countRests_37 : decode cX4_countRests 37 = .ok (.getfield 71, 3) := by decide +kernel
theorem dX4_countRests_40 : decode cX4_countRests 40 = .ok (.if_icmp .ge 27, 3) := by decide +kernel
theorem dX4_countRests_43 : decode cX4_countRests 43 = .ok (.aload_n 0, 1) := by decide +kernel
theorem dX4_countRests_44 : decode cX4_countRests 44 = .ok (.getfield 26, 3) := by decide +kernel
theorem dX4_countRests_47 : decode cX4_countRests 47 = .ok (.getfield 185, 3) := by decide +kernel
theorem dX4_countRests_50 : decode cX4_countRests 50 = .ok (.iload_n 3, 1) := by decide +kernel
theorem dX4_countRests_51 : decode cX4_countRests 51 = .ok (.bipush 8, 2) := by decide +kernel
theorem dX4_countRests_53 : decode cX4_countRests 53 = .ok (.aload_n 0, 1) := by decide +kernel
theorem dX4_countRests_54 : decode cX4_countRests 54 = .ok (.iload_n 2, 1) := by decide +kernel
theorem dX4_countRests_55 : decode cX4_countRests 55 = .ok (.iload_n 3, 1) := by decide +kernel
theorem dX4_countRests_56 : decode cX4_countRests 56 = .ok (.invokevirtual 192, 3) := by decide +kernel
theorem dX4_countRests_59 : decode cX4_countRests 59 = .ok (.imul, 1) := by decide +kernel
theorem dX4_countRests_60 : decode cX4_countRests 60 = .ok (.iastore, 1) := by decide +kernel
theorem dX4_countRests_61 : decode cX4_countRests 61 = .ok (.iinc 3 1, 3) := by decide +kernel
theorem dX4_countRests_64 : decode cX4_countRests 64 = .ok (.goto (-37), 3) := by decide +kernel
theorem dX4_countRests_67 : decode cX4_countRests 67 = .ok (.aload_n 0, 1) := by decide +kernel
theorem dX4_countRests_68 : decode cX4_countRests 68 = .ok (.getfield 26, 3) := by decide +kernel
theorem dX4_countRests_71 : decode cX4_countRests 71 = .ok (.aload_n 0, 1) := by decide +kernel
theorem dX4_countRests_72 : decode cX4_countRests 72 = .ok (.getfield 10, 3) := by decide +kernel
theorem dX4_countRests_75 : decode cX4_countRests 75 = .ok (.iconst 0, 1) := by decide +kernel
theorem dX4_countRests_76 : decode cX4_countRests 76 = .ok (.invokevirtual 186, 3) := by decide +kernel
theorem dX4_countRests_79 : decode cX4_countRests 79 = .ok (.aload_n 0, 1) := by decide +kernel
theorem dX4_countRests_80 : decode cX4_countRests 80 = .ok (.getfield 26, 3) := by decide +kernel
theorem dX4_countRests_83 : decode cX4_countRests 83 = .ok (.getfield 151, 3) := by decide +kernel
theorem dX4_countRests_86 : decode cX4_countRests 86 = .ok (.iconst 0, 1) := by decide +kernel
theorem dX4_countRests_87 : decode cX4_countRests 87 = .ok (.aload_n 0, 1) := by decide +kernel
theorem dX4_countRests_88 : decode cX4_countRests 88 = .ok (.getfield 44, 3) := by decide +kernel
theorem dX4_countRests_91 : decode cX4_countRests 91 = .ok (.iload_n 2, 1) := by decide +kernel
theorem dX4_countRests_92 : decode cX4_countRests 92 = .ok (.iconst 5, 1) := by decide +kernel
theorem dX4_countRests_93 : decode cX4_countRests 93 = .ok (.imul, 1) := by decide +kernel
theorem dX4_countRests_94 : decode cX4_countRests 94 = .ok (.iconst 5, 1) := by decide +kernel
theorem dX4_countRests_95 : decode cX4_countRests 95 = .ok (.invokestatic 116, 3) := by decide +kernel
theorem dX4_countRests_98 : decode cX4_countRests 98 = .ok (.iinc 2 1, 3) := by decide +kernel
theorem dX4_countRests_101 : decode cX4_countRests 101 = .ok (.goto (-81), 3) := by decide +kernel
theorem dX4_countRests_104 : decode cX4_countRests 104 = .ok (.iconst 0, 1) := by decide +kernel
theorem dX4_countRests_105 : decode cX4_countRests 105 = .ok (.istore_n 2, 1) := by decide +kernel
theorem dX4_countRests_106 : decode cX4_countRests 106 = .ok (.aload_n 0, 1) := by decide +kernel
theorem dX4_countRests_107 : decode cX4_countRests 107 = .ok (.iconst (-1), 1) := by decide +kernel
theorem dX4_countRests_108 : decode cX4_countRests 108 = .ok (.putfield 48, 3) := by decide +kernel
theorem dX4_countRests_111 : decode cX4_countRests 111 = .ok (.iconst 0, 1) := by decide +kernel
theorem dX4_countRests_112 : decode cX4_countRests 112 = .ok (.istore_n 3, 1) := by decide +kernel
theorem dX4_countRests_113 : decode cX4_countRests 113 = .ok (.iload_n 3, 1) := by decide +kernel
theorem dX4_countRests_114 : decode cX4_countRests 114 = .ok (.iload_n 1, 1) := by decide +kernel
theorem dX4_countRests_115 : decode cX4_countRests 115 = .ok (.if_icmp .ge 37, 3) := by decide +kernel
theorem dX4_countRests_118 : decode cX4_countRests 118 = .ok (.aload_n 0, 1) := by decide +kernel
theorem dX4_countRests_119 : decode cX4_countRests 119 = .ok (.iload_n 3, 1) := by decide +kernel
theorem dX4_countRests_120 : decode cX4_countRests 120 = .ok (.iload_n 1, 1) := by decide +kernel
theorem dX4_countRests_121 : decode cX4_countRests 121 = .ok (.invokevirtual 268, 3) := by decide +kernel
theorem dX4_countRests_124 : decode cX4_countRests 124 = .ok (.ifCond .eq 22, 3) := by decide +kernel
theorem dX4_countRests_127 : decode cX4_countRests 127 = .ok (.aload_n 0, 1) := by decide +kernel
theorem dX4_countRests_128 : decode cX4_countRests 128 = .ok (.iload_n 2, 1) := by decide +kernel
theorem dX4_countRests_129 : decode cX4_countRests 129 = .ok (.ifCond .ne 7, 3) := by decide +kernel
theorem dX4_countRests_132 : decode cX4_countRests 132 = .ok (.iload_n 3, 1) := by decide +kernel
theorem dX4_countRests_133 : decode cX4_countRests 133 = .ok (.goto 7, 3) := by decide +kernel
theorem dX4_countRests_136 : decode cX4_countRests 136 = .ok (.aload_n 0, 1) := by decide +kernel
theorem dX4_countRests_137 : decode cX4_countRests 137 = .ok (.getfield 48, 3) := by decide +kernel
theorem dX4_countRests_140 : decode cX4_countRests 140 = .ok (.putfield 48, 3) := by decide +kernel
theorem dX4_countRests_143 : decode cX4_countRests 143 = .ok (.iinc 2 1, 3) := by decide +kernel
theorem dX4_countRests_146 : decode cX4_countRests 146 = .ok (.iinc 3 1, 3) := by decide +kernel
theorem dX4_countRests_149 : decode cX4_countRests 149 = .ok (.goto (-36), 3) := by decide +kernel
theorem dX4_countRests_152 : decode cX4_countRests 152 = .ok (.iload_n 2, 1) := by decide +kernel
theorem dX4_countRests_153 : decode cX4_countRests 153 = .ok (.ireturn, 1) := by decide +kernel
theorem dX4_isAtRest_0 : decode cX4_isAtRest 0 = .ok (.iload_n 1, 1) := by decide +kernel
theorem dX4_isAtRest_1 : decode cX4_isAtRest 1 = .ok (.ifCond .lt 15, 3) := by decide +kernel
theorem dX4_isAtRest_4 : decode cX4_isAtRest 4 = .ok (.iload_n 1, 1) := by decide +kernel
theorem dX4_isAtRest_5 : decode cX4_isAtRest 5 = .ok (.iload_n 2, 1) := by decide +kernel
theorem dX4_isAtRest_6 : decode cX4_isAtRest 6 = .ok (.if_icmp .ge 10, 3) := by decide +kernel
theorem dX4_isAtRest_9 : decode cX4_isAtRest 9 = .ok (.iload_n 2, 1) := by decide +kernel
theorem dX4_isAtRest_10 : decode cX4_isAtRest 10 = .ok (.sipush 1024, 3) := by decide +kernel
theorem dX4_isAtRest_13 : decode cX4_isAtRest 13 = .ok (.if_icmp .le 5, 3) := by decide +kernel
theorem dX4_isAtRest_16 : decode cX4_isAtRest 16 = .ok (.iconst 0, 1) := by decide +kernel
theorem dX4_isAtRest_17 : decode cX4_isAtRest 17 = .ok (.ireturn, 1) := by decide +kernel
theorem dX4_isAtRest_18 : decode cX4_isAtRest 18 = .ok (.iconst 0, 1) := by decide +kernel
theorem dX4_isAtRest_19 : decode cX4_isAtRest 19 = .ok (.istore_n 3, 1) := by decide +kernel
theorem dX4_isAtRest_20 : decode cX4_isAtRest 20 = .ok (.iload_n 3, 1) := by decide +kernel
theorem dX4_isAtRest_21 : decode cX4_isAtRest 21 = .ok (.iconst 5, 1) := by decide +kernel
theorem dX4_isAtRest_22 : decode cX4_isAtRest 22 = .ok (.if_icmp .ge 99, 3) := by decide +kernel
theorem dX4_isAtRest_25 : decode cX4_isAtRest 25 = .ok (.iload_n 3, 1) := by decide +kernel
theorem dX4_isAtRest_26 : decode cX4_isAtRest 26 = .ok (.aload_n 0, 1) := by decide +kernel
theorem dX4_isAtRest_27 : decode cX4_isAtRest 27 = .ok (.getfield 10, 3) := by decide +kernel
theorem dX4_isAtRest_30 : decode cX4_isAtRest 30 = .ok (.getfield 71, 3) := by decide +kernel
theorem dX4_isAtRest_33 : decode cX4_isAtRest 33 = .ok (.if_icmp .ge 88, 3) := by decide +kernel
theorem dX4_isAtRest_36 : decode cX4_isAtRest 36 = .ok (.aload_n 0, 1) := by decide +kernel
theorem dX4_isAtRest_37 : decode cX4_isAtRest 37 = .ok (.iload_n 3, 1) := by decide +kernel
theorem dX4_isAtRest_38 : decode cX4_isAtRest 38 = .ok (.invokevirtual 260, 3) := by decide +kernel
theorem dX4_isAtRest_41 : decode cX4_isAtRest 41 = .ok (.istore 4, 2) := by decide +kernel
theorem dX4_isAtRest_43 : decode cX4_isAtRest 43 = .ok (.iload_n 1, 1) := by decide +kernel
theorem dX4_isAtRest_44 : decode cX4_isAtRest 44 = .ok (.iconst 3, 1) := by decide +kernel
theorem dX4_isAtRest_45 : decode cX4_isAtRest 45 = .ok (.iload 4, 2) := by decide +kernel
theorem dX4_isAtRest_47 : decode cX4_isAtRest 47 = .ok (.ishl, 1) := by decide +kernel
theorem dX4_isAtRest_48 : decode cX4_isAtRest 48 = .ok (.iconst (-1), 1) := by decide +kernel
theorem dX4_isAtRest_49 : decode cX4_isAtRest 49 = .ok (.ixor, 1) := by decide +kernel
theorem dX4_isAtRest_50 : decode cX4_isAtRest 50 = .ok (.iand, 1) := by decide +kernel
theorem dX4_isAtRest_51 : decode cX4_isAtRest 51 = .ok (.istore 5, 2) := by decide +kernel
theorem dX4_isAtRest_53 : decode cX4_isAtRest 53 = .ok (.iconst 0, 1) := by decide +kernel
theorem dX4_isAtRest_54 : decode cX4_isAtRest 54 = .ok (.istore 6, 2) := by decide +kernel
theorem dX4_isAtRest_56 : decode cX4_isAtRest 56 = .ok (.iload 6, 2) := by decide +kernel
theorem dX4_isAtRest_58 : decode cX4_isAtRest 58 = .ok (.iconst 4, 1) := by decide +kernel
theorem dX4_isAtRest_59 : decode cX4_isAtRest 59 = .ok (.if_icmp .ge 56, 3) := by decide +kernel
theorem dX4_isAtRest_62 : decode cX4_isAtRest 62 = .ok (.iload 5, 2) := by decide +kernel
theorem dX4_isAtRest_64 : decode cX4_isAtRest 64 = .ok (.iload 6, 2) := by decide +kernel
theorem dX4_isAtRest_66 : decode cX4_isAtRest 66 = .ok (.iload 4, 2) := by decide +kernel
theorem dX4_isAtRest_68 : decode cX4_isAtRest 68 = .ok (.ishl, 1) := by decide +kernel
theorem dX4_isAtRest_69 : decode cX4_isAtRest 69 = .ok (.ior, 1) := by decide +kernel
theorem dX4_isAtRest_70 : decode cX4_isAtRest 70 = .ok (.istore 7, 2) := by decide +kernel
theorem dX4_isAtRest_72 : decode cX4_isAtRest 72 = .ok (.iload 7, 2) := by decide +kernel
theorem dX4_isAtRest_74 : decode cX4_isAtRest 74 = .ok (.ifCond .lt 35, 3) := by decide +kernel
theorem dX4_isAtRest_77 : decode cX4_isAtRest 77 = .ok (.iload 7, 2) := by decide +kernel
theorem dX4_isAtRest_79 : decode cX4_isAtRest 79 = .ok (.iload_n 2, 1) := by decide +kernel
theorem dX4_isAtRest_80 : decode cX4_isAtRest 80 = .ok (.if_icmp .ge 29, 3) := by decide +kernel
theorem dX4_isAtRest_83 : decode cX4_isAtRest 83 = .ok (.aload_n 0, 1) := by decide +kernel
theorem dX4_isAtRest_84 : decode cX4_isAtRest 84 = .ok (.getfield 44, 3) := by decide +kernel
theorem dX4_isAtRest_87 : decode cX4_isAtRest 87 = .ok (.iload 7, 2) := by decide +kernel
theorem dX4_isAtRest_89 : decode cX4_isAtRest 89 = .ok (.iconst 5, 1) := by decide +kernel
theorem dX4_isAtRest_90 : decode cX4_isAtRest 90 = .ok (.imul, 1) := by decide +kernel
theorem dX4_isAtRest_91 : decode cX4_isAtRest 91 = .ok (.iload_n 3, 1) := by decide +kernel
theorem dX4_isAtRest_92 : decode cX4_isAtRest 92 = .ok (.iadd, 1) := by decide +kernel
theorem dX4_isAtRest_93 : decode cX4_isAtRest 93 = .ok (.iaload, 1) := by decide +kernel
theorem dX4_isAtRest_94 : decode cX4_isAtRest 94 = .ok (.aload_n 0, 1) := by decide +kernel
theorem dX4_isAtRest_95 : decode cX4_isAtRest 95 = .ok (.getfield 44, 3) := by decide +kernel
theorem dX4_isAtRest_98 : decode cX4_isAtRest 98 = .ok (.iload_n 1, 1) := by decide +kernel
theorem dX4_isAtRest_99 : decode cX4_isAtRest 99 = .ok (.iconst 5, 1) := by decide +kernel
theorem dX4_isAtRest_100 : decode cX4_isAtRest 100 = .ok (.imul, 1) := by decide +kernel
theorem dX4_isAtRest_101 : decode cX4_isAtRest 101 = .ok (.iload_n 3, 1) := by decide +kernel
theorem dX4_isAtRest_102 : decode cX4_isAtRest 102 = .ok (.iadd, 1) := by decide +kernel
theorem dX4_isAtRest_103 : decode cX4_isAtRest 103 = .ok (.iaload, 1) := by decide +kernel
theorem dX4_isAtRest_104 : decode cX4_isAtRest 104 = .ok (.if_icmp .le 5, 3) := by decide +kernel
theorem dX4_isAtRest_107 : decode cX4_isAtRest 107 = .ok (.iconst 0, 1) := by decide +kernel
theorem dX4_isAtRest_108 : decode cX4_isAtRest 108 = .ok (.ireturn, 1) := by decide +kernel
theorem dX4_isAtRest_109 : decode cX4_isAtRest 109 = .ok (.iinc 6 1, 3) := by decide +kernel
theorem dX4_isAtRest_112 : decode cX4_isAtRest 112 = .ok (.goto (-56), 3) := by decide +kernel
theorem dX4_isAtRest_115 : decode cX4_isAtRest 115 = .ok (.iinc 3 1, 3) := by decide +kernel
theorem dX4_isAtRest_118 : decode cX4_isAtRest 118 = .ok (.goto (-98), 3) := by decide +kernel
theorem dX4_isAtRest_121 : decode cX4_isAtRest 121 = .ok (.iconst 1, 1) := by decide +kernel
theorem dX4_isAtRest_122 : decode cX4_isAtRest 122 = .ok (.ireturn, 1) := by decide +kernel
theorem dX4_findBestRow_0 : decode cX4_findBestRow 0 = .ok (.iconst 0, 1) := by decide +kernel
theorem dX4_findBestRow_1 : decode cX4_findBestRow 1 = .ok (.bipush 6, 2) := by decide +kernel
theorem dX4_findBestRow_3 : decode cX4_findBestRow 3 = .ok (.aload_n 0, 1) := by decide +kernel
theorem dX4_findBestRow_4 : decode cX4_findBestRow 4 = .ok (.getfield 10, 3) := by decide +kernel
theorem dX4_findBestRow_7 : decode cX4_findBestRow 7 = .ok (.getfield 122, 3) := by decide +kernel
theorem dX4_findBestRow_10 : decode cX4_findBestRow 10 = .ok (.invokestatic 263, 3) := by decide +kernel
theorem dX4_findBestRow_13 : decode cX4_findBestRow 13 = .ok (.invokestatic 271, 3) := by decide +kernel
theorem dX4_findBestRow_16 : decode cX4_findBestRow 16 = .ok (.istore_n 1, 1) := by decide +kernel
theorem dX4_findBestRow_17 : decode cX4_findBestRow 17 = .ok (.aload_n 0, 1) := by decide +kernel
theorem dX4_findBestRow_18 : decode cX4_findBestRow 18 = .ok (.getfield 26, 3) := by decide +kernel
theorem dX4_findBestRow_21 : decode cX4_findBestRow 21 = .ok (.aload_n 0, 1) := by decide +kernel
theorem dX4_findBestRow_22 : decode cX4_findBestRow 22 = .ok (.getfield 10, 3) := by decide +kernel
theorem dX4_findBestRow_25 : decode cX4_findBestRow 25 = .ok (.invokevirtual 154, 3) := by decide +kernel
theorem dX4_findBestRow_28 : decode cX4_findBestRow 28 = .ok (.iconst 0, 1) := by decide +kernel
theorem dX4_findBestRow_29 : decode cX4_findBestRow 29 = .ok (.istore_n 2, 1) := by decide +kernel
theorem dX4_findBestRow_30 : decode cX4_findBestRow 30 = .ok (.iload_n 2, 1) := by decide +kernel
theorem dX4_findBestRow_31 : decode cX4_findBestRow 31 = .ok (.iload_n 1, 1) := by decide +kernel
theorem dX4_findBestRow_32 : decode cX4_findBestRow 32 = .ok (.if_icmp .ge 16, 3) := by decide +kernel
theorem dX4_findBestRow_35 : decode cX4_findBestRow 35 = .ok (.aload_n 0, 1) := by decide +kernel
theorem dX4_findBestRow_36 : decode cX4_findBestRow 36 = .ok (.getfield 52, 3) := by decide +kernel
theorem dX4_findBestRow_39 : decode cX4_findBestRow 39 = .ok (.iload_n 2, 1) := by decide +kernel
theorem dX4_findBestRow_40 : decode cX4_findBestRow 40 = .ok (.iload_n 2, 1) := by decide +kernel
theorem dX4_findBestRow_41 : decode cX4_findBestRow 41 = .ok (.iastore, 1) := by decide +kernel
theorem dX4_findBestRow_42 : decode cX4_findBestRow 42 = .ok (.iinc 2 1, 3) := by decide +kernel
theorem dX4_findBestRow_45 : decode cX4_findBestRow 45 = .ok (.goto (-15), 3) := by decide +kernel
theorem dX4_findBestRow_48 : decode cX4_findBestRow 48 = .ok (.iconst (-1), 1) := by decide +kernel
theorem dX4_findBestRow_49 : decode cX4_findBestRow 49 = .ok (.istore_n 2, 1) := by decide +kernel
theorem dX4_findBestRow_50 : decode cX4_findBestRow 50 = .ok (.iconst 1, 1) := by decide +kernel
theorem dX4_findBestRow_51 : decode cX4_findBestRow 51 = .ok (.istore_n 3, 1) := by decide +kernel
theorem dX4_findBestRow_52 : decode cX4_findBestRow 52 = .ok (.iconst 0, 1) := by decide +kernel
theorem dX4_findBestRow_53 : decode cX4_findBestRow 53 = .ok (.istore 4, 2) := by decide +kernel
theorem dX4_findBestRow_55 : decode cX4_findBestRow 55 = .ok (.iload_n 3, 1) := by decide +kernel
theorem dX4_findBestRow_56 : decode cX4_findBestRow 56 = .ok (.ifCond .eq 61, 3) := by decide +kernel
theorem dX4_findBestRow_59 : decode cX4_findBestRow 59 = .ok (.iload 4, 2) := by decide +kernel
theorem dX4_findBestRow_61 : decode cX4_findBestRow 61 = .ok (.sipush 720, 3) := by decide +kernel
theorem dX4_findBestRow_64 : decode cX4_findBestRow 64 = .ok (.if_icmp .ge 53, 3) := by decide +kernel
theorem dX4_findBestRow_67 : decode cX4_findBestRow 67 = .ok (.aload_n 0, 1) := by decide +kernel
theorem dX4_findBestRow_68 : decode cX4_findBestRow 68 = .ok (.iload_n 1, 1) := by decide +kernel
theorem dX4_findBestRow_69 : decode cX4_findBestRow 69 = .ok (.invokevirtual 274, 3) := by decide +kernel
theorem dX4_findBestRow_72 : decode cX4_findBestRow 72 = .ok (.ifCond .eq 33, 3) := by decide +kernel
theorem dX4_findBestRow_75 : decode cX4_findBestRow 75 = .ok (.aload_n 0, 1) := by decide +kernel
theorem dX4_findBestRow_76 : decode cX4_findBestRow 76 = .ok (.iload_n 1, 1) := by decide +kernel
theorem dX4_findBestRow_77 : decode cX4_findBestRow 77 = .ok (.invokevirtual 277, 3) := by decide +kernel
theorem dX4_findBestRow_80 : decode cX4_findBestRow 80 = .ok (.istore 5, 2) := by decide +kernel
theorem dX4_findBestRow_82 : decode cX4_findBestRow 82 = .ok (.iload 5, 2) := by decide +kernel
theorem dX4_findBestRow_84 : decode cX4_findBestRow 84 = .ok (.iload_n 2, 1) := by decide +kernel
theorem dX4_findBestRow_85 : decode cX4_findBestRow 85 = .ok (.if_icmp .le 20, 3) := by decide +kernel
theorem dX4_findBestRow_88 : decode cX4_findBestRow 88 = .ok (.iload 5, 2) := by decide +kernel
theorem dX4_findBestRow_90 : decode cX4_findBestRow 90 = .ok (.istore_n 2, 1) := by decide +kernel
theorem dX4_findBestRow_91 : decode cX4_findBestRow 91 = .ok (.aload_n 0, 1) := by decide +kernel
theorem dX4_findBestRow_92 : decode cX4_findBestRow 92 = .ok (.getfield 52, 3) := by decide +kernel
theorem dX4_findBestRow_95 : decode cX4_findBestRow 95 = .ok (.iconst 0, 1) := by decide +kernel
theorem dX4_findBestRow_96 : decode cX4_findBestRow 96 = .ok (.aload_n 0, 1) := by decide +kernel
theorem dX4_findBestRow_97 : decode cX4_findBestRow 97 = .ok (.getfield 55, 3) := by decide +kernel
theorem dX4_findBestRow_100 : decode cX4_findBestRow 100 = .ok (.iconst 0, 1) := by decide +kernel
theorem dX4_findBestRow_101 : decode cX4_findBestRow 101 = .ok (.iload_n 1, 1) := by decide +kernel
theorem dX4_findBestRow_102 : decode cX4_findBestRow 102 = .ok (.invokestatic 116, 3) := by decide +kernel
theorem dX4_findBestRow_105 : decode cX4_findBestRow 105 = .ok (.aload_n 0, 1) := by decide +kernel
theorem dX4_findBestRow_106 : decode cX4_findBestRow 106 = .ok (.iload_n 1, 1) := by decide +kernel
theorem dX4_findBestRow_107 : decode cX4_findBestRow 107 = .ok (.invokevirtual 280, 3) := by decide +kernel
theorem dX4_findBestRow_110 : decode cX4_findBestRow 110 = .ok (.istore_n 3, 1) := by decide +kernel
theorem dX4_findBestRow_111 : decode cX4_findBestRow 111 = .ok (.iinc 4 1, 3) := by decide +kernel
theorem dX4_findBestRow_114 : decode cX4_findBestRow 114 = .ok (.goto (-59), 3) := by decide +kernel
theorem dX4_findBestRow_117 : decode cX4_findBestRow 117 = .ok (.iload_n 2, 1) := by decide +kernel
theorem dX4_findBestRow_118 : decode cX4_findBestRow 118 = .ok (.ireturn, 1) := by decide +kernel
theorem dX4_isFirstOfItsLike_0 : decode cX4_isFirstOfItsLike 0 = .ok (.iconst 1, 1) := by decide +kernel
theorem dX4_isFirstOfItsLike_1 : decode cX4_isFirstOfItsLike 1 = .ok (.istore_n 2, 1) := by decide +kernel
theorem dX4_isFirstOfItsLike_2 : decode cX4_isFirstOfItsLike 2 = .ok (.iload_n 2, 1) := by decide +kernel
theorem dX4_isFirstOfItsLike_3 : decode cX4_isFirstOfItsLike 3 = .ok (.bipush 6, 2) := by decide +kernel
theorem dX4_isFirstOfItsLike_5 : decode cX4_isFirstOfItsLike 5 = .ok (.if_icmp .ge 73, 3) := by decide +kernel
theorem dX4_isFirstOfItsLike_8 : decode cX4_isFirstOfItsLike 8 = .ok (.iload_n 2, 1) := by decide +kernel
theorem dX4_isFirstOfItsLike_9 : decode cX4_isFirstOfItsLike 9 = .ok (.iload_n 1, 1) := by decide +kernel
theorem dX4_isFirstOfItsLike_10 : decode cX4_isFirstOfItsLike 10 = .ok (.if_icmp .ge 68, 3) := by decide +kernel
theorem dX4_isFirstOfItsLike_13 : decode cX4_isFirstOfItsLike 13 = .ok (.iconst 0, 1) := by decide +kernel
theorem dX4_isFirstOfItsLike_14 : decode cX4_isFirstOfItsLike 14 = .ok (.istore_n 3, 1) := by decide +kernel
theorem dX4_isFirstOfItsLike_15 : decode cX4_isFirstOfItsLike 15 = .ok (.iload_n 3, 1) := by decide +kernel
theorem dX4_isFirstOfItsLike_16 : decode cX4_isFirstOfItsLike 16 = .ok (.iload_n 2, 1) := by decide +kernel
theorem dX4_isFirstOfItsLike_17 : decode cX4_isFirstOfItsLike 17 = .ok (.if_icmp .ge 55, 3) := by decide +kernel
theorem dX4_isFirstOfItsLike_20 : decode cX4_isFirstOfItsLike 20 = .ok (.aload_n 0, 1) := by decide +kernel
theorem dX4_isFirstOfItsLike_21 : decode cX4_isFirstOfItsLike 21 = .ok (.getfield 52, 3) := by decide +kernel
theorem dX4_isFirstOfItsLike_24 : decode cX4_isFirstOfItsLike 24 = .ok (.iload_n 3, 1) := by decide +kernel
theorem dX4_isFirstOfItsLike_25 : decode cX4_isFirstOfItsLike 25 = .ok (.iaload, 1) := by decide +kernel
theorem dX4_isFirstOfItsLike_26 : decode cX4_isFirstOfItsLike 26 = .ok (.aload_n 0, 1) := by decide +kernel
theorem dX4_isFirstOfItsLike_27 : decode cX4_isFirstOfItsLike 27 = .ok (.getfield 52, 3) := by decide +kernel
theorem dX4_isFirstOfItsLike_30 : decode cX4_isFirstOfItsLike 30 = .ok (.iload_n 2, 1) := by decide +kernel
theorem dX4_isFirstOfItsLike_31 : decode cX4_isFirstOfItsLike 31 = .ok (.iaload, 1) := by decide +kernel
theorem dX4_isFirstOfItsLike_32 : decode cX4_isFirstOfItsLike 32 = .ok (.if_icmp .le 34, 3) := by decide +kernel
theorem dX4_isFirstOfItsLike_35 : decode cX4_isFirstOfItsLike 35 = .ok (.aload_n 0, 1) := by decide +kernel
theorem dX4_isFirstOfItsLike_36 : decode cX4_isFirstOfItsLike 36 = .ok (.getfield 10, 3) := by decide +kernel
theorem dX4_isFirstOfItsLike_39 : decode cX4_isFirstOfItsLike 39 = .ok (.aload_n 0, 1) := by decide +kernel
theorem dX4_isFirstOfItsLike_40 : decode cX4_isFirstOfItsLike 40 = .ok (.getfield 52, 3) := by decide +kernel
theorem dX4_isFirstOfItsLike_43 : decode cX4_isFirstOfItsLike 43 = .ok (.iload_n 3, 1) := by decide +kernel
theorem dX4_isFirstOfItsLike_44 : decode cX4_isFirstOfItsLike 44 = .ok (.iaload, 1) := by decide +kernel
theorem dX4_isFirstOfItsLike_45 : decode cX4_isFirstOfItsLike 45 = .ok (.invokevirtual 283, 3) := by decide +kernel
theorem dX4_isFirstOfItsLike_48 : decode cX4_isFirstOfItsLike 48 = .ok (.aload_n 0, 1) := by decide +kernel
theorem dX4_isFirstOfItsLike_49 : decode cX4_isFirstOfItsLike 49 = .ok (.getfield 10, 3) := by decide +kernel
theorem dX4_isFirstOfItsLike_52 : decode cX4_isFirstOfItsLike 52 = .ok (.aload_n 0, 1) := by decide +kernel
theorem dX4_isFirstOfItsLike_53 : decode cX4_isFirstOfItsLike 53 = .ok (.getfield 52, 3) := by decide +kernel
theorem dX4_isFirstOfItsLike_56 : decode cX4_isFirstOfItsLike 56 = .ok (.iload_n 2, 1) := by decide +kernel
theorem dX4_isFirstOfItsLike_57 : decode cX4_isFirstOfItsLike 57 = .ok (.iaload, 1) := by decide +kernel
theorem dX4_isFirstOfItsLike_58 : decode cX4_isFirstOfItsLike 58 = .ok (.invokevirtual 283, 3) := by decide +kernel
theorem dX4_isFirstOfItsLike_61 : decode cX4_isFirstOfItsLike 61 = .ok (.if_icmp .ne 5, 3) := by decide +kernel
theorem dX4_isFirstOfItsLike_64 : decode cX4_isFirstOfItsLike 64 = .ok (.iconst 0, 1) := by decide +kernel
theorem dX4_isFirstOfItsLike_65 : decode cX4_isFirstOfItsLike 65 = .ok (.ireturn, 1) := by decide +kernel
theorem dX4_isFirstOfItsLike_66 : decode cX4_isFirstOfItsLike 66 = .ok (.iinc 3 1, 3) := by decide +kernel
theorem dX4_isFirstOfItsLike_69 : decode cX4_isFirstOfItsLike 69 = .ok (.goto (-54), 3) := by decide +kernel
theorem dX4_isFirstOfItsLike_72 : decode cX4_isFirstOfItsLike 72 = .ok (.iinc 2 1, 3) := by decide +kernel
theorem dX4_isFirstOfItsLike_75 : decode cX4_isFirstOfItsLike 75 = .ok (.goto (-73), 3) := by decide +kernel
theorem dX4_isFirstOfItsLike_78 : decode cX4_isFirstOfItsLike 78 = .ok (.iconst 1, 1) := by decide +kernel
theorem dX4_isFirstOfItsLike_79 : decode cX4_isFirstOfItsLike 79 = .ok (.ireturn, 1) := by decide +kernel
theorem dX4_tillOfRow_0 : decode cX4_tillOfRow 0 = .ok (.aload_n 0, 1) := by decide +kernel
theorem dX4_tillOfRow_1 : decode cX4_tillOfRow 1 = .ok (.getfield 26, 3) := by decide +kernel
theorem dX4_tillOfRow_4 : decode cX4_tillOfRow 4 = .ok (.aload_n 0, 1) := by decide +kernel
theorem dX4_tillOfRow_5 : decode cX4_tillOfRow 5 = .ok (.getfield 10, 3) := by decide +kernel
theorem dX4_tillOfRow_8 : decode cX4_tillOfRow 8 = .ok (.invokevirtual 161, 3) := by decide +kernel
theorem dX4_tillOfRow_11 : decode cX4_tillOfRow 11 = .ok (.iconst 0, 1) := by decide +kernel
theorem dX4_tillOfRow_12 : decode cX4_tillOfRow 12 = .ok (.istore_n 2, 1) := by decide +kernel
theorem dX4_tillOfRow_13 : decode cX4_tillOfRow 13 = .ok (.iconst 0, 1) := by decide +kernel
theorem dX4_tillOfRow_14 : decode cX4_tillOfRow 14 = .ok (.istore_n 3, 1) := by decide +kernel
theorem dX4_tillOfRow_15 : decode cX4_tillOfRow 15 = .ok (.iload_n 3, 1) := by decide +kernel
theorem dX4_tillOfRow_16 : decode cX4_tillOfRow 16 = .ok (.bipush 6, 2) := by decide +kernel
theorem dX4_tillOfRow_18 : decode cX4_tillOfRow 18 = .ok (.if_icmp .ge 52, 3) := by decide +kernel
theorem dX4_tillOfRow_21 : decode cX4_tillOfRow 21 = .ok (.iload_n 3, 1) := by decide +kernel
theorem dX4_tillOfRow_22 : decode cX4_tillOfRow 22 = .ok (.iload_n 1, 1) := by decide +kernel
theorem dX4_tillOfRow_23 : decode cX4_tillOfRow 23 = .ok (.if_icmp .ge 47, 3) := by decide +kernel
theorem dX4_tillOfRow_26 : decode cX4_tillOfRow 26 = .ok (.aload_n 0, 1) := by decide +kernel
theorem dX4_tillOfRow_27 : decode cX4_tillOfRow 27 = .ok (.getfield 26, 3) := by decide +kernel
theorem dX4_tillOfRow_30 : decode cX4_tillOfRow 30 = .ok (.aload_n 0, 1) := by decide +kernel
theorem dX4_tillOfRow_31 : decode cX4_tillOfRow 31 = .ok (.getfield 10, 3) := by decide +kernel
theorem dX4_tillOfRow_34 : decode cX4_tillOfRow 34 = .ok (.aload_n 0, 1) := by decide +kernel
theorem dX4_tillOfRow_35 : decode cX4_tillOfRow 35 = .ok (.getfield 52, 3) := by decide +kernel
theorem dX4_tillOfRow_38 : decode cX4_tillOfRow 38 = .ok (.iload_n 3, 1) := by decide +kernel
theorem dX4_tillOfRow_39 : decode cX4_tillOfRow 39 = .ok (.iaload, 1) := by decide +kernel
theorem dX4_tillOfRow_40 : decode cX4_tillOfRow 40 = .ok (.iconst 0, 1) := by decide +kernel
theorem dX4_tillOfRow_41 : decode cX4_tillOfRow 41 = .ok (.invokevirtual 164, 3) := by decide +kernel
theorem dX4_tillOfRow_44 : decode cX4_tillOfRow 44 = .ok (.iload_n 2, 1) := by decide +kernel
theorem dX4_tillOfRow_45 : decode cX4_tillOfRow 45 = .ok (.aload_n 0, 1) := by decide +kernel
theorem dX4_tillOfRow_46 : decode cX4_tillOfRow 46 = .ok (.getfield 26, 3) := by decide +kernel
theorem dX4_tillOfRow_49 : decode cX4_tillOfRow 49 = .ok (.aload_n 0, 1) := by decide +kernel
theorem dX4_tillOfRow_50 : decode cX4_tillOfRow 50 = .ok (.getfield 10, 3) := by decide +kernel
theorem dX4_tillOfRow_53 : decode cX4_tillOfRow 53 = .ok (.aload_n 0, 1) := by decide +kernel
theorem dX4_tillOfRow_54 : decode cX4_tillOfRow 54 = .ok (.getfield 52, 3) := by decide +kernel
theorem dX4_tillOfRow_57 : decode cX4_tillOfRow 57 = .ok (.iload_n 3, 1) := by decide +kernel
theorem dX4_tillOfRow_58 : decode cX4_tillOfRow 58 = .ok (.iaload, 1) := by decide +kernel
theorem dX4_tillOfRow_59 : decode cX4_tillOfRow 59 = .ok (.invokevirtual 172, 3) := by decide +kernel
theorem dX4_tillOfRow_62 : decode cX4_tillOfRow 62 = .ok (.iadd, 1) := by decide +kernel
theorem dX4_tillOfRow_63 : decode cX4_tillOfRow 63 = .ok (.istore_n 2, 1) := by decide +kernel
theorem dX4_tillOfRow_64 : decode cX4_tillOfRow 64 = .ok (.iinc 3 1, 3) := by decide +kernel
theorem dX4_tillOfRow_67 : decode cX4_tillOfRow 67 = .ok (.goto (-52), 3) := by decide +kernel
theorem dX4_tillOfRow_70 : decode cX4_tillOfRow 70 = .ok (.iload_n 2, 1) := by decide +kernel
theorem dX4_tillOfRow_71 : decode cX4_tillOfRow 71 = .ok (.ireturn, 1) := by decide +kernel
theorem dX4_nextRow_0 : decode cX4_nextRow 0 = .ok (.iload_n 1, 1) := by decide +kernel
theorem dX4_nextRow_1 : decode cX4_nextRow 1 = .ok (.ifCond .lt 9, 3) := by decide +kernel
theorem dX4_nextRow_4 : decode cX4_nextRow 4 = .ok (.iload_n 1, 1) := by decide +kernel
theorem dX4_nextRow_5 : decode cX4_nextRow 5 = .ok (.bipush 6, 2) := by decide +kernel
theorem dX4_nextRow_7 : decode cX4_nextRow 7 = .ok (.if_icmp .le 5, 3) := by decide +kernel
theorem dX4_nextRow_10 : decode cX4_nextRow 10 = .ok (.iconst 0, 1) := by decide +kernel
theorem dX4_nextRow_11 : decode cX4_nextRow 11 = .ok (.ireturn, 1) := by decide +kernel
theorem dX4_nextRow_12 : decode cX4_nextRow 12 = .ok (.iload_n 1, 1) := by decide +kernel
theorem dX4_nextRow_13 : decode cX4_nextRow 13 = .ok (.iconst 2, 1) := by decide +kernel
theorem dX4_nextRow_14 : decode cX4_nextRow 14 = .ok (.isub, 1) := by decide +kernel
theorem dX4_nextRow_15 : decode cX4_nextRow 15 = .ok (.istore_n 2, 1) := by decide +kernel
theorem dX4_nextRow_16 : decode cX4_nextRow 16 = .ok (.iload_n 2, 1) := by decide +kernel
theorem dX4_nextRow_17 : decode cX4_nextRow 17 = .ok (.ifCond .lt 26, 3) := by decide +kernel
theorem dX4_nextRow_20 : decode cX4_nextRow 20 = .ok (.aload_n 0, 1) := by decide +kernel
theorem dX4_nextRow_21 : decode cX4_nextRow 21 = .ok (.getfield 52, 3) := by decide +kernel
theorem dX4_nextRow_24 : decode cX4_nextRow 24 = .ok (.iload_n 2, 1) := by decide +kernel
theorem dX4_nextRow_25 : decode cX4_nextRow 25 = .ok (.iaload, 1) := by decide +kernel
theorem dX4_nextRow_26 : decode cX4_nextRow 26 = .ok (.aload_n 0, 1) := by decide +kernel
theorem dX4_nextRow_27 : decode cX4_nextRow 27 = .ok (.getfield 52, 3) := by decide +kernel
theorem dX4_nextRow_30 : decode cX4_nextRow 30 = .ok (.iload_n 2, 1) := by decide +kernel
theorem dX4_nextRow_31 : decode cX4_nextRow 31 = .ok (.iconst 1, 1) := by decide +kernel
theorem dX4_nextRow_32 : decode cX4_nextRow 32 = .ok (.iadd, 1) := by decide +kernel
theorem dX4_nextRow_33 : decode cX4_nextRow 33 = .ok (.iaload, 1) := by decide +kernel
theorem dX4_nextRow_34 : decode cX4_nextRow 34 = .ok (.if_icmp .le 9, 3) := by decide +kernel
theorem dX4_nextRow_37 : decode cX4_nextRow 37 = .ok (.iinc 2 (-1), 3) := by decide +kernel
theorem dX4_nextRow_40 : decode cX4_nextRow 40 = .ok (.goto (-24), 3) := by decide +kernel
theorem dX4_nextRow_43 : decode cX4_nextRow 43 = .ok (.iload_n 2, 1) := by decide +kernel
theorem dX4_nextRow_44 : decode cX4_nextRow 44 = .ok (.ifCond .ge 5, 3) := by decide +kernel
theorem dX4_nextRow_47 : decode cX4_nextRow 47 = .ok (.iconst 0, 1) := by decide +kernel
theorem dX4_nextRow_48 : decode cX4_nextRow 48 = .ok (.ireturn, 1) := by decide +kernel
theorem dX4_nextRow_49 : decode cX4_nextRow 49 = .ok (.iload_n 1, 1) := by decide +kernel
theorem dX4_nextRow_50 : decode cX4_nextRow 50 = .ok (.iconst 1, 1) := by decide +kernel
theorem dX4_nextRow_51 : decode cX4_nextRow 51 = .ok (.isub, 1) := by decide +kernel
theorem dX4_nextRow_52 : decode cX4_nextRow 52 = .ok (.istore_n 3, 1) := by decide +kernel
theorem dX4_nextRow_53 : decode cX4_nextRow 53 = .ok (.iload_n 3, 1) := by decide +kernel
theorem dX4_nextRow_54 : decode cX4_nextRow 54 = .ok (.iload_n 2, 1) := by decide +kernel
theorem dX4_nextRow_55 : decode cX4_nextRow 55 = .ok (.iconst 1, 1) := by decide +kernel
theorem dX4_nextRow_56 : decode cX4_nextRow 56 = .ok (.iadd, 1) := by decide +kernel
theorem dX4_nextRow_57 : decode cX4_nextRow 57 = .ok (.if_icmp .le 24, 3) := by decide +kernel
theorem dX4_nextRow_60 : decode cX4_nextRow 60 = .ok (.aload_n 0, 1) := by decide +kernel
theorem dX4_nextRow_61 : decode cX4_nextRow 61 = .ok (.getfield 52, 3) := by decide +kernel
theorem dX4_nextRow_64 : decode cX4_nextRow 64 = .ok (.iload_n 3, 1) := by decide +kernel
theorem dX4_nextRow_65 : decode cX4_nextRow 65 = .ok (.iaload, 1) := by decide +kernel
theorem dX4_nextRow_66 : decode cX4_nextRow 66 = .ok (.aload_n 0, 1) := by decide +kernel
theorem dX4_nextRow_67 : decode cX4_nextRow 67 = .ok (.getfield 52, 3) := by decide +kernel
theorem dX4_nextRow_70 : decode cX4_nextRow 70 = .ok (.iload_n 2, 1) := by decide +kernel
theorem dX4_nextRow_71 : decode cX4_nextRow 71 = .ok (.iaload, 1) := by decide +kernel
theorem dX4_nextRow_72 : decode cX4_nextRow 72 = .ok (.if_icmp .ge 9, 3) := by decide +kernel
theorem dX4_nextRow_75 : decode cX4_nextRow 75 = .ok (.iinc 3 (-1), 3) := by decide +kernel
theorem dX4_nextRow_78 : decode cX4_nextRow 78 = .ok (.goto (-25), 3) := by decide +kernel
theorem dX4_nextRow_81 : decode cX4_nextRow 81 = .ok (.aload_n 0, 1) := by decide +kernel
theorem dX4_nextRow_82 : decode cX4_nextRow 82 = .ok (.iload_n 2, 1) := by decide +kernel
theorem dX4_nextRow_83 : decode cX4_nextRow 83 = .ok (.iload_n 3, 1) := by decide +kernel
theorem dX4_nextRow_84 : decode cX4_nextRow 84 = .ok (.invokevirtual 286, 3) := by decide +kernel
theorem dX4_nextRow_87 : decode cX4_nextRow 87 = .ok (.iload_n 2, 1) := by decide +kernel
theorem dX4_nextRow_88 : decode cX4_nextRow 88 = .ok (.iconst 1, 1) := by decide +kernel
theorem dX4_nextRow_89 : decode cX4_nextRow 89 = .ok (.iadd, 1) := by decide +kernel
theorem dX4_nextRow_90 : decode cX4_nextRow 90 = .ok (.istore 4, 2) := by decide +kernel
theorem dX4_nextRow_92 : decode cX4_nextRow 92 = .ok (.iload_n 1, 1) := by decide +kernel
theorem dX4_nextRow_93 : decode cX4_nextRow 93 = .ok (.iconst 1, 1) := by decide +kernel
theorem dX4_nextRow_94 : decode cX4_nextRow 94 = .ok (.isub, 1) := by decide +kernel
theorem dX4_nextRow_95 : decode cX4_nextRow 95 = .ok (.istore 5, 2) := by decide +kernel
theorem dX4_nextRow_97 : decode cX4_nextRow 97 = .ok (.iload 4, 2) := by decide +kernel
theorem dX4_nextRow_99 : decode cX4_nextRow 99 = .ok (.iload 5, 2) := by decide +kernel
theorem dX4_nextRow_101 : decode cX4_nextRow 101 = .ok (.if_icmp .ge 20, 3) := by decide +kernel
theorem dX4_nextRow_104 : decode cX4_nextRow 104 = .ok (.aload_n 0, 1) := by decide +kernel
theorem dX4_nextRow_105 : decode cX4_nextRow 105 = .ok (.iload 4, 2) := by decide +kernel
theorem dX4_nextRow_107 : decode cX4_nextRow 107 = .ok (.iload 5, 2) := by decide +kernel
theorem dX4_nextRow_109 : decode cX4_nextRow 109 = .ok (.invokevirtual 286, 3) := by decide +kernel
theorem dX4_nextRow_112 : decode cX4_nextRow 112 = .ok (.iinc 4 1, 3) := by decide +kernel
theorem dX4_nextRow_115 : decode cX4_nextRow 115 = .ok (.iinc 5 (-1), 3) := by decide +kernel
theorem dX4_nextRow_118 : decode cX4_nextRow 118 = .ok (.goto (-21), 3) := by decide +kernel
theorem dX4_nextRow_121 : decode cX4_nextRow 121 = .ok (.iconst 1, 1) := by decide +kernel
theorem dX4_nextRow_122 : decode cX4_nextRow 122 = .ok (.ireturn, 1) := by decide +kernel
theorem dX4_swapInRow_0 : decode cX4_swapInRow 0 = .ok (.iload_n 1, 1) := by decide +kernel
theorem dX4_swapInRow_1 : decode cX4_swapInRow 1 = .ok (.ifCond .lt 19, 3) := by decide +kernel
theorem dX4_swapInRow_4 : decode cX4_swapInRow 4 = .ok (.iload_n 1, 1) := by decide +kernel
theorem dX4_swapInRow_5 : decode cX4_swapInRow 5 = .ok (.bipush 6, 2) := by decide +kernel
theorem dX4_swapInRow_7 : decode cX4_swapInRow 7 = .ok (.if_icmp .ge 13, 3) := by decide +kernel
theorem dX4_swapInRow_10 : decode cX4_swapInRow 10 = .ok (.iload_n 2, 1) := by decide +kernel
theorem dX4_swapInRow_11 : decode cX4_swapInRow 11 = .ok (.ifCond .lt 9, 3) := by decide +kernel
theorem dX4_swapInRow_14 : decode cX4_swapInRow 14 = .ok (.iload_n 2, 1) := by decide +kernel
theorem dX4_swapInRow_15 : decode cX4_swapInRow 15 = .ok (.bipush 6, 2) := by decide +kernel
theorem dX4_swapInRow_17 : decode cX4_swapInRow 17 = .ok (.if_icmp .lt 4, 3) := by decide +kernel
theorem dX4_swapInRow_20 : decode cX4_swapInRow 20 = .ok (.return_, 1) := by decide +kernel
theorem dX4_swapInRow_21 : decode cX4_swapInRow 21 = .ok (.aload_n 0, 1) := by decide +kernel
theorem dX4_swapInRow_22 : decode cX4_swapInRow 22 = .ok (.getfield 52, 3) := by decide +kernel
theorem dX4_swapInRow_25 : decode cX4_swapInRow 25 = .ok (.iload_n 1, 1) := by decide +kernel
theorem dX4_swapInRow_26 : decode cX4_swapInRow 26 = .ok (.iaload, 1) := by decide +kernel
theorem dX4_swapInRow_27 : decode cX4_swapInRow 27 = .ok (.istore_n 3, 1) := by decide +kernel
theorem dX4_swapInRow_28 : decode cX4_swapInRow 28 = .ok (.aload_n 0, 1) := by decide +kernel
theorem dX4_swapInRow_29 : decode cX4_swapInRow 29 = .ok (.getfield 52, 3) := by decide +kernel
theorem dX4_swapInRow_32 : decode cX4_swapInRow 32 = .ok (.iload_n 1, 1) := by decide +kernel
theorem dX4_swapInRow_33 : decode cX4_swapInRow 33 = .ok (.aload_n 0, 1) := by decide +kernel
theorem dX4_swapInRow_34 : decode cX4_swapInRow 34 = .ok (.getfield 52, 3) := by decide +kernel
theorem dX4_swapInRow_37 : decode cX4_swapInRow 37 = .ok (.iload_n 2, 1) := by decide +kernel
theorem dX4_swapInRow_38 : decode cX4_swapInRow 38 = .ok (.iaload, 1) := by decide +kernel
theorem dX4_swapInRow_39 : decode cX4_swapInRow 39 = .ok (.iastore, 1) := by decide +kernel
theorem dX4_swapInRow_40 : decode cX4_swapInRow 40 = .ok (.aload_n 0, 1) := by decide +kernel
theorem dX4_swapInRow_41 : decode cX4_swapInRow 41 = .ok (.getfield 52, 3) := by decide +kernel
theorem dX4_swapInRow_44 : decode cX4_swapInRow 44 = .ok (.iload_n 2, 1) := by decide +kernel
theorem dX4_swapInRow_45 : decode cX4_swapInRow 45 = .ok (.iload_n 3, 1) := by decide +kernel
theorem dX4_swapInRow_46 : decode cX4_swapInRow 46 = .ok (.iastore, 1) := by decide +kernel
theorem dX4_swapInRow_47 : decode cX4_swapInRow 47 = .ok (.return_, 1) := by decide +kernel

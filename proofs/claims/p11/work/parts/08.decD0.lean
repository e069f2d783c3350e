theorem dX5_init_0 : decode cX5_init 0 = .ok (.aload_n 0, 1) := by decide +kernel
theorem dX5_init_1 : decode cX5_init 1 = .ok (.invokespecial 1, 3) := by decide +kernel
theorem dX5_init_4 : decode cX5_init 4 = .ok (.aload_n 0, 1) := by decide +kernel
theorem dX5_init_5 : decode cX5_init 5 = .ok (.sipush 180, 3) := by decide +kernel
theorem dX5_init_8 : decode cX5_init 8 = .ok (.newarray .int, 2) := by decide +kernel
theorem dX5_init_10 : decode cX5_init 10 = .ok (.putfield 7, 3) := by decide +kernel
theorem dX5_init_13 : decode cX5_init 13 = .ok (.aload_n 0, 1) := by decide +kernel
theorem dX5_init_14 : decode cX5_init 14 = .ok (.bipush 60, 2) := by decide +kernel
theorem dX5_init_16 : decode cX5_init 16 = .ok (.newarray .int, 2) := by decide +kernel
theorem dX5_init_18 : decode cX5_init 18 = .ok (.putfield 13, 3) := by decide +kernel
theorem dX5_init_21 : decode cX5_init 21 = .ok (.aload_n 0, 1) := by decide +kernel
theorem dX5_init_22 : decode cX5_init 22 = .ok (.iconst 5, 1) := by decide +kernel
theorem dX5_init_23 : decode cX5_init 23 = .ok (.newarray .int, 2) := by decide +kernel
theorem dX5_init_25 : decode cX5_init 25 = .ok (.putfield 16, 3) := by decide +kernel
theorem dX5_init_28 : decode cX5_init 28 = .ok (.aload_n 0, 1) := by decide +kernel
theorem dX5_init_29 : decode cX5_init 29 = .ok (.bipush 6, 2) := by decide +kernel
theorem dX5_init_31 : decode cX5_init 31 = .ok (.newarray .int, 2) := by decide +kernel
theorem dX5_init_33 : decode cX5_init 33 = .ok (.putfield 19, 3) := by decide +kernel
theorem dX5_init_36 : decode cX5_init 36 = .ok (.aload_n 0, 1) := by decide +kernel
theorem dX5_init_37 : decode cX5_init 37 = .ok (.bipush 6, 2) := by decide +kernel
theorem dX5_init_39 : decode cX5_init 39 = .ok (.newarray .int, 2) := by decide +kernel
theorem dX5_init_41 : decode cX5_init 41 = .ok (.dup, 1) := by decide +kernel
theorem dX5_init_42 : decode cX5_init 42 = .ok (.iconst 0, 1) := by decide +kernel
theorem dX5_init_43 : decode cX5_init 43 = .ok (.iconst 0, 1) := by decide +kernel
theorem dX5_init_44 : decode cX5_init 44 = .ok (.iastore, 1) := by decide +kernel
theorem dX5_init_45 : decode cX5_init 45 = .ok (.dup, 1) := by decide +kernel
theorem dX5_init_46 : decode cX5_init 46 = .ok (.iconst 1, 1) := by decide +kernel
theorem dX5_init_47 : decode cX5_init 47 = .ok (.iconst 1, 1) := by decide +kernel
theorem dX5_init_48 : decode cX5_init 48 = .ok (.iastore, 1) := by decide +kernel
theorem dX5_init_49 : decode cX5_init 49 = .ok (.dup, 1) := by decide +kernel
theorem dX5_init_50 : decode cX5_init 50 = .ok (.iconst 2, 1) := by decide +kernel
theorem dX5_init_51 : decode cX5_init 51 = .ok (.iconst 2, 1) := by decide +kernel
theorem dX5_init_52 : decode cX5_init 52 = .ok (.iastore, 1) := by decide +kernel
theorem dX5_init_53 : decode cX5_init 53 = .ok (.dup, 1) := by decide +kernel
theorem dX5_init_54 : decode cX5_init 54 = .ok (.iconst 3, 1) := by decide +kernel
theorem dX5_init_55 : decode cX5_init 55 = .ok (.iconst 3, 1) := by decide +kernel
theorem dX5_init_56 : decode cX5_init 56 = .ok (.iastore, 1) := by decide +kernel
theorem dX5_init_57 : decode cX5_init 57 = .ok (.dup, 1) := by decide +kernel
theorem dX5_init_58 : decode cX5_init 58 = .ok (.iconst 4, 1) := by decide +kernel
theorem dX5_init_59 : decode cX5_init 59 = .ok (.iconst 4, 1) := by decide +kernel
theorem dX5_init_60 : decode cX5_init 60 = .ok (.iastore, 1) := by decide +kernel
theorem dX5_init_61 : decode cX5_init 61 = .ok (.dup, 1) := by decide +kernel
theorem dX5_init_62 : decode cX5_init 62 = .ok (.iconst 5, 1) := by decide +kernel
theorem dX5_init_63 : decode cX5_init 63 = .ok (.iconst 5, 1) := by decide +kernel
theorem dX5_init_64 : decode cX5_init 64 = .ok (.iastore, 1) := by decide +kernel
theorem dX5_init_65 : decode cX5_init 65 = .ok (.putfield 22, 3) := by decide +kernel
theorem dX5_init_68 : decode cX5_init 68 = .ok (.aload_n 0, 1) := by decide +kernel
theorem dX5_init_69 : decode cX5_init 69 = .ok (.iconst 5, 1) := by decide +kernel
theorem dX5_init_70 : decode cX5_init 70 = .ok (.newarray .int, 2) := by decide +kernel
theorem dX5_init_72 : decode cX5_init 72 = .ok (.putfield 25, 3) := by decide +kernel
theorem dX5_init_75 : decode cX5_init 75 = .ok (.aload_n 0, 1) := by decide +kernel
theorem dX5_init_76 : decode cX5_init 76 = .ok (.iconst 5, 1) := by decide +kernel
theorem dX5_init_77 : decode cX5_init 77 = .ok (.newarray .int, 2) := by decide +kernel
theorem dX5_init_79 : decode cX5_init 79 = .ok (.putfield 28, 3) := by decide +kernel
theorem dX5_init_82 : decode cX5_init 82 = .ok (.aload_n 0, 1) := by decide +kernel
theorem dX5_init_83 : decode cX5_init 83 = .ok (.iconst 5, 1) := by decide +kernel
theorem dX5_init_84 : decode cX5_init 84 = .ok (.newarray .int, 2) := by decide +kernel
theorem dX5_init_86 : decode cX5_init 86 = .ok (.putfield 31, 3) := by decide +kernel
theorem dX5_init_89 : decode cX5_init 89 = .ok (.aload_n 0, 1) := by decide +kernel
theorem dX5_init_90 : decode cX5_init 90 = .ok (.iconst 5, 1) := by decide +kernel
theorem dX5_init_91 : decode cX5_init 91 = .ok (.newarray .int, 2) := by decide +kernel
theorem dX5_init_93 : decode cX5_init 93 = .ok (.putfield 34, 3) := by decide +kernel
theorem dX5_init_96 : decode cX5_init 96 = .ok (.aload_n 0, 1) := by decide +kernel
theorem dX5_init_97 : decode cX5_init 97 = .ok (.bipush 6, 2) := by decide +kernel
theorem dX5_init_99 : decode cX5_init 99 = .ok (.newarray .int, 2) := by decide +kernel
theorem dX5_init_101 : decode cX5_init 101 = .ok (.putfield 37, 3) := by decide +kernel
theorem dX5_init_104 : decode cX5_init 104 = .ok (.aload_n 0, 1) := by decide +kernel
theorem dX5_init_105 : decode cX5_init 105 = .ok (.bipush 6, 2) := by decide +kernel
theorem dX5_init_107 : decode cX5_init 107 = .ok (.newarray .int, 2) := by decide +kernel
theorem dX5_init_109 : decode cX5_init 109 = .ok (.putfield 40, 3) := by decide +kernel
theorem dX5_init_112 : decode cX5_init 112 = .ok (.aload_n 0, 1) := by decide +kernel
theorem dX5_init_113 : decode cX5_init 113 = .ok (.bipush 6, 2) := by decide +kernel
theorem dX5_init_115 : decode cX5_init 115 = .ok (.newarray .int, 2) := by decide +kernel
theorem dX5_init_117 : decode cX5_init 117 = .ok (.putfield 43, 3) := by decide +kernel
theorem dX5_init_120 : decode cX5_init 120 = .ok (.aload_n 0, 1) := by decide +kernel
theorem dX5_init_121 : decode cX5_init 121 = .ok (.bipush 6, 2) := by decide +kernel
theorem dX5_init_123 : decode cX5_init 123 = .ok (.newarray .int, 2) := by decide +kernel
theorem dX5_init_125 : decode cX5_init 125 = .ok (.putfield 46, 3) := by decide +kernel
theorem dX5_init_128 : decode cX5_init 128 = .ok (.aload_n 0, 1) := by decide +kernel
theorem dX5_init_129 : decode cX5_init 129 = .ok (.bipush 6, 2) := by decide +kernel
theorem dX5_init_131 : decode cX5_init 131 = .ok (.newarray .int, 2) := by decide +kernel
theorem dX5_init_133 : decode cX5_init 133 = .ok (.putfield 49, 3) := by decide +kernel
theorem dX5_init_136 : decode cX5_init 136 = .ok (.aload_n 0, 1) := by decide +kernel
theorem dX5_init_137 : decode cX5_init 137 = .ok (.bipush 6, 2) := by decide +kernel
theorem dX5_init_139 : decode cX5_init 139 = .ok (.newarray .int, 2) := by decide +kernel
theorem dX5_init_141 : decode cX5_init 141 = .ok (.putfield 52, 3) := by decide +kernel
theorem dX5_init_144 : decode cX5_init 144 = .ok (.aload_n 0, 1) := by decide +kernel
theorem dX5_init_145 : decode cX5_init 145 = .ok (.bipush 6, 2) := by decide +kernel
theorem dX5_init_147 : decode cX5_init 147 = .ok (.newarray .int, 2) := by decide +kernel
theorem dX5_init_149 : decode cX5_init 149 = .ok (.putfield 55, 3) := by decide +kernel
theorem dX5_init_152 : decode cX5_init 152 = .ok (.aload_n 0, 1) := by decide +kernel
theorem dX5_init_153 : decode cX5_init 153 = .ok (.sipush 5120, 3) := by decide +kernel
theorem dX5_init_156 : decode cX5_init 156 = .ok (.newarray .int, 2) := by decide +kernel
theorem dX5_init_158 : decode cX5_init 158 = .ok (.putfield 58, 3) := by decide +kernel
theorem dX5_init_161 : decode cX5_init 161 = .ok (.aload_n 0, 1) := by decide +kernel
theorem dX5_init_162 : decode cX5_init 162 = .ok (.bipush 6, 2) := by decide +kernel
theorem dX5_init_164 : decode cX5_init 164 = .ok (.newarray .int, 2) := by decide +kernel
theorem dX5_init_166 : decode cX5_init 166 = .ok (.putfield 61, 3) := by decide +kernel
theorem dX5_init_169 : decode cX5_init 169 = .ok (.aload_n 0, 1) := by decide +kernel
theorem dX5_init_170 : decode cX5_init 170 = .ok (.iconst 4, 1) := by decide +kernel
theorem dX5_init_171 : decode cX5_init 171 = .ok (.newarray .int, 2) := by decide +kernel
theorem dX5_init_173 : decode cX5_init 173 = .ok (.putfield 64, 3) := by decide +kernel
theorem dX5_init_176 : decode cX5_init 176 = .ok (.aload_n 0, 1) := by decide +kernel
theorem dX5_init_177 : decode cX5_init 177 = .ok (.iconst 4, 1) := by decide +kernel
theorem dX5_init_178 : decode cX5_init 178 = .ok (.newarray .int, 2) := by decide +kernel
theorem dX5_init_180 : decode cX5_init 180 = .ok (.putfield 67, 3) := by decide +kernel
theorem dX5_init_183 : decode cX5_init 183 = .ok (.aload_n 0, 1) := by decide +kernel
theorem dX5_init_184 : decode cX5_init 184 = .ok (.bipush 64, 2) := by decide +kernel
theorem dX5_init_186 : decode cX5_init 186 = .ok (.newarray .long, 2) := by decide +kernel
theorem dX5_init_188 : decode cX5_init 188 = .ok (.putfield 70, 3) := by decide +kernel
theorem dX5_init_191 : decode cX5_init 191 = .ok (.aload_n 0, 1) := by decide +kernel
theorem dX5_init_192 : decode cX5_init 192 = .ok (.bipush 16, 2) := by decide +kernel
theorem dX5_init_194 : decode cX5_init 194 = .ok (.newarray .long, 2) := by decide +kernel
theorem dX5_init_196 : decode cX5_init 196 = .ok (.putfield 74, 3) := by decide +kernel
theorem dX5_init_199 : decode cX5_init 199 = .ok (.aload_n 0, 1) := by decide +kernel
theorem dX5_init_200 : decode cX5_init 200 = .ok (.getfield 7, 3) := by decide +kernel
theorem dX5_init_203 : decode cX5_init 203 = .ok (.iconst 0, 1) := by decide +kernel
theorem dX5_init_204 : decode cX5_init 204 = .ok (.bipush 60, 2) := by decide +kernel
theorem dX5_init_206 : decode cX5_init 206 = .ok (.iastore, 1) := by decide +kernel
theorem dX5_init_207 : decode cX5_init 207 = .ok (.aload_n 0, 1) := by decide +kernel
theorem dX5_init_208 : decode cX5_init 208 = .ok (.getfield 7, 3) := by decide +kernel
theorem dX5_init_211 : decode cX5_init 211 = .ok (.iconst 1, 1) := by decide +kernel
theorem dX5_init_212 : decode cX5_init 212 = .ok (.iconst 1, 1) := by decide +kernel
theorem dX5_init_213 : decode cX5_init 213 = .ok (.iastore, 1) := by decide +kernel
theorem dX5_init_214 : decode cX5_init 214 = .ok (.aload_n 0, 1) := by decide +kernel
theorem dX5_init_215 : decode cX5_init 215 = .ok (.getfield 7, 3) := by decide +kernel
theorem dX5_init_218 : decode cX5_init 218 = .ok (.iconst 2, 1) := by decide +kernel
theorem dX5_init_219 : decode cX5_init 219 = .ok (.iconst 1, 1) := by decide +kernel
theorem dX5_init_220 : decode cX5_init 220 = .ok (.iastore, 1) := by decide +kernel
theorem dX5_init_221 : decode cX5_init 221 = .ok (.iconst 0, 1) := by decide +kernel
theorem dX5_init_222 : decode cX5_init 222 = .ok (.istore_n 1, 1) := by decide +kernel
theorem dX5_init_223 : decode cX5_init 223 = .ok (.iload_n 1, 1) := by decide +kernel
theorem dX5_init_224 : decode cX5_init 224 = .ok (.iconst 4, 1) := by decide +kernel
theorem dX5_init_225 : decode cX5_init 225 = .ok (.if_icmp .ge 16, 3) := by decide +kernel
theorem dX5_init_228 : decode cX5_init 228 = .ok (.aload_n 0, 1) := by decide +kernel
theorem dX5_init_229 : decode cX5_init 229 = .ok (.getfield 64, 3) := by decide +kernel
theorem dX5_init_232 : decode cX5_init 232 = .ok (.iload_n 1, 1) := by decide +kernel
theorem dX5_init_233 : decode cX5_init 233 = .ok (.iconst (-1), 1) := by decide +kernel
theorem dX5_init_234 : decode cX5_init 234 = .ok (.iastore, 1) := by decide +kernel
theorem dX5_init_235 : decode cX5_init 235 = .ok (.iinc 1 1, 3) := by decide +kernel
theorem dX5_init_238 : decode cX5_init 238 = .ok (.goto (-15), 3) := by decide +kernel
theorem dX5_init_241 : decode cX5_init 241 = .ok (.return_, 1) := by decide +kernel
theorem dX5_in_0 : decode cX5_in 0 = .ok (.lload_n 0, 1) := by decide +kernel
theorem dX5_in_1 : decode cX5_in 1 = .ok (.lload_n 2, 1) := by decide +kernel
theorem dX5_in_2 : decode cX5_in 2 = .ok (.lcmp, 1) := by decide +kernel
theorem dX5_in_3 : decode cX5_in 3 = .ok (.ifCond .lt 14, 3) := by decide +kernel
theorem dX5_in_6 : decode cX5_in 6 = .ok (.lload_n 0, 1) := by decide +kernel
theorem dX5_in_7 : decode cX5_in 7 = .ok (.lload 4, 2) := by decide +kernel
theorem dX5_in_9 : decode cX5_in 9 = .ok (.lcmp, 1) := by decide +kernel
theorem dX5_in_10 : decode cX5_in 10 = .ok (.ifCond .gt 7, 3) := by decide +kernel
theorem dX5_in_13 : decode cX5_in 13 = .ok (.iconst 1, 1) := by decide +kernel
theorem dX5_in_14 : decode cX5_in 14 = .ok (.goto 4, 3) := by decide +kernel
theorem dX5_in_17 : decode cX5_in 17 = .ok (.iconst 0, 1) := by decide +kernel
theorem dX5_in_18 : decode cX5_in 18 = .ok (.ireturn, 1) := by decide +kernel
theorem dX5_isBuyer_0 : decode cX5_isBuyer 0 = .ok (.iload_n 1, 1) := by decide +kernel
theorem dX5_isBuyer_1 : decode cX5_isBuyer 1 = .ok (.i2l, 1) := by decide +kernel
theorem dX5_isBuyer_2 : decode cX5_isBuyer 2 = .ok (.lconst 0, 1) := by decide +kernel
theorem dX5_isBuyer_3 : decode cX5_isBuyer 3 = .ok (.aload_n 0, 1) := by decide +kernel
theorem dX5_isBuyer_4 : decode cX5_isBuyer 4 = .ok (.getfield 7, 3) := by decide +kernel
theorem dX5_isBuyer_7 : decode cX5_isBuyer 7 = .ok (.bipush 12, 2) := by decide +kernel
theorem dX5_isBuyer_9 : decode cX5_isBuyer 9 = .ok (.iaload, 1) := by decide +kernel
theorem dX5_isBuyer_10 : decode cX5_isBuyer 10 = .ok (.iconst 1, 1) := by decide +kernel
theorem dX5_isBuyer_11 : decode cX5_isBuyer 11 = .ok (.isub, 1) := by decide +kernel
theorem dX5_isBuyer_12 : decode cX5_isBuyer 12 = .ok (.i2l, 1) := by decide +kernel
theorem dX5_isBuyer_13 : decode cX5_isBuyer 13 = .ok (.invokestatic 77, 3) := by decide +kernel
theorem dX5_isBuyer_16 : decode cX5_isBuyer 16 = .ok (.ireturn, 1) := by decide +kernel
theorem dX5_has_0 : decode cX5_has 0 = .ok (.iload_n 0, 1) := by decide +kernel
theorem dX5_has_1 : decode cX5_has 1 = .ok (.iload_n 1, 1) := by decide +kernel
theorem dX5_has_2 : decode cX5_has 2 = .ok (.ishr, 1) := by decide +kernel
theorem dX5_has_3 : decode cX5_has 3 = .ok (.iconst 1, 1) := by decide +kernel
theorem dX5_has_4 : decode cX5_has 4 = .ok (.iand, 1) := by decide +kernel
theorem dX5_has_5 : decode cX5_has 5 = .ok (.iconst 1, 1) := by decide +kernel
theorem dX5_has_6 : decode cX5_has 6 = .ok (.if_icmp .ne 7, 3) := by decide +kernel
theorem dX5_has_9 : decode cX5_has 9 = .ok (.iconst 1, 1) := by decide +kernel
theorem dX5_has_10 : decode cX5_has 10 = .ok (.goto 4, 3) := by decide +kernel
theorem dX5_has_13 : decode cX5_has 13 = .ok (.iconst 0, 1) := by decide +kernel
theorem dX5_has_14 : decode cX5_has 14 = .ok (.ireturn, 1) := by decide +kernel
theorem dX5_lesser_0 : decode cX5_lesser 0 = .ok (.iload_n 0, 1) := by decide +kernel
theorem dX5_lesser_1 : decode cX5_lesser 1 = .ok (.iload_n 1, 1) := by decide +kernel
theorem dX5_lesser_2 : decode cX5_lesser 2 = .ok (.if_icmp .ge 7, 3) := by decide +kernel
theorem dX5_lesser_5 : decode cX5_lesser 5 = .ok (.iload_n 0, 1) := by decide +kernel
theorem dX5_lesser_6 : decode cX5_lesser 6 = .ok (.goto 4, 3) := by decide +kernel
theorem dX5_lesser_9 : decode cX5_lesser 9 = .ok (.iload_n 1, 1) := by decide +kernel
theorem dX5_lesser_10 : decode cX5_lesser 10 = .ok (.ireturn, 1) := by decide +kernel
theorem dX5_greater_0 : decode cX5_greater 0 = .ok (.iload_n 0, 1) := by decide +kernel
theorem dX5_greater_1 : decode cX5_greater 1 = .ok (.iload_n 1, 1) := by decide +kernel
theorem dX5_greater_2 : decode cX5_greater 2 = .ok (.if_icmp .le 7, 3) := by decide +kernel
theorem dX5_greater_5 : decode cX5_greater 5 = .ok (.iload_n 0, 1) := by decide +kernel
theorem dX5_greater_6 : decode cX5_greater 6 = .ok (.goto 4, 3) := by decide +kernel
theorem dX5_greater_9 : decode cX5_greater 9 = .ok (.iload_n 1, 1) := by decide +kernel
theorem dX5_greater_10 : decode cX5_greater 10 = .ok (.ireturn, 1) := by decide +kernel
theorem dX5_leastOf_0 : decode cX5_leastOf 0 = .ok (.iload_n 0, 1) := by decide +kernel
theorem dX5_leastOf_1 : decode cX5_leastOf 1 = .ok (.iconst 2, 1) := by decide +kernel
theorem dX5_leastOf_2 : decode cX5_leastOf 2 = .ok (.if_icmp .ge 7, 3) := by decide +kernel
theorem dX5_leastOf_5 : decode cX5_leastOf 5 = .ok (.iconst 1, 1) := by decide +kernel
theorem dX5_leastOf_6 : decode cX5_leastOf 6 = .ok (.goto 4, 3) := by decide +kernel
theorem dX5_leastOf_9 : decode cX5_leastOf 9 = .ok (.iconst 0, 1) := by decide +kernel
theorem dX5_leastOf_10 : decode cX5_leastOf 10 = .ok (.ireturn, 1) := by decide +kernel
theorem dX5_mostOf_0 : decode cX5_mostOf 0 = .ok (.iload_n 0, 1) := by decide +kernel
theorem dX5_mostOf_1 : decode cX5_mostOf 1 = .ok (.iconst 1, 1) := by decide +kernel
theorem dX5_mostOf_2 : decode cX5_mostOf 2 = .ok (.if_icmp .ne 8, 3) := by decide +kernel
theorem dX5_mostOf_5 : decode cX5_mostOf 5 = .ok (.bipush 9, 2) := by decide +kernel
theorem dX5_mostOf_7 : decode cX5_mostOf 7 = .ok (.goto 14, 3) := by decide +kernel
theorem dX5_mostOf_10 : decode cX5_mostOf 10 = .ok (.iload_n 0, 1) := by decide +kernel
theorem dX5_mostOf_11 : decode cX5_mostOf 11 = .ok (.iconst 3, 1) := by decide +kernel
theorem dX5_mostOf_12 : decode cX5_mostOf 12 = .ok (.if_icmp .ne 7, 3) := by decide +kernel
theorem dX5_mostOf_15 : decode cX5_mostOf 15 = .ok (.iconst 1, 1) := by decide +kernel
theorem dX5_mostOf_16 : decode cX5_mostOf 16 = .ok (.goto 5, 3) := by decide +kernel
theorem dX5_mostOf_19 : decode cX5_mostOf 19 = .ok (.bipush 99, 2) := by decide +kernel
theorem dX5_mostOf_21 : decode cX5_mostOf 21 = .ok (.ireturn, 1) := by decide +kernel
theorem dX5_rule_0 : decode cX5_rule 0 = .ok (.iload_n 1, 1) := by decide +kernel
theorem dX5_rule_1 : decode cX5_rule 1 = .ok (.i2l, 1) := by decide +kernel
theorem dX5_rule_2 : decode cX5_rule 2 = .ok (.lconst 0, 1) := by decide +kernel
theorem dX5_rule_3 : decode cX5_rule 3 = .ok (.ldc2_w 81, 3) := by decide +kernel
theorem dX5_rule_6 : decode cX5_rule 6 = .ok (.invokestatic 77, 3) := by decide +kernel
theorem dX5_rule_9 : decode cX5_rule 9 = .ok (.ifCond .eq 21, 3) := by decide +kernel
theorem dX5_rule_12 : decode cX5_rule 12 = .ok (.iload_n 2, 1) := by decide +kernel
theorem dX5_rule_13 : decode cX5_rule 13 = .ok (.i2l, 1) := by decide +kernel
theorem dX5_rule_14 : decode cX5_rule 14 = .ok (.iload_n 1, 1) := by decide +kernel
theorem dX5_rule_15 : decode cX5_rule 15 = .ok (.invokestatic 83, 3) := by decide +kernel
theorem dX5_rule_18 : decode cX5_rule 18 = .ok (.i2l, 1) := by decide +kernel
theorem dX5_rule_19 : decode cX5_rule 19 = .ok (.iload_n 1, 1) := by decide +kernel
theorem dX5_rule_20 : decode cX5_rule 20 = .ok (.invokestatic 87, 3) := by decide +kernel
theorem dX5_rule_23 : decode cX5_rule 23 = .ok (.i2l, 1) := by decide +kernel
theorem dX5_rule_24 : decode cX5_rule 24 = .ok (.invokestatic 77, 3) := by decide +kernel
theorem dX5_rule_27 : decode cX5_rule 27 = .ok (.ifCond .ne 5, 3) := by decide +kernel
theorem dX5_rule_30 : decode cX5_rule 30 = .ok (.iconst (-1), 1) := by decide +kernel
theorem dX5_rule_31 : decode cX5_rule 31 = .ok (.ireturn, 1) := by decide +kernel
theorem dX5_rule_32 : decode cX5_rule 32 = .ok (.aload_n 0, 1) := by decide +kernel
theorem dX5_rule_33 : decode cX5_rule 33 = .ok (.getfield 7, 3) := by decide +kernel
theorem dX5_rule_36 : decode cX5_rule 36 = .ok (.iload_n 1, 1) := by decide +kernel
theorem dX5_rule_37 : decode cX5_rule 37 = .ok (.iaload, 1) := by decide +kernel
theorem dX5_rule_38 : decode cX5_rule 38 = .ok (.istore_n 3, 1) := by decide +kernel
theorem dX5_rule_39 : decode cX5_rule 39 = .ok (.aload_n 0, 1) := by decide +kernel
theorem dX5_rule_40 : decode cX5_rule 40 = .ok (.getfield 7, 3) := by decide +kernel
theorem dX5_rule_43 : decode cX5_rule 43 = .ok (.iload_n 1, 1) := by decide +kernel
theorem dX5_rule_44 : decode cX5_rule 44 = .ok (.iload_n 2, 1) := by decide +kernel
theorem dX5_rule_45 : decode cX5_rule 45 = .ok (.iastore, 1) := by decide +kernel
theorem dX5_rule_46 : decode cX5_rule 46 = .ok (.iload_n 3, 1) := by decide +kernel
theorem dX5_rule_47 : decode cX5_rule 47 = .ok (.ireturn, 1) := by decide +kernel
theorem dX5_buyer_0 : decode cX5_buyer 0 = .ok (.iload_n 1, 1) := by decide +kernel
theorem dX5_buyer_1 : decode cX5_buyer 1 = .ok (.i2l, 1) := by decide +kernel
theorem dX5_buyer_2 : decode cX5_buyer 2 = .ok (.lconst 0, 1) := by decide +kernel
theorem dX5_buyer_3 : decode cX5_buyer 3 = .ok (.ldc2_w 81, 3) := by decide +kernel
theorem dX5_buyer_6 : decode cX5_buyer 6 = .ok (.invokestatic 77, 3) := by decide +kernel
theorem dX5_buyer_9 : decode cX5_buyer 9 = .ok (.ifCond .eq 15, 3) := by decide +kernel
theorem dX5_buyer_12 : decode cX5_buyer 12 = .ok (.iload_n 2, 1) := by decide +kernel
theorem dX5_buyer_13 : decode cX5_buyer 13 = .ok (.i2l, 1) := by decide +kernel
theorem dX5_buyer_14 : decode cX5_buyer 14 = .ok (.lconst 0, 1) := by decide +kernel
theorem dX5_buyer_15 : decode cX5_buyer 15 = .ok (.ldc2_w 90, 3) := by decide +kernel
theorem dX5_buyer_18 : decode cX5_buyer 18 = .ok (.invokestatic 77, 3) := by decide +kernel
theorem dX5_buyer_21 : decode cX5_buyer 21 = .ok (.ifCond .ne 5, 3) := by decide +kernel
theorem dX5_buyer_24 : decode cX5_buyer 24 = .ok (.iconst (-1), 1) := by decide +kernel
theorem dX5_buyer_25 : decode cX5_buyer 25 = .ok (.ireturn, 1) := by decide +kernel
theorem dX5_buyer_26 : decode cX5_buyer 26 = .ok (.aload_n 0, 1) := by decide +kernel
theorem dX5_buyer_27 : decode cX5_buyer 27 = .ok (.getfield 7, 3) := by decide +kernel
theorem dX5_buyer_30 : decode cX5_buyer 30 = .ok (.bipush 12, 2) := by decide +kernel
theorem dX5_buyer_32 : decode cX5_buyer 32 = .ok (.iaload, 1) := by decide +kernel
theorem dX5_buyer_33 : decode cX5_buyer 33 = .ok (.istore_n 3, 1) := by decide +kernel
theorem dX5_buyer_34 : decode cX5_buyer 34 = .ok (.iload_n 3, 1) := by decide +kernel
theorem dX5_buyer_35 : decode cX5_buyer 35 = .ok (.iconst 5, 1) := by decide +kernel
theorem dX5_buyer_36 : decode cX5_buyer 36 = .ok (.if_icmp .ne 6, 3) := by decide +kernel
theorem dX5_buyer_39 : decode cX5_buyer 39 = .ok (.bipush (-3), 2) := by decide +kernel
theorem dX5_buyer_41 : decode cX5_buyer 41 = .ok (.ireturn, 1) := by decide +kernel
theorem dX5_buyer_42 : decode cX5_buyer 42 = .ok (.aload_n 0, 1) := by decide +kernel
theorem dX5_buyer_43 : decode cX5_buyer 43 = .ok (.getfield 7, 3) := by decide +kernel
theorem dX5_buyer_46 : decode cX5_buyer 46 = .ok (.bipush 13, 2) := by decide +kernel
theorem dX5_buyer_48 : decode cX5_buyer 48 = .ok (.iload_n 3, 1) := by decide +kernel
theorem dX5_buyer_49 : decode cX5_buyer 49 = .ok (.iadd, 1) := by decide +kernel
theorem dX5_buyer_50 : decode cX5_buyer 50 = .ok (.iload_n 1, 1) := by decide +kernel
theorem dX5_buyer_51 : decode cX5_buyer 51 = .ok (.iastore, 1) := by decide +kernel
theorem dX5_buyer_52 : decode cX5_buyer 52 = .ok (.aload_n 0, 1) := by decide +kernel
theorem dX5_buyer_53 : decode cX5_buyer 53 = .ok (.getfield 7, 3) := by decide +kernel
theorem dX5_buyer_56 : decode cX5_buyer 56 = .ok (.bipush 18, 2) := by decide +kernel
theorem dX5_buyer_58 : decode cX5_buyer 58 = .ok (.iload_n 3, 1) := by decide +kernel
theorem dX5_buyer_59 : decode cX5_buyer 59 = .ok (.iadd, 1) := by decide +kernel
theorem dX5_buyer_60 : decode cX5_buyer 60 = .ok (.iload_n 2, 1) := by decide +kernel
theorem dX5_buyer_61 : decode cX5_buyer 61 = .ok (.iastore, 1) := by decide +kernel
theorem dX5_buyer_62 : decode cX5_buyer 62 = .ok (.aload_n 0, 1) := by decide +kernel
theorem dX5_buyer_63 : decode cX5_buyer 63 = .ok (.getfield 7, 3) := by decide +kernel
theorem dX5_buyer_66 : decode cX5_buyer 66 = .ok (.bipush 23, 2) := by decide +kernel
theorem dX5_buyer_68 : decode cX5_buyer 68 = .ok (.iload_n 3, 1) := by decide +kernel
theorem dX5_buyer_69 : decode cX5_buyer 69 = .ok (.iadd, 1) := by decide +kernel
theorem dX5_buyer_70 : decode cX5_buyer 70 = .ok (.iconst 0, 1) := by decide +kernel
theorem dX5_buyer_71 : decode cX5_buyer 71 = .ok (.iastore, 1) := by decide +kernel
theorem dX5_buyer_72 : decode cX5_buyer 72 = .ok (.iconst 4, 1) := by decide +kernel
theorem dX5_buyer_73 : decode cX5_buyer 73 = .ok (.iload_n 3, 1) := by decide +kernel
theorem dX5_buyer_74 : decode cX5_buyer 74 = .ok (.imul, 1) := by decide +kernel
theorem dX5_buyer_75 : decode cX5_buyer 75 = .ok (.istore 4, 2) := by decide +kernel
theorem dX5_buyer_77 : decode cX5_buyer 77 = .ok (.iload 4, 2) := by decide +kernel
theorem dX5_buyer_79 : decode cX5_buyer 79 = .ok (.iconst 4, 1) := by decide +kernel
theorem dX5_buyer_80 : decode cX5_buyer 80 = .ok (.iload_n 3, 1) := by decide +kernel
theorem dX5_buyer_81 : decode cX5_buyer 81 = .ok (.imul, 1) := by decide +kernel
theorem dX5_buyer_82 : decode cX5_buyer 82 = .ok (.iconst 4, 1) := by decide +kernel
theorem dX5_buyer_83 : decode cX5_buyer 83 = .ok (.iadd, 1) := by decide +kernel
theorem dX5_buyer_84 : decode cX5_buyer 84 = .ok (.if_icmp .ge 43, 3) := by decide +kernel
theorem dX5_buyer_87 : decode cX5_buyer 87 = .ok (.aload_n 0, 1) := by decide +kernel
theorem dX5_buyer_88 : decode cX5_buyer 88 = .ok (.getfield 7, 3) := by decide +kernel
theorem dX5_buyer_91 : decode cX5_buyer 91 = .ok (.bipush 28, 2) := by decide +kernel
theorem dX5_buyer_93 : decode cX5_buyer 93 = .ok (.iload 4, 2) := by decide +kernel
theorem dX5_buyer_95 : decode cX5_buyer 95 = .ok (.iadd, 1) := by decide +kernel
theorem dX5_buyer_96 : decode cX5_buyer 96 = .ok (.iconst 0, 1) := by decide +kernel
theorem dX5_buyer_97 : decode cX5_buyer 97 = .ok (.iastore, 1) := by decide +kernel
theorem dX5_buyer_98 : decode cX5_buyer 98 = .ok (.aload_n 0, 1) := by decide +kernel
theorem dX5_buyer_99 : decode cX5_buyer 99 = .ok (.getfield 7, 3) := by decide +kernel
theorem dX5_buyer_102 : decode cX5_buyer 102 = .ok (.bipush 48, 2) := by decide +kernel
theorem dX5_buyer_104 : decode cX5_buyer 104 = .ok (.iload 4, 2) := by decide +kernel
theorem dX5_buyer_106 : decode cX5_buyer 106 = .ok (.iadd, 1) := by decide +kernel
theorem dX5_buyer_107 : decode cX5_buyer 107 = .ok (.iconst 0, 1) := by decide +kernel
theorem dX5_buyer_108 : decode cX5_buyer 108 = .ok (.iastore, 1) := by decide +kernel
theorem dX5_buyer_109 : decode cX5_buyer 109 = .ok (.aload_n 0, 1) := by decide +kernel
theorem dX5_buyer_110 : decode cX5_buyer 110 = .ok (.getfield 7, 3) := by decide +kernel
theorem dX5_buyer_113 : decode cX5_buyer 113 = .ok (.bipush 68, 2) := by decide +kernel
theorem dX5_buyer_115 : decode cX5_buyer 115 = .ok (.iload 4, 2) := by decide +kernel
theorem dX5_buyer_117 : decode cX5_buyer 117 = .ok (.iadd, 1) := by decide +kernel
theorem dX5_buyer_118 : decode cX5_buyer 118 = .ok (.bipush 99, 2) := by decide +kernel
theorem dX5_buyer_120 : decode cX5_buyer 120 = .ok (.iastore, 1) := by decide +kernel
theorem dX5_buyer_121 : decode cX5_buyer 121 = .ok (.iinc 4 1, 3) := by decide +kernel
theorem dX5_buyer_124 : decode cX5_buyer 124 = .ok (.goto (-47), 3) := by decide +kernel
theorem dX5_buyer_127 : decode cX5_buyer 127 = .ok (.aload_n 0, 1) := by decide +kernel
theorem dX5_buyer_128 : decode cX5_buyer 128 = .ok (.getfield 7, 3) := by decide +kernel
theorem dX5_buyer_131 : decode cX5_buyer 131 = .ok (.bipush 12, 2) := by decide +kernel
theorem dX5_buyer_133 : decode cX5_buyer 133 = .ok (.dup2, 1) := by decide +kernel
theorem dX5_buyer_134 : decode cX5_buyer 134 = .ok (.iaload, 1) := by decide +kernel
theorem dX5_buyer_135 : decode cX5_buyer 135 = .ok (.iconst 1, 1) := by decide +kernel
theorem dX5_buyer_136 : decode cX5_buyer 136 = .ok (.iadd, 1) := by decide +kernel
theorem dX5_buyer_137 : decode cX5_buyer 137 = .ok (.iastore, 1) := by decide +kernel
theorem dX5_buyer_138 : decode cX5_buyer 138 = .ok (.iload_n 3, 1) := by decide +kernel
theorem dX5_buyer_139 : decode cX5_buyer 139 = .ok (.ireturn, 1) := by decide +kernel
theorem dX5_worth_0 : decode cX5_worth 0 = .ok (.aload_n 0, 1) := by decide +kernel
theorem dX5_worth_1 : decode cX5_worth 1 = .ok (.iload_n 1, 1) := by decide +kernel
theorem dX5_worth_2 : decode cX5_worth 2 = .ok (.invokevirtual 92, 3) := by decide +kernel
theorem dX5_worth_5 : decode cX5_worth 5 = .ok (.ifCond .eq 27, 3) := by decide +kernel
theorem dX5_worth_8 : decode cX5_worth 8 = .ok (.iload_n 2, 1) := by decide +kernel
theorem dX5_worth_9 : decode cX5_worth 9 = .ok (.i2l, 1) := by decide +kernel
theorem dX5_worth_10 : decode cX5_worth 10 = .ok (.lconst 0, 1) := by decide +kernel
theorem dX5_worth_11 : decode cX5_worth 11 = .ok (.ldc2_w 96, 3) := by decide +kernel
theorem dX5_worth_14 : decode cX5_worth 14 = .ok (.invokestatic 77, 3) := by decide +kernel
theorem dX5_worth_17 : decode cX5_worth 17 = .ok (.ifCond .eq 15, 3) := by decide +kernel
theorem dX5_worth_20 : decode cX5_worth 20 = .ok (.iload_n 3, 1) := by decide +kernel
theorem dX5_worth_21 : decode cX5_worth 21 = .ok (.i2l, 1) := by decide +kernel
theorem dX5_worth_22 : decode cX5_worth 22 = .ok (.lconst 0, 1) := by decide +kernel
theorem dX5_worth_23 : decode cX5_worth 23 = .ok (.ldc2_w 98, 3) := by decide +kernel
theorem dX5_worth_26 : decode cX5_worth 26 = .ok (.invokestatic 77, 3) := by decide +kernel
theorem dX5_worth_29 : decode cX5_worth 29 = .ok (.ifCond .ne 5, 3) := by decide +kernel
theorem dX5_worth_32 : decode cX5_worth 32 = .ok (.iconst (-1), 1) := by decide +kernel
theorem dX5_worth_33 : decode cX5_worth 33 = .ok (.ireturn, 1) := by decide +kernel
theorem dX5_worth_34 : decode cX5_worth 34 = .ok (.bipush 28, 2) := by decide +kernel
theorem dX5_worth_36 : decode cX5_worth 36 = .ok (.iconst 4, 1) := by decide +kernel
theorem dX5_worth_37 : decode cX5_worth 37 = .ok (.iload_n 1, 1) := by decide +kernel
theorem dX5_worth_38 : decode cX5_worth 38 = .ok (.imul, 1) := by decide +kernel
theorem dX5_worth_39 : decode cX5_worth 39 = .ok (.iadd, 1) := by decide +kernel
theorem dX5_worth_40 : decode cX5_worth 40 = .ok (.iload_n 2, 1) := by decide +kernel
theorem dX5_worth_41 : decode cX5_worth 41 = .ok (.iadd, 1) := by decide +kernel
theorem dX5_worth_42 : decode cX5_worth 42 = .ok (.istore 4, 2) := by decide +kernel
theorem dX5_worth_44 : decode cX5_worth 44 = .ok (.aload_n 0, 1) := by decide +kernel
theorem dX5_worth_45 : decode cX5_worth 45 = .ok (.getfield 7, 3) := by decide +kernel
theorem dX5_worth_48 : decode cX5_worth 48 = .ok (.iload 4, 2) := by decide +kernel
theorem dX5_worth_50 : decode cX5_worth 50 = .ok (.iaload, 1) := by decide +kernel
theorem dX5_worth_51 : decode cX5_worth 51 = .ok (.istore 5, 2) := by decide +kernel
theorem dX5_worth_53 : decode cX5_worth 53 = .ok (.aload_n 0, 1) := by decide +kernel
theorem dX5_worth_54 : decode cX5_worth 54 = .ok (.getfield 7, 3) := by decide +kernel
theorem dX5_worth_57 : decode cX5_worth 57 = .ok (.iload 4, 2) := by decide +kernel
theorem dX5_worth_59 : decode cX5_worth 59 = .ok (.iload_n 3, 1) := by decide +kernel
theorem dX5_worth_60 : decode cX5_worth 60 = .ok (.iastore, 1) := by decide +kernel
theorem dX5_worth_61 : decode cX5_worth 61 = .ok (.iload 5, 2) := by decide +kernel
theorem dX5_worth_63 : decode cX5_worth 63 = .ok (.ireturn, 1) := by decide +kernel
theorem dX5_margin_0 : decode cX5_margin 0 = .ok (.aload_n 0, 1) := by decide +kernel
theorem dX5_margin_1 : decode cX5_margin 1 = .ok (.iload_n 1, 1) := by decide +kernel
theorem dX5_margin_2 : decode cX5_margin 2 = .ok (.invokevirtual 92, 3) := by decide +kernel
theorem dX5_margin_5 : decode cX5_margin 5 = .ok (.ifCond .eq 15, 3) := by decide +kernel
theorem dX5_margin_8 : decode cX5_margin 8 = .ok (.iload_n 2, 1) := by decide +kernel
theorem dX5_margin_9 : decode cX5_margin 9 = .ok (.i2l, 1) := by decide +kernel
theorem dX5_margin_10 : decode cX5_margin 10 = .ok (.lconst 0, 1) := by decide +kernel
theorem dX5_margin_11 : decode cX5_margin 11 = .ok (.ldc2_w 100, 3) := by decide +kernel
theorem dX5_margin_14 : decode cX5_margin 14 = .ok (.invokestatic 77, 3) := by decide +kernel
theorem dX5_margin_17 : decode cX5_margin 17 = .ok (.ifCond .ne 5, 3) := by decide +kernel
theorem dX5_margin_20 : decode cX5_margin 20 = .ok (.iconst (-1), 1) := by decide +kernel
theorem dX5_margin_21 : decode cX5_margin 21 = .ok (.ireturn, 1) := by decide +kernel
theorem dX5_margin_22 : decode cX5_margin 22 = .ok (.aload_n 0, 1) := by decide +kernel
theorem dX5_margin_23 : decode cX5_margin 23 = .ok (.getfield 7, 3) := by decide +kernel
theorem dX5_margin_26 : decode cX5_margin 26 = .ok (.bipush 23, 2) := by decide +kernel
theorem dX5_margin_28 : decode cX5_margin 28 = .ok (.iload_n 1, 1) := by decide +kernel
theorem dX5_margin_29 : decode cX5_margin 29 = .ok (.iadd, 1) := by decide +kernel
theorem dX5_margin_30 : decode cX5_margin 30 = .ok (.iaload, 1) := by decide +kernel
theorem dX5_margin_31 : decode cX5_margin 31 = .ok (.istore_n 3, 1) := by decide +kernel
theorem dX5_margin_32 : decode cX5_margin 32 = .ok (.aload_n 0, 1) := by decide +kernel
theorem dX5_margin_33 : decode cX5_margin 33 = .ok (.getfield 7, 3) := by decide +kernel
theorem dX5_margin_36 : decode cX5_margin 36 = .ok (.bipush 23, 2) := by decide +kernel
theorem dX5_margin_38 : decode cX5_margin 38 = .ok (.iload_n 1, 1) := by decide +kernel
theorem dX5_margin_39 : decode cX5_margin 39 = .ok (.iadd, 1) := by decide +kernel
theorem dX5_margin_40 : decode cX5_margin 40 = .ok (.iload_n 2, 1) := by decide +kernel
theorem dX5_margin_41 : decode cX5_margin 41 = .ok (.iastore, 1) := by decide +kernel
theorem dX5_margin_42 : decode cX5_margin 42 = .ok (.iload_n 3, 1) := by decide +kernel
theorem dX5_margin_43 : decode cX5_margin 43 = .ok (.ireturn, 1) := by decide +kernel
theorem dX5_told_0 : decode cX5_told 0 = .ok (.aload_n 0, 1) := by decide +kernel
theorem dX5_told_1 : decode cX5_told 1 = .ok (.iload_n 1, 1) := by decide +kernel
theorem dX5_told_2 : decode cX5_told 2 = .ok (.invokevirtual 92, 3) := by decide +kernel
theorem dX5_told_5 : decode cX5_told 5 = .ok (.ifCond .eq 15, 3) := by decide +kernel
theorem dX5_told_8 : decode cX5_told 8 = .ok (.iload_n 2, 1) := by decide +kernel
theorem dX5_told_9 : decode cX5_told 9 = .ok (.i2l, 1) := by decide +kernel
theorem dX5_told_10 : decode cX5_told 10 = .ok (.lconst 0, 1) := by decide +kernel
theorem dX5_told_11 : decode cX5_told 11 = .ok (.ldc2_w 102, 3) := by decide +kernel
theorem dX5_told_14 : decode cX5_told 14 = .ok (.invokestatic 77, 3) := by decide +kernel
theorem dX5_told_17 : decode cX5_told 17 = .ok (.ifCond .ne 6, 3) := by decide +kernel
theorem dX5_told_20 : decode cX5_told 20 = .ok (.ldc 104, 2) := by decide +kernel
theorem dX5_told_22 : decode cX5_told 22 = .ok (.ireturn, 1) := by decide +kernel
theorem dX5_told_23 : decode cX5_told 23 = .ok (.iload_n 2, 1) := by decide +kernel
theorem dX5_told_24 : decode cX5_told 24 = .ok (.ifCond .ne 15, 3) := by decide +kernel
theorem dX5_told_27 : decode cX5_told 27 = .ok (.aload_n 0, 1) := by decide +kernel
theorem dX5_told_28 : decode cX5_told 28 = .ok (.getfield 7, 3) := by decide +kernel
theorem dX5_told_31 : decode cX5_told 31 = .ok (.bipush 13, 2) := by decide +kernel
theorem dX5_told_33 : decode cX5_told 33 = .ok (.iload_n 1, 1) := by decide +kernel
theorem dX5_told_34 : decode cX5_told 34 = .ok (.iadd, 1) := by decide +kernel
theorem dX5_told_35 : decode cX5_told 35 = .ok (.iaload, 1) := by decide +kernel
theorem dX5_told_36 : decode cX5_told 36 = .ok (.goto 53, 3) := by decide +kernel
theorem dX5_told_39 : decode cX5_told 39 = .ok (.iload_n 2, 1) := by decide +kernel
theorem dX5_told_40 : decode cX5_told 40 = .ok (.iconst 1, 1) := by decide +kernel
theorem dX5_told_41 : decode cX5_told 41 = .ok (.if_icmp .ne 15, 3) := by decide +kernel
theorem dX5_told_44 : decode cX5_told 44 = .ok (.aload_n 0, 1) := by decide +kernel
theorem dX5_told_45 : decode cX5_told 45 = .ok (.getfield 7, 3) := by decide +kernel
theorem dX5_told_48 : decode cX5_told 48 = .ok (.bipush 23, 2) := by decide +kernel
theorem dX5_told_50 : decode cX5_told 50 = .ok (.iload_n 1, 1) := by decide +kernel
theorem dX5_told_51 : decode cX5_told 51 = .ok (.iadd, 1) := by decide +kernel
theorem dX5_told_52 : decode cX5_told 52 = .ok (.iaload, 1) := by decide +kernel
theorem dX5_told_53 : decode cX5_told 53 = .ok (.goto 36, 3) := by decide +kernel
theorem dX5_told_56 : decode cX5_told 56 = .ok (.iload_n 2, 1) := by decide +kernel
theorem dX5_told_57 : decode cX5_told 57 = .ok (.bipush 6, 2) := by decide +kernel
theorem dX5_told_59 : decode cX5_told 59 = .ok (.if_icmp .ne 15, 3) := by decide +kernel
theorem dX5_told_62 : decode cX5_told 62 = .ok (.aload_n 0, 1) := by decide +kernel
theorem dX5_told_63 : decode cX5_told 63 = .ok (.getfield 7, 3) := by decide +kernel
theorem dX5_told_66 : decode cX5_told 66 = .ok (.bipush 18, 2) := by decide +kernel
theorem dX5_told_68 : decode cX5_told 68 = .ok (.iload_n 1, 1) := by decide +kernel
theorem dX5_told_69 : decode cX5_told 69 = .ok (.iadd, 1) := by decide +kernel
theorem dX5_told_70 : decode cX5_told 70 = .ok (.iaload, 1) := by decide +kernel
theorem dX5_told_71 : decode cX5_told 71 = .ok (.goto 18, 3) := by decide +kernel
theorem dX5_told_74 : decode cX5_told 74 = .ok (.aload_n 0, 1) := by decide +kernel
theorem dX5_told_75 : decode cX5_told 75 = .ok (.getfield 7, 3) := by decide +kernel
theorem dX5_told_78 : decode cX5_told 78 = .ok (.bipush 28, 2) := by decide +kernel
theorem dX5_told_80 : decode cX5_told 80 = .ok (.iconst 4, 1) := by decide +kernel
theorem dX5_told_81 : decode cX5_told 81 = .ok (.iload_n 1, 1) := by decide +kernel
theorem dX5_told_82 : decode cX5_told 82 = .ok (.imul, 1) := by decide +kernel
theorem dX5_told_83 : decode cX5_told 83 = .ok (.iadd, 1) := by decide +kernel
theorem dX5_told_84 : decode cX5_told 84 = .ok (.iload_n 2, 1) := by decide +kernel
theorem dX5_told_85 : decode cX5_told 85 = .ok (.iadd, 1) := by decide +kernel
theorem dX5_told_86 : decode cX5_told 86 = .ok (.iconst 2, 1) := by decide +kernel
theorem dX5_told_87 : decode cX5_told 87 = .ok (.isub, 1) := by decide +kernel
theorem dX5_told_88 : decode cX5_told 88 = .ok (.iaload, 1) := by decide +kernel
theorem dX5_told_89 : decode cX5_told 89 = .ok (.ireturn, 1) := by decide +kernel
theorem dX5_earn_0 : decode cX5_earn 0 = .ok (.aload_n 0, 1) := by decide +kernel
theorem dX5_earn_1 : decode cX5_earn 1 = .ok (.iload_n 1, 1) := by decide +kernel
theorem dX5_earn_2 : decode cX5_earn 2 = .ok (.invokevirtual 92, 3) := by decide +kernel
theorem dX5_earn_5 : decode cX5_earn 5 = .ok (.ifCond .eq 15, 3) := by decide +kernel
theorem dX5_earn_8 : decode cX5_earn 8 = .ok (.iload_n 2, 1) := by decide +kernel
theorem dX5_earn_9 : decode cX5_earn 9 = .ok (.i2l, 1) := by decide +kernel
theorem dX5_earn_10 : decode cX5_earn 10 = .ok (.lconst 1, 1) := by decide +kernel
theorem dX5_earn_11 : decode cX5_earn 11 = .ok (.ldc2_w 90, 3) := by decide +kernel
theorem dX5_earn_14 : decode cX5_earn 14 = .ok (.invokestatic 77, 3) := by decide +kernel
theorem dX5_earn_17 : decode cX5_earn 17 = .ok (.ifCond .ne 6, 3) := by decide +kernel
theorem dX5_earn_20 : decode cX5_earn 20 = .ok (.ldc 104, 2) := by decide +kernel
theorem dX5_earn_22 : decode cX5_earn 22 = .ok (.ireturn, 1) := by decide +kernel
theorem dX5_earn_23 : decode cX5_earn 23 = .ok (.aload_n 0, 1) := by decide +kernel
theorem dX5_earn_24 : decode cX5_earn 24 = .ok (.getfield 7, 3) := by decide +kernel
theorem dX5_earn_27 : decode cX5_earn 27 = .ok (.bipush 18, 2) := by decide +kernel
theorem dX5_earn_29 : decode cX5_earn 29 = .ok (.iload_n 1, 1) := by decide +kernel
theorem dX5_earn_30 : decode cX5_earn 30 = .ok (.iadd, 1) := by decide +kernel
theorem dX5_earn_31 : decode cX5_earn 31 = .ok (.iaload, 1) := by decide +kernel
theorem dX5_earn_32 : decode cX5_earn 32 = .ok (.iload_n 2, 1) := by decide +kernel
theorem dX5_earn_33 : decode cX5_earn 33 = .ok (.iadd, 1) := by decide +kernel
theorem dX5_earn_34 : decode cX5_earn 34 = .ok (.sipush 9999, 3) := by decide +kernel
theorem dX5_earn_37 : decode cX5_earn 37 = .ok (.if_icmp .le 6, 3) := by decide +kernel
theorem dX5_earn_40 : decode cX5_earn 40 = .ok (.ldc 105, 2) := by decide +kernel
theorem dX5_earn_42 : decode cX5_earn 42 = .ok (.ireturn, 1) := by decide +kernel
theorem dX5_earn_43 : decode cX5_earn 43 = .ok (.aload_n 0, 1) := by decide +kernel
theorem dX5_earn_44 : decode cX5_earn 44 = .ok (.getfield 7, 3) := by decide +kernel
theorem dX5_earn_47 : decode cX5_earn 47 = .ok (.bipush 18, 2) := by decide +kernel
theorem dX5_earn_49 : decode cX5_earn 49 = .ok (.iload_n 1, 1) := by decide +kernel
theorem dX5_earn_50 : decode cX5_earn 50 = .ok (.iadd, 1) := by decide +kernel
theorem dX5_earn_51 : decode cX5_earn 51 = .ok (.dup2, 1) := by decide +kernel
theorem dX5_earn_52 : decode cX5_earn 52 = .ok (.iaload, 1) := by decide +kernel
theorem dX5_earn_53 : decode cX5_earn 53 = .ok (.iload_n 2, 1) := by decide +kernel
theorem dX5_earn_54 : decode cX5_earn 54 = .ok (.iadd, 1) := by decide +kernel
theorem dX5_earn_55 : decode cX5_earn 55 = .ok (.iastore, 1) := by decide +kernel
theorem dX5_earn_56 : decode cX5_earn 56 = .ok (.aload_n 0, 1) := by decide +kernel
theorem dX5_earn_57 : decode cX5_earn 57 = .ok (.getfield 7, 3) := by decide +kernel
theorem dX5_earn_60 : decode cX5_earn 60 = .ok (.bipush 18, 2) := by decide +kernel
theorem dX5_earn_62 : decode cX5_earn 62 = .ok (.iload_n 1, 1) := by decide +kernel
theorem dX5_earn_63 : decode cX5_earn 63 = .ok (.iadd, 1) := by decide +kernel
theorem dX5_earn_64 : decode cX5_earn 64 = .ok (.iaload, 1) := by decide +kernel
theorem dX5_earn_65 : decode cX5_earn 65 = .ok (.ireturn, 1) := by decide +kernel
theorem dX5_type_0 : decode cX5_type 0 = .ok (.iload_n 3, 1) := by decide +kernel
theorem dX5_type_1 : decode cX5_type 1 = .ok (.i2l, 1) := by decide +kernel
theorem dX5_type_2 : decode cX5_type 2 = .ok (.lconst 1, 1) := by decide +kernel
theorem dX5_type_3 : decode cX5_type 3 = .ok (.ldc2_w 106, 3) := by decide +kernel
theorem dX5_type_6 : decode cX5_type 6 = .ok (.invokestatic 77, 3) := by decide +kernel
theorem dX5_type_9 : decode cX5_type 9 = .ok (.ifCond .ne 5, 3) := by decide +kernel
theorem dX5_type_12 : decode cX5_type 12 = .ok (.iconst (-1), 1) := by decide +kernel
theorem dX5_type_13 : decode cX5_type 13 = .ok (.ireturn, 1) := by decide +kernel
theorem dX5_type_14 : decode cX5_type 14 = .ok (.iconst 0, 1) := by decide +kernel
theorem dX5_type_15 : decode cX5_type 15 = .ok (.istore 4, 2) := by decide +kernel
theorem dX5_type_17 : decode cX5_type 17 = .ok (.iload 4, 2) := by decide +kernel
theorem dX5_type_19 : decode cX5_type 19 = .ok (.iload_n 3, 1) := by decide +kernel
theorem dX5_type_20 : decode cX5_type 20 = .ok (.if_icmp .ge 34, 3) := by decide +kernel
theorem dX5_type_23 : decode cX5_type 23 = .ok (.lload_n 1, 1) := by decide +kernel
theorem dX5_type_24 : decode cX5_type 24 = .ok (.bipush 8, 2) := by decide +kernel
theorem dX5_type_26 : decode cX5_type 26 = .ok (.iload 4, 2) := by decide +kernel
theorem dX5_type_28 : decode cX5_type 28 = .ok (.imul, 1) := by decide +kernel
theorem dX5_type_29 : decode cX5_type 29 = .ok (.lshr, 1) := by decide +kernel
theorem dX5_type_30 : decode cX5_type 30 = .ok (.ldc2_w 108, 3) := by decide +kernel
theorem dX5_type_33 : decode cX5_type 33 = .ok (.land, 1) := by decide +kernel
theorem dX5_type_34 : decode cX5_type 34 = .ok (.ldc2_w 110, 3) := by decide +kernel
theorem dX5_type_37 : decode cX5_type 37 = .ok (.ldc2_w 112, 3) := by decide +kernel
theorem dX5_type_40 : decode cX5_type 40 = .ok (.invokestatic 77, 3) := by decide +kernel
theorem dX5_type_43 : decode cX5_type 43 = .ok (.ifCond .ne 5, 3) := by decide +kernel
theorem dX5_type_46 : decode cX5_type 46 = .ok (.iconst (-1), 1) := by decide +kernel
theorem dX5_type_47 : decode cX5_type 47 = .ok (.ireturn, 1) := by decide +kernel
theorem dX5_type_48 : decode cX5_type 48 = .ok (.iinc 4 1, 3) := by decide +kernel
theorem dX5_type_51 : decode cX5_type 51 = .ok (.goto (-34), 3) := by decide +kernel
theorem dX5_type_54 : decode cX5_type 54 = .ok (.aload_n 0, 1) := by decide +kernel
theorem dX5_type_55 : decode cX5_type 55 = .ok (.getfield 114, 3) := by decide +kernel
theorem dX5_type_58 : decode cX5_type 58 = .ok (.iload_n 3, 1) := by decide +kernel
theorem dX5_type_59 : decode cX5_type 59 = .ok (.iadd, 1) := by decide +kernel
theorem dX5_type_60 : decode cX5_type 60 = .ok (.bipush 60, 2) := by decide +kernel
theorem dX5_type_62 : decode cX5_type 62 = .ok (.if_icmp .le 6, 3) := by decide +kernel
theorem dX5_type_65 : decode cX5_type 65 = .ok (.bipush (-3), 2) := by decide +kernel
theorem dX5_type_67 : decode cX5_type 67 = .ok (.ireturn, 1) := by decide +kernel
theorem dX5_type_68 : decode cX5_type 68 = .ok (.iload_n 3, 1) := by decide +kernel
theorem dX5_type_69 : decode cX5_type 69 = .ok (.iconst 1, 1) := by decide +kernel
theorem dX5_type_70 : decode cX5_type 70 = .ok (.isub, 1) := by decide +kernel
theorem dX5_type_71 : decode cX5_type 71 = .ok (.istore 4, 2) := by decide +kernel
theorem dX5_type_73 : decode cX5_type 73 = .ok (.iload 4, 2) := by decide +kernel
theorem dX5_type_75 : decode cX5_type 75 = .ok (.ifCond .lt 40, 3) := by decide +kernel
theorem dX5_type_78 : decode cX5_type 78 = .ok (.aload_n 0, 1) := by decide +kernel
theorem dX5_type_79 : decode cX5_type 79 = .ok (.getfield 13, 3) := by decide +kernel
theorem dX5_type_82 : decode cX5_type 82 = .ok (.aload_n 0, 1) := by decide +kernel
theorem dX5_type_83 : decode cX5_type 83 = .ok (.getfield 114, 3) := by decide +kernel
theorem dX5_type_86 : decode cX5_type 86 = .ok (.lload_n 1, 1) := by decide +kernel
theorem dX5_type_87 : decode cX5_type 87 = .ok (.bipush 8, 2) := by decide +kernel
theorem dX5_type_89 : decode cX5_type 89 = .ok (.iload 4, 2) := by decide +kernel
theorem dX5_type_91 : decode cX5_type 91 = .ok (.imul, 1) := by decide +kernel
theorem dX5_type_92 : decode cX5_type 92 = .ok (.lshr, 1) := by decide +kernel
theorem dX5_type_93 : decode cX5_type 93 = .ok (.ldc2_w 108, 3) := by decide +kernel
theorem dX5_type_96 : decode cX5_type 96 = .ok (.land, 1) := by decide +kernel
theorem dX5_type_97 : decode cX5_type 97 = .ok (.l2i, 1) := by decide +kernel
theorem dX5_type_98 : decode cX5_type 98 = .ok (.iastore, 1) := by decide +kernel
theorem dX5_type_99 : decode cX5_type 99 = .ok (.aload_n 0, 1) := by decide +kernel
theorem dX5_type_100 : decode cX5_type 100 = .ok (.dup, 1) := by decide +kernel
theorem dX5_type_101 : decode cX5_type 101 = .ok (.getfield 114, 3) := by decide +kernel
theorem dX5_type_104 : decode cX5_type 104 = .ok (.iconst 1, 1) := by decide +kernel
theorem dX5_type_105 : decode cX5_type 105 = .ok (.iadd, 1) := by decide +kernel
theorem dX5_type_106 : decode cX5_type 106 = .ok (.putfield 114, 3) := by decide +kernel
theorem dX5_type_109 : decode cX5_type 109 = .ok (.iinc 4 (-1), 3) := by decide +kernel
theorem dX5_type_112 : decode cX5_type 112 = .ok (.goto (-39), 3) := by decide +kernel
theorem dX5_type_115 : decode cX5_type 115 = .ok (.aload_n 0, 1) := by decide +kernel
theorem dX5_type_116 : decode cX5_type 116 = .ok (.getfield 114, 3) := by decide +kernel
theorem dX5_type_119 : decode cX5_type 119 = .ok (.ireturn, 1) := by decide +kernel
theorem dX5_ahead_0 : decode cX5_ahead 0 = .ok (.aload_n 0, 1) := by decide +kernel
theorem dX5_ahead_1 : decode cX5_ahead 1 = .ok (.getfield 118, 3) := by decide +kernel
theorem dX5_ahead_4 : decode cX5_ahead 4 = .ok (.aload_n 0, 1) := by decide +kernel
theorem dX5_ahead_5 : decode cX5_ahead 5 = .ok (.getfield 114, 3) := by decide +kernel
theorem dX5_ahead_8 : decode cX5_ahead 8 = .ok (.if_icmp .ge 30, 3) := by decide +kernel
theorem dX5_ahead_11 : decode cX5_ahead 11 = .ok (.aload_n 0, 1) := by decide +kernel
theorem dX5_ahead_12 : decode cX5_ahead 12 = .ok (.getfield 13, 3) := by decide +kernel
theorem dX5_ahead_15 : decode cX5_ahead 15 = .ok (.aload_n 0, 1) := by decide +kernel
theorem dX5_ahead_16 : decode cX5_ahead 16 = .ok (.getfield 118, 3) := by decide +kernel
theorem dX5_ahead_19 : decode cX5_ahead 19 = .ok (.iaload, 1) := by decide +kernel
theorem dX5_ahead_20 : decode cX5_ahead 20 = .ok (.bipush 32, 2) := by decide +kernel
theorem dX5_ahead_22 : decode cX5_ahead 22 = .ok (.if_icmp .ne 16, 3) := by decide +kernel
theorem dX5_ahead_25 : decode cX5_ahead 25 = .ok (.aload_n 0, 1) := by decide +kernel
theorem dX5_ahead_26 : decode cX5_ahead 26 = .ok (.dup, 1) := by decide +kernel
theorem dX5_ahead_27 : decode cX5_ahead 27 = .ok (.getfield 118, 3) := by decide +kernel
theorem dX5_ahead_30 : decode cX5_ahead 30 = .ok (.iconst 1, 1) := by decide +kernel
theorem dX5_ahead_31 : decode cX5_ahead 31 = .ok (.iadd, 1) := by decide +kernel
theorem dX5_ahead_32 : decode cX5_ahead 32 = .ok (.putfield 118, 3) := by decide +kernel
theorem dX5_ahead_35 : decode cX5_ahead 35 = .ok (.goto (-35), 3) := by decide +kernel
theorem dX5_ahead_38 : decode cX5_ahead 38 = .ok (.aload_n 0, 1) := by decide +kernel
theorem dX5_ahead_39 : decode cX5_ahead 39 = .ok (.getfield 118, 3) := by decide +kernel
theorem dX5_ahead_42 : decode cX5_ahead 42 = .ok (.aload_n 0, 1) := by decide +kernel
theorem dX5_ahead_43 : decode cX5_ahead 43 = .ok (.getfield 114, 3) := by decide +kernel
theorem dX5_ahead_46 : decode cX5_ahead 46 = .ok (.if_icmp .ge 15, 3) := by decide +kernel
theorem dX5_ahead_49 : decode cX5_ahead 49 = .ok (.aload_n 0, 1) := by decide +kernel
theorem dX5_ahead_50 : decode cX5_ahead 50 = .ok (.getfield 13, 3) := by decide +kernel
theorem dX5_ahead_53 : decode cX5_ahead 53 = .ok (.aload_n 0, 1) := by decide +kernel
theorem dX5_ahead_54 : decode cX5_ahead 54 = .ok (.getfield 118, 3) := by decide +kernel
theorem dX5_ahead_57 : decode cX5_ahead 57 = .ok (.iaload, 1) := by decide +kernel
theorem dX5_ahead_58 : decode cX5_ahead 58 = .ok (.goto 4, 3) := by decide +kernel
theorem dX5_ahead_61 : decode cX5_ahead 61 = .ok (.iconst (-1), 1) := by decide +kernel
theorem dX5_ahead_62 : decode cX5_ahead 62 = .ok (.ireturn, 1) := by decide +kernel
theorem dX5_ruleOf_0 : decode cX5_ruleOf 0 = .ok (.iload_n 0, 1) := by decide +kernel
theorem dX5_ruleOf_1 : decode cX5_ruleOf 1 = .ok (.bipush 115, 2) := by decide +kernel
theorem dX5_ruleOf_3 : decode cX5_ruleOf 3 = .ok (.if_icmp .ne 7, 3) := by decide +kernel
theorem dX5_ruleOf_6 : decode cX5_ruleOf 6 = .ok (.iconst 0, 1) := by decide +kernel
theorem dX5_ruleOf_7 : decode cX5_ruleOf 7 = .ok (.goto 44, 3) := by decide +kernel
theorem dX5_ruleOf_10 : decode cX5_ruleOf 10 = .ok (.iload_n 0, 1) := by decide +kernel
theorem dX5_ruleOf_11 : decode cX5_ruleOf 11 = .ok (.bipush 100, 2) := by decide +kernel
theorem dX5_ruleOf_13 : decode cX5_ruleOf 13 = .ok (.if_icmp .ne 7, 3) := by decide +kernel
theorem dX5_ruleOf_16 : decode cX5_ruleOf 16 = .ok (.iconst 1, 1) := by decide +kernel
theorem dX5_ruleOf_17 : decode cX5_ruleOf 17 = .ok (.goto 34, 3) := by decide +kernel
theorem dX5_ruleOf_20 : decode cX5_ruleOf 20 = .ok (.iload_n 0, 1) := by decide +kernel
theorem dX5_ruleOf_21 : decode cX5_ruleOf 21 = .ok (.bipush 102, 2) := by decide +kernel
theorem dX5_ruleOf_23 : decode cX5_ruleOf 23 = .ok (.if_icmp .ne 7, 3) := by decide +kernel
theorem dX5_ruleOf_26 : decode cX5_ruleOf 26 = .ok (.iconst 2, 1) := by decide +kernel
theorem dX5_ruleOf_27 : decode cX5_ruleOf 27 = .ok (.goto 24, 3) := by decide +kernel
theorem dX5_ruleOf_30 : decode cX5_ruleOf 30 = .ok (.iload_n 0, 1) := by decide +kernel
theorem dX5_ruleOf_31 : decode cX5_ruleOf 31 = .ok (.bipush 98, 2) := by decide +kernel
theorem dX5_ruleOf_33 : decode cX5_ruleOf 33 = .ok (.if_icmp .ne 7, 3) := by decide +kernel
theorem dX5_ruleOf_36 : decode cX5_ruleOf 36 = .ok (.iconst 3, 1) := by decide +kernel
theorem dX5_ruleOf_37 : decode cX5_ruleOf 37 = .ok (.goto 14, 3) := by decide +kernel
theorem dX5_ruleOf_40 : decode cX5_ruleOf 40 = .ok (.iload_n 0, 1) := by decide +kernel
theorem dX5_ruleOf_41 : decode cX5_ruleOf 41 = .ok (.bipush 99, 2) := by decide +kernel
theorem dX5_ruleOf_43 : decode cX5_ruleOf 43 = .ok (.if_icmp .ne 7, 3) := by decide +kernel
theorem dX5_ruleOf_46 : decode cX5_ruleOf 46 = .ok (.iconst 4, 1) := by decide +kernel
theorem dX5_ruleOf_47 : decode cX5_ruleOf 47 = .ok (.goto 4, 3) := by decide +kernel
theorem dX5_ruleOf_50 : decode cX5_ruleOf 50 = .ok (.iconst (-1), 1) := by decide +kernel
theorem dX5_ruleOf_51 : decode cX5_ruleOf 51 = .ok (.ireturn, 1) := by decide +kernel
theorem dX5_lawFault_0 : decode cX5_lawFault 0 = .ok (.iconst 0, 1) := by decide +kernel
theorem dX5_lawFault_1 : decode cX5_lawFault 1 = .ok (.istore_n 1, 1) := by decide +kernel
theorem dX5_lawFault_2 : decode cX5_lawFault 2 = .ok (.iload_n 1, 1) := by decide +kernel
theorem dX5_lawFault_3 : decode cX5_lawFault 3 = .ok (.iconst 5, 1) := by decide +kernel
theorem dX5_lawFault_4 : decode cX5_lawFault 4 = .ok (.if_icmp .ge 16, 3) := by decide +kernel
theorem dX5_lawFault_7 : decode cX5_lawFault 7 = .ok (.aload_n 0, 1) := by decide +kernel
theorem dX5_lawFault_8 : decode cX5_lawFault 8 = .ok (.getfield 16, 3) := by decide +kernel
theorem dX5_lawFault_11 : decode cX5_lawFault 11 = .ok (.iload_n 1, 1) := by decide +kernel
theorem dX5_lawFault_12 : decode cX5_lawFault 12 = .ok (.iconst (-1), 1) := by decide +kernel
theorem dX5_lawFault_13 : decode cX5_lawFault 13 = .ok (.iastore, 1) := by decide +kernel
theorem dX5_lawFault_14 : decode cX5_lawFault 14 = .ok (.iinc 1 1, 3) := by decide +kernel
theorem dX5_lawFault_17 : decode cX5_lawFault 17 = .ok (.goto (-15), 3) := by decide +kernel
theorem dX5_lawFault_20 : decode cX5_lawFault 20 = .ok (.aload_n 0, 1) := by decide +kernel
theorem dX5_lawFault_21 : decode cX5_lawFault 21 = .ok (.iconst 0, 1) := by decide +kernel
theorem dX5_lawFault_22 : decode cX5_lawFault 22 = .ok (.putfield 118, 3) := by decide +kernel
theorem dX5_lawFault_25 : decode cX5_lawFault 25 = .ok (.iconst 0, 1) := by decide +kernel
theorem dX5_lawFault_26 : decode cX5_lawFault 26 = .ok (.istore_n 1, 1) := by decide +kernel
theorem dX5_lawFault_27 : decode cX5_lawFault 27 = .ok (.iload_n 1, 1) := by decide +kernel
theorem dX5_lawFault_28 : decode cX5_lawFault 28 = .ok (.ifCond .eq 10, 3) := by decide +kernel
theorem dX5_lawFault_31 : decode cX5_lawFault 31 = .ok (.aload_n 0, 1) := by decide +kernel
theorem dX5_lawFault_32 : decode cX5_lawFault 32 = .ok (.invokevirtual 121, 3) := by decide +kernel
theorem dX5_lawFault_35 : decode cX5_lawFault 35 = .ok (.ifCond .lt 176, 3) := by decide +kernel
theorem dX5_lawFault_38 : decode cX5_lawFault 38 = .ok (.aload_n 0, 1) := by decide +kernel
theorem dX5_lawFault_39 : decode cX5_lawFault 39 = .ok (.invokevirtual 121, 3) := by decide +kernel
theorem dX5_lawFault_42 : decode cX5_lawFault 42 = .ok (.invokestatic 125, 3) := by decide +kernel
theorem dX5_lawFault_45 : decode cX5_lawFault 45 = .ok (.istore_n 2, 1) := by decide +kernel
theorem dX5_lawFault_46 : decode cX5_lawFault 46 = .ok (.iload_n 2, 1) := by decide +kernel
theorem dX5_lawFault_47 : decode cX5_lawFault 47 = .ok (.ifCond .lt 12, 3) := by decide +kernel
theorem dX5_lawFault_50 : decode cX5_lawFault 50 = .ok (.aload_n 0, 1) := by decide +kernel
theorem dX5_lawFault_51 : decode cX5_lawFault 51 = .ok (.getfield 16, 3) := by decide +kernel
theorem dX5_lawFault_54 : decode cX5_lawFault 54 = .ok (.iload_n 2, 1) := by decide +kernel
theorem dX5_lawFault_55 : decode cX5_lawFault 55 = .ok (.iaload, 1) := by decide +kernel
theorem dX5_lawFault_56 : decode cX5_lawFault 56 = .ok (.ifCond .lt 8, 3) := by decide +kernel
theorem dX5_lawFault_59 : decode cX5_lawFault 59 = .ok (.aload_n 0, 1) := by decide +kernel
theorem dX5_lawFault_60 : decode cX5_lawFault 60 = .ok (.getfield 118, 3) := by decide +kernel
theorem dX5_lawFault_63 : decode cX5_lawFault 63 = .ok (.ireturn, 1) := by decide +kernel
theorem dX5_lawFault_64 : decode cX5_lawFault 64 = .ok (.aload_n 0, 1) := by decide +kernel
theorem dX5_lawFault_65 : decode cX5_lawFault 65 = .ok (.dup, 1) := by decide +kernel
theorem dX5_lawFault_66 : decode cX5_lawFault 66 = .ok (.getfield 118, 3) := by decide +kernel
theorem dX5_lawFault_69 : decode cX5_lawFault 69 = .ok (.iconst 1, 1) := by decide +kernel
theorem dX5_lawFault_70 : decode cX5_lawFault 70 = .ok (.iadd, 1) := by decide +kernel
theorem dX5_lawFault_71 : decode cX5_lawFault 71 = .ok (.putfield 118, 3) := by decide +kernel
theorem dX5_lawFault_74 : decode cX5_lawFault 74 = .ok (.aload_n 0, 1) := by decide +kernel
theorem dX5_lawFault_75 : decode cX5_lawFault 75 = .ok (.invokevirtual 121, 3) := by decide +kernel
theorem dX5_lawFault_78 : decode cX5_lawFault 78 = .ok (.i2l, 1) := by decide +kernel
theorem dX5_lawFault_79 : decode cX5_lawFault 79 = .ok (.ldc2_w 128, 3) := by decide +kernel
theorem dX5_lawFault_82 : decode cX5_lawFault 82 = .ok (.ldc2_w 130, 3) := by decide +kernel
theorem dX5_lawFault_85 : decode cX5_lawFault 85 = .ok (.invokestatic 77, 3) := by decide +kernel
theorem dX5_lawFault_88 : decode cX5_lawFault 88 = .ok (.ifCond .ne 8, 3) := by decide +kernel
theorem dX5_lawFault_91 : decode cX5_lawFault 91 = .ok (.aload_n 0, 1) := by decide +kernel
theorem dX5_lawFault_92 : decode cX5_lawFault 92 = .ok (.getfield 118, 3) := by decide +kernel
theorem dX5_lawFault_95 : decode cX5_lawFault 95 = .ok (.ireturn, 1) := by decide +kernel
theorem dX5_lawFault_96 : decode cX5_lawFault 96 = .ok (.aload_n 0, 1) := by decide +kernel
theorem dX5_lawFault_97 : decode cX5_lawFault 97 = .ok (.getfield 118, 3) := by decide +kernel
theorem dX5_lawFault_100 : decode cX5_lawFault 100 = .ok (.istore_n 3, 1) := by decide +kernel
theorem dX5_lawFault_101 : decode cX5_lawFault 101 = .ok (.iconst 0, 1) := by decide +kernel
theorem dX5_lawFault_102 : decode cX5_lawFault 102 = .ok (.istore 4, 2) := by decide +kernel
theorem dX5_lawFault_104 : decode cX5_lawFault 104 = .ok (.aload_n 0, 1) := by decide +kernel
theorem dX5_lawFault_105 : decode cX5_lawFault 105 = .ok (.getfield 118, 3) := by decide +kernel
theorem dX5_lawFault_108 : decode cX5_lawFault 108 = .ok (.aload_n 0, 1) := by decide +kernel
theorem dX5_lawFault_109 : decode cX5_lawFault 109 = .ok (.getfield 114, 3) := by decide +kernel
theorem dX5_lawFault_112 : decode cX5_lawFault 112 = .ok (.if_icmp .ge 64, 3) := by decide +kernel
theorem dX5_lawFault_115 : decode cX5_lawFault 115 = .ok (.aload_n 0, 1) := by decide +kernel
theorem dX5_lawFault_116 : decode cX5_lawFault 116 = .ok (.getfield 13, 3) := by decide +kernel
theorem dX5_lawFault_119 : decode cX5_lawFault 119 = .ok (.aload_n 0, 1) := by decide +kernel
theorem dX5_lawFault_120 : decode cX5_lawFault 120 = .ok (.getfield 118, 3) := by decide +kernel
theorem dX5_lawFault_123 : decode cX5_lawFault 123 = .ok (.iaload, 1) := by decide +kernel
theorem dX5_lawFault_124 : decode cX5_lawFault 124 = .ok (.i2l, 1) := by decide +kernel
theorem dX5_lawFault_125 : decode cX5_lawFault 125 = .ok (.ldc2_w 128, 3) := by decide +kernel
theorem dX5_lawFault_128 : decode cX5_lawFault 128 = .ok (.ldc2_w 130, 3) := by decide +kernel
theorem dX5_lawFault_131 : decode cX5_lawFault 131 = .ok (.invokestatic 77, 3) := by decide +kernel
theorem dX5_lawFault_134 : decode cX5_lawFault 134 = .ok (.ifCond .eq 42, 3) := by decide +kernel
theorem dX5_lawFault_137 : decode cX5_lawFault 137 = .ok (.bipush 10, 2) := by decide +kernel
theorem dX5_lawFault_139 : decode cX5_lawFault 139 = .ok (.iload 4, 2) := by decide +kernel
theorem dX5_lawFault_141 : decode cX5_lawFault 141 = .ok (.imul, 1) := by decide +kernel
theorem dX5_lawFault_142 : decode cX5_lawFault 142 = .ok (.aload_n 0, 1) := by decide +kernel
theorem dX5_lawFault_143 : decode cX5_lawFault 143 = .ok (.getfield 13, 3) := by decide +kernel
theorem dX5_lawFault_146 : decode cX5_lawFault 146 = .ok (.aload_n 0, 1) := by decide +kernel
theorem dX5_lawFault_147 : decode cX5_lawFault 147 = .ok (.getfield 118, 3) := by decide +kernel
theorem dX5_lawFault_150 : decode cX5_lawFault 150 = .ok (.iaload, 1) := by decide +kernel
theorem dX5_lawFault_151 : decode cX5_lawFault 151 = .ok (.iadd, 1) := by decide +kernel
theorem dX5_lawFault_152 : decode cX5_lawFault 152 = .ok (.bipush 48, 2) := by decide +kernel
theorem dX5_lawFault_154 : decode cX5_lawFault 154 = .ok (.isub, 1) := by decide +kernel
theorem dX5_lawFault_155 : decode cX5_lawFault 155 = .ok (.sipush 1000, 3) := by decide +kernel
theorem dX5_lawFault_158 : decode cX5_lawFault 158 = .ok (.invokestatic 132, 3) := by decide +kernel
theorem dX5_lawFault_161 : decode cX5_lawFault 161 = .ok (.istore 4, 2) := by decide +kernel
theorem dX5_lawFault_163 : decode cX5_lawFault 163 = .ok (.aload_n 0, 1) := by decide +kernel
theorem dX5_lawFault_164 : decode cX5_lawFault 164 = .ok (.dup, 1) := by decide +kernel
theorem dX5_lawFault_165 : decode cX5_lawFault 165 = .ok (.getfield 118, 3) := by decide +kernel
theorem dX5_lawFault_168 : decode cX5_lawFault 168 = .ok (.iconst 1, 1) := by decide +kernel
theorem dX5_lawFault_169 : decode cX5_lawFault 169 = .ok (.iadd, 1) := by decide +kernel
theorem dX5_lawFault_170 : decode cX5_lawFault 170 = .ok (.putfield 118, 3) := by decide +kernel
theorem dX5_lawFault_173 : decode cX5_lawFault 173 = .ok (.goto (-69), 3) := by decide +kernel
theorem dX5_lawFault_176 : decode cX5_lawFault 176 = .ok (.iload 4, 2) := by decide +kernel
theorem dX5_lawFault_178 : decode cX5_lawFault 178 = .ok (.i2l, 1) := by decide +kernel
theorem dX5_lawFault_179 : decode cX5_lawFault 179 = .ok (.iload_n 2, 1) := by decide +kernel
theorem dX5_lawFault_180 : decode cX5_lawFault 180 = .ok (.invokestatic 83, 3) := by decide +kernel
theorem dX5_lawFault_183 : decode cX5_lawFault 183 = .ok (.i2l, 1) := by decide +kernel
theorem dX5_lawFault_184 : decode cX5_lawFault 184 = .ok (.iload_n 2, 1) := by decide +kernel
theorem dX5_lawFault_185 : decode cX5_lawFault 185 = .ok (.invokestatic 87, 3) := by decide +kernel
theorem dX5_lawFault_188 : decode cX5_lawFault 188 = .ok (.i2l, 1) := by decide +kernel
theorem dX5_lawFault_189 : decode cX5_lawFault 189 = .ok (.invokestatic 77, 3) := by decide +kernel
theorem dX5_lawFault_192 : decode cX5_lawFault 192 = .ok (.ifCond .ne 5, 3) := by decide +kernel
theorem dX5_lawFault_195 : decode cX5_lawFault 195 = .ok (.iload_n 3, 1) := by decide +kernel
theorem dX5_lawFault_196 : decode cX5_lawFault 196 = .ok (.ireturn, 1) := by decide +kernel
theorem dX5_lawFault_197 : decode cX5_lawFault 197 = .ok (.aload_n 0, 1) := by decide +kernel
theorem dX5_lawFault_198 : decode cX5_lawFault 198 = .ok (.getfield 16, 3) := by decide +kernel
theorem dX5_lawFault_201 : decode cX5_lawFault 201 = .ok (.iload_n 2, 1) := by decide +kernel
theorem dX5_lawFault_202 : decode cX5_lawFault 202 = .ok (.iload 4, 2) := by decide +kernel
theorem dX5_lawFault_204 : decode cX5_lawFault 204 = .ok (.iastore, 1) := by decide +kernel
theorem dX5_lawFault_205 : decode cX5_lawFault 205 = .ok (.iinc 1 1, 3) := by decide +kernel
theorem dX5_lawFault_208 : decode cX5_lawFault 208 = .ok (.goto (-181), 3) := by decide +kernel
theorem dX5_lawFault_211 : decode cX5_lawFault 211 = .ok (.iconst (-1), 1) := by decide +kernel
theorem dX5_lawFault_212 : decode cX5_lawFault 212 = .ok (.ireturn, 1) := by decide +kernel
theorem dX5_rules_0 : decode cX5_rules 0 = .ok (.aload_n 0, 1) := by decide +kernel
theorem dX5_rules_1 : decode cX5_rules 1 = .ok (.invokevirtual 136, 3) := by decide +kernel
theorem dX5_rules_4 : decode cX5_rules 4 = .ok (.istore_n 1, 1) := by decide +kernel
theorem dX5_rules_5 : decode cX5_rules 5 = .ok (.aload_n 0, 1) := by decide +kernel
theorem dX5_rules_6 : decode cX5_rules 6 = .ok (.iconst 0, 1) := by decide +kernel
theorem dX5_rules_7 : decode cX5_rules 7 = .ok (.putfield 114, 3) := by decide +kernel
theorem dX5_rules_10 : decode cX5_rules 10 = .ok (.iload_n 1, 1) := by decide +kernel
theorem dX5_rules_11 : decode cX5_rules 11 = .ok (.ifCond .lt 8, 3) := by decide +kernel
theorem dX5_rules_14 : decode cX5_rules 14 = .ok (.bipush (-20), 2) := by decide +kernel
theorem dX5_rules_16 : decode cX5_rules 16 = .ok (.iload_n 1, 1) := by decide +kernel
theorem dX5_rules_17 : decode cX5_rules 17 = .ok (.isub, 1) := by decide +kernel
theorem dX5_rules_18 : decode cX5_rules 18 = .ok (.ireturn, 1) := by decide +kernel
theorem dX5_rules_19 : decode cX5_rules 19 = .ok (.iconst 0, 1) := by decide +kernel
theorem dX5_rules_20 : decode cX5_rules 20 = .ok (.istore_n 2, 1) := by decide +kernel
theorem dX5_rules_21 : decode cX5_rules 21 = .ok (.iconst 0, 1) := by decide +kernel
theorem dX5_rules_22 : decode cX5_rules 22 = .ok (.istore_n 3, 1) := by decide +kernel
theorem dX5_rules_23 : decode cX5_rules 23 = .ok (.iload_n 3, 1) := by decide +kernel
theorem dX5_rules_24 : decode cX5_rules 24 = .ok (.iconst 5, 1) := by decide +kernel
theorem dX5_rules_25 : decode cX5_rules 25 = .ok (.if_icmp .ge 56, 3) := by decide +kernel
theorem dX5_rules_28 : decode cX5_rules 28 = .ok (.aload_n 0, 1) := by decide +kernel
theorem dX5_rules_29 : decode cX5_rules 29 = .ok (.getfield 7, 3) := by decide +kernel
theorem dX5_rules_32 : decode cX5_rules 32 = .ok (.iload_n 3, 1) := by decide +kernel
theorem dX5_rules_33 : decode cX5_rules 33 = .ok (.aload_n 0, 1) := by decide +kernel
theorem dX5_rules_34 : decode cX5_rules 34 = .ok (.getfield 16, 3) := by decide +kernel
theorem dX5_rules_37 : decode cX5_rules 37 = .ok (.iload_n 3, 1) := by decide +kernel
theorem dX5_rules_38 : decode cX5_rules 38 = .ok (.iaload, 1) := by decide +kernel
theorem dX5_rules_39 : decode cX5_rules 39 = .ok (.ifCond .lt 12, 3) := by decide +kernel
theorem dX5_rules_42 : decode cX5_rules 42 = .ok (.aload_n 0, 1) := by decide +kernel
theorem dX5_rules_43 : decode cX5_rules 43 = .ok (.getfield 16, 3) := by decide +kernel
theorem dX5_rules_46 : decode cX5_rules 46 = .ok (.iload_n 3, 1) := by decide +kernel
theorem dX5_rules_47 : decode cX5_rules 47 = .ok (.iaload, 1) := by decide +kernel
theorem dX5_rules_48 : decode cX5_rules 48 = .ok (.goto 9, 3) := by decide +kernel
theorem dX5_rules_51 : decode cX5_rules 51 = .ok (.aload_n 0, 1) := by decide +kernel
theorem dX5_rules_52 : decode cX5_rules 52 = .ok (.getfield 7, 3) := by decide +kernel
theorem dX5_rules_55 : decode cX5_rules 55 = .ok (.iload_n 3, 1) := by decide +kernel
theorem dX5_rules_56 : decode cX5_rules 56 = .ok (.iaload, 1) := by decide +kernel
theorem dX5_rules_57 : decode cX5_rules 57 = .ok (.iastore, 1) := by decide +kernel
theorem dX5_rules_58 : decode cX5_rules 58 = .ok (.iload_n 2, 1) := by decide +kernel
theorem dX5_rules_59 : decode cX5_rules 59 = .ok (.aload_n 0, 1) := by decide +kernel
theorem dX5_rules_60 : decode cX5_rules 60 = .ok (.getfield 16, 3) := by decide +kernel
theorem dX5_rules_63 : decode cX5_rules 63 = .ok (.iload_n 3, 1) := by decide +kernel
theorem dX5_rules_64 : decode cX5_rules 64 = .ok (.iaload, 1) := by decide +kernel
theorem dX5_rules_65 : decode cX5_rules 65 = .ok (.ifCond .lt 7, 3) := by decide +kernel
theorem dX5_rules_68 : decode cX5_rules 68 = .ok (.iconst 1, 1) := by decide +kernel
theorem dX5_rules_69 : decode cX5_rules 69 = .ok (.goto 4, 3) := by decide +kernel
theorem dX5_rules_72 : decode cX5_rules 72 = .ok (.iconst 0, 1) := by decide +kernel
theorem dX5_rules_73 : decode cX5_rules 73 = .ok (.iadd, 1) := by decide +kernel
theorem dX5_rules_74 : decode cX5_rules 74 = .ok (.istore_n 2, 1) := by decide +kernel
theorem dX5_rules_75 : decode cX5_rules 75 = .ok (.iinc 3 1, 3) := by decide +kernel
theorem dX5_rules_78 : decode cX5_rules 78 = .ok (.goto (-55), 3) := by decide +kernel
theorem dX5_rules_81 : decode cX5_rules 81 = .ok (.iload_n 2, 1) := by decide +kernel

theorem dX2_init_0 : decode cX2_init 0 = .ok (.aload_n 0, 1) := by decide +kernel
theorem dX2_init_1 : decode cX2_init 1 = .ok (.invokespecial 3, 3) := by decide +kernel
theorem dX2_init_4 : decode cX2_init 4 = .ok (.aload_n 0, 1) := by decide +kernel
theorem dX2_init_5 : decode cX2_init 5 = .ok (.iconst 5, 1) := by decide +kernel
theorem dX2_init_6 : decode cX2_init 6 = .ok (.newarray .int, 2) := by decide +kernel
theorem dX2_init_8 : decode cX2_init 8 = .ok (.putfield 9, 3) := by decide +kernel
theorem dX2_init_11 : decode cX2_init 11 = .ok (.aload_n 0, 1) := by decide +kernel
theorem dX2_init_12 : decode cX2_init 12 = .ok (.iconst 5, 1) := by decide +kernel
theorem dX2_init_13 : decode cX2_init 13 = .ok (.newarray .int, 2) := by decide +kernel
theorem dX2_init_15 : decode cX2_init 15 = .ok (.putfield 15, 3) := by decide +kernel
theorem dX2_init_18 : decode cX2_init 18 = .ok (.aload_n 0, 1) := by decide +kernel
theorem dX2_init_19 : decode cX2_init 19 = .ok (.iconst 5, 1) := by decide +kernel
theorem dX2_init_20 : decode cX2_init 20 = .ok (.newarray .int, 2) := by decide +kernel
theorem dX2_init_22 : decode cX2_init 22 = .ok (.putfield 18, 3) := by decide +kernel
theorem dX2_init_25 : decode cX2_init 25 = .ok (.aload_n 0, 1) := by decide +kernel
theorem dX2_init_26 : decode cX2_init 26 = .ok (.iconst 5, 1) := by decide +kernel
theorem dX2_init_27 : decode cX2_init 27 = .ok (.newarray .int, 2) := by decide +kernel
theorem dX2_init_29 : decode cX2_init 29 = .ok (.putfield 21, 3) := by decide +kernel
theorem dX2_init_32 : decode cX2_init 32 = .ok (.aload_n 0, 1) := by decide +kernel
theorem dX2_init_33 : decode cX2_init 33 = .ok (.iconst 5, 1) := by decide +kernel
theorem dX2_init_34 : decode cX2_init 34 = .ok (.newarray .int, 2) := by decide +kernel
theorem dX2_init_36 : decode cX2_init 36 = .ok (.putfield 24, 3) := by decide +kernel
theorem dX2_init_39 : decode cX2_init 39 = .ok (.aload_n 0, 1) := by decide +kernel
theorem dX2_init_40 : decode cX2_init 40 = .ok (.iconst 5, 1) := by decide +kernel
theorem dX2_init_41 : decode cX2_init 41 = .ok (.newarray .int, 2) := by decide +kernel
theorem dX2_init_43 : decode cX2_init 43 = .ok (.putfield 27, 3) := by decide +kernel
theorem dX2_init_46 : decode cX2_init 46 = .ok (.aload_n 0, 1) := by decide +kernel
theorem dX2_init_47 : decode cX2_init 47 = .ok (.iconst 0, 1) := by decide +kernel
theorem dX2_init_48 : decode cX2_init 48 = .ok (.putfield 30, 3) := by decide +kernel
theorem dX2_init_51 : decode cX2_init 51 = .ok (.aload_n 0, 1) := by decide +kernel
theorem dX2_init_52 : decode cX2_init 52 = .ok (.iconst 0, 1) := by decide +kernel
theorem dX2_init_53 : decode cX2_init 53 = .ok (.putfield 34, 3) := by decide +kernel
theorem dX2_init_56 : decode cX2_init 56 = .ok (.aload_n 0, 1) := by decide +kernel
theorem dX2_init_57 : decode cX2_init 57 = .ok (.bipush 6, 2) := by decide +kernel
theorem dX2_init_59 : decode cX2_init 59 = .ok (.newarray .int, 2) := by decide +kernel
theorem dX2_init_61 : decode cX2_init 61 = .ok (.putfield 37, 3) := by decide +kernel
theorem dX2_init_64 : decode cX2_init 64 = .ok (.aload_n 0, 1) := by decide +kernel
theorem dX2_init_65 : decode cX2_init 65 = .ok (.bipush 6, 2) := by decide +kernel
theorem dX2_init_67 : decode cX2_init 67 = .ok (.newarray .int, 2) := by decide +kernel
theorem dX2_init_69 : decode cX2_init 69 = .ok (.putfield 40, 3) := by decide +kernel
theorem dX2_init_72 : decode cX2_init 72 = .ok (.aload_n 0, 1) := by decide +kernel
theorem dX2_init_73 : decode cX2_init 73 = .ok (.bipush 6, 2) := by decide +kernel
theorem dX2_init_75 : decode cX2_init 75 = .ok (.newarray .int, 2) := by decide +kernel
theorem dX2_init_77 : decode cX2_init 77 = .ok (.putfield 43, 3) := by decide +kernel
theorem dX2_init_80 : decode cX2_init 80 = .ok (.aload_n 0, 1) := by decide +kernel
theorem dX2_init_81 : decode cX2_init 81 = .ok (.bipush 6, 2) := by decide +kernel
theorem dX2_init_83 : decode cX2_init 83 = .ok (.newarray .int, 2) := by decide +kernel
theorem dX2_init_85 : decode cX2_init 85 = .ok (.putfield 46, 3) := by decide +kernel
theorem dX2_init_88 : decode cX2_init 88 = .ok (.return_, 1) := by decide +kernel
theorem dX2_takeMargins_0 : decode cX2_takeMargins 0 = .ok (.aload_n 1, 1) := by decide +kernel
theorem dX2_takeMargins_1 : decode cX2_takeMargins 1 = .ok (.getfield 49, 3) := by decide +kernel
theorem dX2_takeMargins_4 : decode cX2_takeMargins 4 = .ok (.iconst 0, 1) := by decide +kernel
theorem dX2_takeMargins_5 : decode cX2_takeMargins 5 = .ok (.aload_n 0, 1) := by decide +kernel
theorem dX2_takeMargins_6 : decode cX2_takeMargins 6 = .ok (.getfield 9, 3) := by decide +kernel
theorem dX2_takeMargins_9 : decode cX2_takeMargins 9 = .ok (.iconst 0, 1) := by decide +kernel
theorem dX2_takeMargins_10 : decode cX2_takeMargins 10 = .ok (.iconst 5, 1) := by decide +kernel
theorem dX2_takeMargins_11 : decode cX2_takeMargins 11 = .ok (.invokestatic 52, 3) := by decide +kernel
theorem dX2_takeMargins_14 : decode cX2_takeMargins 14 = .ok (.return_, 1) := by decide +kernel
theorem dX2_begin_0 : decode cX2_begin 0 = .ok (.aload_n 1, 1) := by decide +kernel
theorem dX2_begin_1 : decode cX2_begin 1 = .ok (.getfield 58, 3) := by decide +kernel
theorem dX2_begin_4 : decode cX2_begin 4 = .ok (.iconst 0, 1) := by decide +kernel
theorem dX2_begin_5 : decode cX2_begin 5 = .ok (.aload_n 0, 1) := by decide +kernel
theorem dX2_begin_6 : decode cX2_begin 6 = .ok (.getfield 15, 3) := by decide +kernel
theorem dX2_begin_9 : decode cX2_begin 9 = .ok (.iconst 0, 1) := by decide +kernel
theorem dX2_begin_10 : decode cX2_begin 10 = .ok (.iconst 5, 1) := by decide +kernel
theorem dX2_begin_11 : decode cX2_begin 11 = .ok (.invokestatic 52, 3) := by decide +kernel
theorem dX2_begin_14 : decode cX2_begin 14 = .ok (.aload_n 0, 1) := by decide +kernel
theorem dX2_begin_15 : decode cX2_begin 15 = .ok (.getfield 18, 3) := by decide +kernel
theorem dX2_begin_18 : decode cX2_begin 18 = .ok (.iconst 0, 1) := by decide +kernel
theorem dX2_begin_19 : decode cX2_begin 19 = .ok (.invokestatic 59, 3) := by decide +kernel
theorem dX2_begin_22 : decode cX2_begin 22 = .ok (.aload_n 0, 1) := by decide +kernel
theorem dX2_begin_23 : decode cX2_begin 23 = .ok (.getfield 21, 3) := by decide +kernel
theorem dX2_begin_26 : decode cX2_begin 26 = .ok (.iconst 0, 1) := by decide +kernel
theorem dX2_begin_27 : decode cX2_begin 27 = .ok (.invokestatic 59, 3) := by decide +kernel
theorem dX2_begin_30 : decode cX2_begin 30 = .ok (.return_, 1) := by decide +kernel
theorem dX2_fallAsTold_0 : decode cX2_fallAsTold 0 = .ok (.aload_n 0, 1) := by decide +kernel
theorem dX2_fallAsTold_1 : decode cX2_fallAsTold 1 = .ok (.aload_n 1, 1) := by decide +kernel
theorem dX2_fallAsTold_2 : decode cX2_fallAsTold 2 = .ok (.invokevirtual 65, 3) := by decide +kernel
theorem dX2_fallAsTold_5 : decode cX2_fallAsTold 5 = .ok (.aload_n 0, 1) := by decide +kernel
theorem dX2_fallAsTold_6 : decode cX2_fallAsTold 6 = .ok (.aload_n 1, 1) := by decide +kernel
theorem dX2_fallAsTold_7 : decode cX2_fallAsTold 7 = .ok (.iconst 0, 1) := by decide +kernel
theorem dX2_fallAsTold_8 : decode cX2_fallAsTold 8 = .ok (.invokevirtual 69, 3) := by decide +kernel
theorem dX2_fallAsTold_11 : decode cX2_fallAsTold 11 = .ok (.return_, 1) := by decide +kernel
theorem dX2_fall_0 : decode cX2_fall 0 = .ok (.aload_n 0, 1) := by decide +kernel
theorem dX2_fall_1 : decode cX2_fall 1 = .ok (.aload_n 1, 1) := by decide +kernel
theorem dX2_fall_2 : decode cX2_fall 2 = .ok (.invokevirtual 73, 3) := by decide +kernel
theorem dX2_fall_5 : decode cX2_fall 5 = .ok (.iconst 0, 1) := by decide +kernel
theorem dX2_fall_6 : decode cX2_fall 6 = .ok (.istore_n 3, 1) := by decide +kernel
theorem dX2_fall_7 : decode cX2_fall 7 = .ok (.iload_n 3, 1) := by decide +kernel
theorem dX2_fall_8 : decode cX2_fall 8 = .ok (.bipush 6, 2) := by decide +kernel
theorem dX2_fall_10 : decode cX2_fall 10 = .ok (.if_icmp .ge 31, 3) := by decide +kernel
theorem dX2_fall_13 : decode cX2_fall 13 = .ok (.iload_n 3, 1) := by decide +kernel
theorem dX2_fall_14 : decode cX2_fall 14 = .ok (.aload_n 1, 1) := by decide +kernel
theorem dX2_fall_15 : decode cX2_fall 15 = .ok (.getfield 76, 3) := by decide +kernel
theorem dX2_fall_18 : decode cX2_fall 18 = .ok (.if_icmp .ge 23, 3) := by decide +kernel
theorem dX2_fall_21 : decode cX2_fall 21 = .ok (.aload_n 0, 1) := by decide +kernel
theorem dX2_fall_22 : decode cX2_fall 22 = .ok (.aload_n 1, 1) := by decide +kernel
theorem dX2_fall_23 : decode cX2_fall 23 = .ok (.iload_n 3, 1) := by decide +kernel
theorem dX2_fall_24 : decode cX2_fall 24 = .ok (.iload_n 2, 1) := by decide +kernel
theorem dX2_fall_25 : decode cX2_fall 25 = .ok (.invokevirtual 79, 3) := by decide +kernel
theorem dX2_fall_28 : decode cX2_fall 28 = .ok (.aload_n 0, 1) := by decide +kernel
theorem dX2_fall_29 : decode cX2_fall 29 = .ok (.aload_n 1, 1) := by decide +kernel
theorem dX2_fall_30 : decode cX2_fall 30 = .ok (.iload_n 3, 1) := by decide +kernel
theorem dX2_fall_31 : decode cX2_fall 31 = .ok (.invokevirtual 83, 3) := by decide +kernel
theorem dX2_fall_34 : decode cX2_fall 34 = .ok (.pop, 1) := by decide +kernel
theorem dX2_fall_35 : decode cX2_fall 35 = .ok (.iinc 3 1, 3) := by decide +kernel
theorem dX2_fall_38 : decode cX2_fall 38 = .ok (.goto (-31), 3) := by decide +kernel
theorem dX2_fall_41 : decode cX2_fall 41 = .ok (.return_, 1) := by decide +kernel
theorem dX2_tillBy_0 : decode cX2_tillBy 0 = .ok (.aload_n 0, 1) := by decide +kernel
theorem dX2_tillBy_1 : decode cX2_tillBy 1 = .ok (.aload_n 1, 1) := by decide +kernel
theorem dX2_tillBy_2 : decode cX2_tillBy 2 = .ok (.invokevirtual 73, 3) := by decide +kernel
theorem dX2_tillBy_5 : decode cX2_tillBy 5 = .ok (.iconst 0, 1) := by decide +kernel
theorem dX2_tillBy_6 : decode cX2_tillBy 6 = .ok (.istore_n 3, 1) := by decide +kernel
theorem dX2_tillBy_7 : decode cX2_tillBy 7 = .ok (.iconst 0, 1) := by decide +kernel
theorem dX2_tillBy_8 : decode cX2_tillBy 8 = .ok (.istore 4, 2) := by decide +kernel
theorem dX2_tillBy_10 : decode cX2_tillBy 10 = .ok (.iload 4, 2) := by decide +kernel
theorem dX2_tillBy_12 : decode cX2_tillBy 12 = .ok (.bipush 6, 2) := by decide +kernel
theorem dX2_tillBy_14 : decode cX2_tillBy 14 = .ok (.if_icmp .ge 66, 3) := by decide +kernel
theorem dX2_tillBy_17 : decode cX2_tillBy 17 = .ok (.iload 4, 2) := by decide +kernel
theorem dX2_tillBy_19 : decode cX2_tillBy 19 = .ok (.aload_n 1, 1) := by decide +kernel
theorem dX2_tillBy_20 : decode cX2_tillBy 20 = .ok (.getfield 76, 3) := by decide +kernel
theorem dX2_tillBy_23 : decode cX2_tillBy 23 = .ok (.if_icmp .ge 57, 3) := by decide +kernel
theorem dX2_tillBy_26 : decode cX2_tillBy 26 = .ok (.iload_n 2, 1) := by decide +kernel
theorem dX2_tillBy_27 : decode cX2_tillBy 27 = .ok (.iconst 1, 1) := by decide +kernel
theorem dX2_tillBy_28 : decode cX2_tillBy 28 = .ok (.if_icmp .ne 13, 3) := by decide +kernel
theorem dX2_tillBy_31 : decode cX2_tillBy 31 = .ok (.aload_n 0, 1) := by decide +kernel
theorem dX2_tillBy_32 : decode cX2_tillBy 32 = .ok (.aload_n 1, 1) := by decide +kernel
theorem dX2_tillBy_33 : decode cX2_tillBy 33 = .ok (.iload 4, 2) := by decide +kernel
theorem dX2_tillBy_35 : decode cX2_tillBy 35 = .ok (.invokevirtual 87, 3) := by decide +kernel
theorem dX2_tillBy_38 : decode cX2_tillBy 38 = .ok (.goto 26, 3) := by decide +kernel
theorem dX2_tillBy_41 : decode cX2_tillBy 41 = .ok (.iload_n 2, 1) := by decide +kernel
theorem dX2_tillBy_42 : decode cX2_tillBy 42 = .ok (.iconst 2, 1) := by decide +kernel
theorem dX2_tillBy_43 : decode cX2_tillBy 43 = .ok (.if_icmp .ne 13, 3) := by decide +kernel
theorem dX2_tillBy_46 : decode cX2_tillBy 46 = .ok (.aload_n 0, 1) := by decide +kernel
theorem dX2_tillBy_47 : decode cX2_tillBy 47 = .ok (.aload_n 1, 1) := by decide +kernel
theorem dX2_tillBy_48 : decode cX2_tillBy 48 = .ok (.iload 4, 2) := by decide +kernel
theorem dX2_tillBy_50 : decode cX2_tillBy 50 = .ok (.invokevirtual 90, 3) := by decide +kernel
theorem dX2_tillBy_53 : decode cX2_tillBy 53 = .ok (.goto 11, 3) := by decide +kernel
theorem dX2_tillBy_56 : decode cX2_tillBy 56 = .ok (.aload_n 0, 1) := by decide +kernel
theorem dX2_tillBy_57 : decode cX2_tillBy 57 = .ok (.aload_n 1, 1) := by decide +kernel
theorem dX2_tillBy_58 : decode cX2_tillBy 58 = .ok (.iload 4, 2) := by decide +kernel
theorem dX2_tillBy_60 : decode cX2_tillBy 60 = .ok (.iconst 0, 1) := by decide +kernel
theorem dX2_tillBy_61 : decode cX2_tillBy 61 = .ok (.invokevirtual 79, 3) := by decide +kernel
theorem dX2_tillBy_64 : decode cX2_tillBy 64 = .ok (.iload_n 3, 1) := by decide +kernel
theorem dX2_tillBy_65 : decode cX2_tillBy 65 = .ok (.aload_n 0, 1) := by decide +kernel
theorem dX2_tillBy_66 : decode cX2_tillBy 66 = .ok (.aload_n 1, 1) := by decide +kernel
theorem dX2_tillBy_67 : decode cX2_tillBy 67 = .ok (.iload 4, 2) := by decide +kernel
theorem dX2_tillBy_69 : decode cX2_tillBy 69 = .ok (.invokevirtual 83, 3) := by decide +kernel
theorem dX2_tillBy_72 : decode cX2_tillBy 72 = .ok (.iadd, 1) := by decide +kernel
theorem dX2_tillBy_73 : decode cX2_tillBy 73 = .ok (.istore_n 3, 1) := by decide +kernel
theorem dX2_tillBy_74 : decode cX2_tillBy 74 = .ok (.iinc 4 1, 3) := by decide +kernel
theorem dX2_tillBy_77 : decode cX2_tillBy 77 = .ok (.goto (-67), 3) := by decide +kernel
theorem dX2_tillBy_80 : decode cX2_tillBy 80 = .ok (.iload_n 3, 1) := by decide +kernel
theorem dX2_tillBy_81 : decode cX2_tillBy 81 = .ok (.ireturn, 1) := by decide +kernel
theorem dX2_gainOf_0 : decode cX2_gainOf 0 = .ok (.iconst 0, 1) := by decide +kernel
theorem dX2_gainOf_1 : decode cX2_gainOf 1 = .ok (.istore_n 2, 1) := by decide +kernel
theorem dX2_gainOf_2 : decode cX2_gainOf 2 = .ok (.iconst 0, 1) := by decide +kernel
theorem dX2_gainOf_3 : decode cX2_gainOf 3 = .ok (.istore_n 3, 1) := by decide +kernel
theorem dX2_gainOf_4 : decode cX2_gainOf 4 = .ok (.iload_n 3, 1) := by decide +kernel
theorem dX2_gainOf_5 : decode cX2_gainOf 5 = .ok (.iconst 5, 1) := by decide +kernel
theorem dX2_gainOf_6 : decode cX2_gainOf 6 = .ok (.if_icmp .ge 30, 3) := by decide +kernel
theorem dX2_gainOf_9 : decode cX2_gainOf 9 = .ok (.iload_n 2, 1) := by decide +kernel
theorem dX2_gainOf_10 : decode cX2_gainOf 10 = .ok (.iload_n 1, 1) := by decide +kernel
theorem dX2_gainOf_11 : decode cX2_gainOf 11 = .ok (.iload_n 3, 1) := by decide +kernel
theorem dX2_gainOf_12 : decode cX2_gainOf 12 = .ok (.invokestatic 93, 3) := by decide +kernel
theorem dX2_gainOf_15 : decode cX2_gainOf 15 = .ok (.ifCond .eq 12, 3) := by decide +kernel
theorem dX2_gainOf_18 : decode cX2_gainOf 18 = .ok (.aload_n 0, 1) := by decide +kernel
theorem dX2_gainOf_19 : decode cX2_gainOf 19 = .ok (.getfield 21, 3) := by decide +kernel
theorem dX2_gainOf_22 : decode cX2_gainOf 22 = .ok (.iload_n 3, 1) := by decide +kernel
theorem dX2_gainOf_23 : decode cX2_gainOf 23 = .ok (.iaload, 1) := by decide +kernel
theorem dX2_gainOf_24 : decode cX2_gainOf 24 = .ok (.goto 4, 3) := by decide +kernel
theorem dX2_gainOf_27 : decode cX2_gainOf 27 = .ok (.iconst 0, 1) := by decide +kernel
theorem dX2_gainOf_28 : decode cX2_gainOf 28 = .ok (.iadd, 1) := by decide +kernel
theorem dX2_gainOf_29 : decode cX2_gainOf 29 = .ok (.istore_n 2, 1) := by decide +kernel
theorem dX2_gainOf_30 : decode cX2_gainOf 30 = .ok (.iinc 3 1, 3) := by decide +kernel
theorem dX2_gainOf_33 : decode cX2_gainOf 33 = .ok (.goto (-29), 3) := by decide +kernel
theorem dX2_gainOf_36 : decode cX2_gainOf 36 = .ok (.iload_n 2, 1) := by decide +kernel
theorem dX2_gainOf_37 : decode cX2_gainOf 37 = .ok (.ireturn, 1) := by decide +kernel
theorem dX2_fallLot_0 : decode cX2_fallLot 0 = .ok (.iload_n 2, 1) := by decide +kernel
theorem dX2_fallLot_1 : decode cX2_fallLot 1 = .ok (.ifCond .lt 9, 3) := by decide +kernel
theorem dX2_fallLot_4 : decode cX2_fallLot 4 = .ok (.iload_n 2, 1) := by decide +kernel
theorem dX2_fallLot_5 : decode cX2_fallLot 5 = .ok (.bipush 6, 2) := by decide +kernel
theorem dX2_fallLot_7 : decode cX2_fallLot 7 = .ok (.if_icmp .lt 4, 3) := by decide +kernel
theorem dX2_fallLot_10 : decode cX2_fallLot 10 = .ok (.return_, 1) := by decide +kernel
theorem dX2_fallLot_11 : decode cX2_fallLot 11 = .ok (.aload_n 0, 1) := by decide +kernel
theorem dX2_fallLot_12 : decode cX2_fallLot 12 = .ok (.aload_n 1, 1) := by decide +kernel
theorem dX2_fallLot_13 : decode cX2_fallLot 13 = .ok (.aload_n 1, 1) := by decide +kernel
theorem dX2_fallLot_14 : decode cX2_fallLot 14 = .ok (.getfield 97, 3) := by decide +kernel
theorem dX2_fallLot_17 : decode cX2_fallLot 17 = .ok (.iload_n 2, 1) := by decide +kernel
theorem dX2_fallLot_18 : decode cX2_fallLot 18 = .ok (.iaload, 1) := by decide +kernel
theorem dX2_fallLot_19 : decode cX2_fallLot 19 = .ok (.invokevirtual 100, 3) := by decide +kernel
theorem dX2_fallLot_22 : decode cX2_fallLot 22 = .ok (.aload_n 0, 1) := by decide +kernel
theorem dX2_fallLot_23 : decode cX2_fallLot 23 = .ok (.dup, 1) := by decide +kernel
theorem dX2_fallLot_24 : decode cX2_fallLot 24 = .ok (.getfield 30, 3) := by decide +kernel
theorem dX2_fallLot_27 : decode cX2_fallLot 27 = .ok (.aload_n 0, 1) := by decide +kernel
theorem dX2_fallLot_28 : decode cX2_fallLot 28 = .ok (.aload_n 1, 1) := by decide +kernel
theorem dX2_fallLot_29 : decode cX2_fallLot 29 = .ok (.aload_n 1, 1) := by decide +kernel
theorem dX2_fallLot_30 : decode cX2_fallLot 30 = .ok (.getfield 97, 3) := by decide +kernel
theorem dX2_fallLot_33 : decode cX2_fallLot 33 = .ok (.iload_n 2, 1) := by decide +kernel
theorem dX2_fallLot_34 : decode cX2_fallLot 34 = .ok (.iaload, 1) := by decide +kernel
theorem dX2_fallLot_35 : decode cX2_fallLot 35 = .ok (.iload_n 3, 1) := by decide +kernel
theorem dX2_fallLot_36 : decode cX2_fallLot 36 = .ok (.invokevirtual 103, 3) := by decide +kernel
theorem dX2_fallLot_39 : decode cX2_fallLot 39 = .ok (.iconst (-1), 1) := by decide +kernel
theorem dX2_fallLot_40 : decode cX2_fallLot 40 = .ok (.ixor, 1) := by decide +kernel
theorem dX2_fallLot_41 : decode cX2_fallLot 41 = .ok (.iand, 1) := by decide +kernel
theorem dX2_fallLot_42 : decode cX2_fallLot 42 = .ok (.putfield 30, 3) := by decide +kernel
theorem dX2_fallLot_45 : decode cX2_fallLot 45 = .ok (.aload_n 1, 1) := by decide +kernel
theorem dX2_fallLot_46 : decode cX2_fallLot 46 = .ok (.getfield 107, 3) := by decide +kernel
theorem dX2_fallLot_49 : decode cX2_fallLot 49 = .ok (.iconst 0, 1) := by decide +kernel
theorem dX2_fallLot_50 : decode cX2_fallLot 50 = .ok (.iaload, 1) := by decide +kernel
theorem dX2_fallLot_51 : decode cX2_fallLot 51 = .ok (.istore 4, 2) := by decide +kernel
theorem dX2_fallLot_53 : decode cX2_fallLot 53 = .ok (.aload_n 1, 1) := by decide +kernel
theorem dX2_fallLot_54 : decode cX2_fallLot 54 = .ok (.getfield 107, 3) := by decide +kernel
theorem dX2_fallLot_57 : decode cX2_fallLot 57 = .ok (.iconst 2, 1) := by decide +kernel
theorem dX2_fallLot_58 : decode cX2_fallLot 58 = .ok (.iaload, 1) := by decide +kernel
theorem dX2_fallLot_59 : decode cX2_fallLot 59 = .ok (.istore 5, 2) := by decide +kernel
theorem dX2_fallLot_61 : decode cX2_fallLot 61 = .ok (.aload_n 1, 1) := by decide +kernel
theorem dX2_fallLot_62 : decode cX2_fallLot 62 = .ok (.getfield 107, 3) := by decide +kernel
theorem dX2_fallLot_65 : decode cX2_fallLot 65 = .ok (.iconst 1, 1) := by decide +kernel
theorem dX2_fallLot_66 : decode cX2_fallLot 66 = .ok (.iaload, 1) := by decide +kernel
theorem dX2_fallLot_67 : decode cX2_fallLot 67 = .ok (.istore 6, 2) := by decide +kernel
theorem dX2_fallLot_69 : decode cX2_fallLot 69 = .ok (.aload_n 0, 1) := by decide +kernel
theorem dX2_fallLot_70 : decode cX2_fallLot 70 = .ok (.getfield 37, 3) := by decide +kernel
theorem dX2_fallLot_73 : decode cX2_fallLot 73 = .ok (.iload_n 2, 1) := by decide +kernel
theorem dX2_fallLot_74 : decode cX2_fallLot 74 = .ok (.iconst (-1), 1) := by decide +kernel
theorem dX2_fallLot_75 : decode cX2_fallLot 75 = .ok (.iastore, 1) := by decide +kernel
theorem dX2_fallLot_76 : decode cX2_fallLot 76 = .ok (.aload_n 0, 1) := by decide +kernel
theorem dX2_fallLot_77 : decode cX2_fallLot 77 = .ok (.getfield 40, 3) := by decide +kernel
theorem dX2_fallLot_80 : decode cX2_fallLot 80 = .ok (.iload_n 2, 1) := by decide +kernel
theorem dX2_fallLot_81 : decode cX2_fallLot 81 = .ok (.iload 4, 2) := by decide +kernel
theorem dX2_fallLot_83 : decode cX2_fallLot 83 = .ok (.iastore, 1) := by decide +kernel
theorem dX2_fallLot_84 : decode cX2_fallLot 84 = .ok (.aload_n 0, 1) := by decide +kernel
theorem dX2_fallLot_85 : decode cX2_fallLot 85 = .ok (.getfield 43, 3) := by decide +kernel
theorem dX2_fallLot_88 : decode cX2_fallLot 88 = .ok (.iload_n 2, 1) := by decide +kernel
theorem dX2_fallLot_89 : decode cX2_fallLot 89 = .ok (.iconst (-1), 1) := by decide +kernel
theorem dX2_fallLot_90 : decode cX2_fallLot 90 = .ok (.iastore, 1) := by decide +kernel
theorem dX2_fallLot_91 : decode cX2_fallLot 91 = .ok (.aload_n 0, 1) := by decide +kernel
theorem dX2_fallLot_92 : decode cX2_fallLot 92 = .ok (.getfield 46, 3) := by decide +kernel
theorem dX2_fallLot_95 : decode cX2_fallLot 95 = .ok (.iload_n 2, 1) := by decide +kernel
theorem dX2_fallLot_96 : decode cX2_fallLot 96 = .ok (.iconst 0, 1) := by decide +kernel
theorem dX2_fallLot_97 : decode cX2_fallLot 97 = .ok (.iastore, 1) := by decide +kernel
theorem dX2_fallLot_98 : decode cX2_fallLot 98 = .ok (.iload 4, 2) := by decide +kernel
theorem dX2_fallLot_100 : decode cX2_fallLot 100 = .ok (.iload 5, 2) := by decide +kernel
theorem dX2_fallLot_102 : decode cX2_fallLot 102 = .ok (.if_icmp .lt 8, 3) := by decide +kernel
theorem dX2_fallLot_105 : decode cX2_fallLot 105 = .ok (.iload 6, 2) := by decide +kernel
theorem dX2_fallLot_107 : decode cX2_fallLot 107 = .ok (.ifCond .gt 4, 3) := by decide +kernel
theorem dX2_fallLot_110 : decode cX2_fallLot 110 = .ok (.return_, 1) := by decide +kernel
theorem dX2_fallLot_111 : decode cX2_fallLot 111 = .ok (.aload_n 0, 1) := by decide +kernel
theorem dX2_fallLot_112 : decode cX2_fallLot 112 = .ok (.getfield 43, 3) := by decide +kernel
theorem dX2_fallLot_115 : decode cX2_fallLot 115 = .ok (.iload_n 2, 1) := by decide +kernel
theorem dX2_fallLot_116 : decode cX2_fallLot 116 = .ok (.iconst 0, 1) := by decide +kernel
theorem dX2_fallLot_117 : decode cX2_fallLot 117 = .ok (.iastore, 1) := by decide +kernel
theorem dX2_fallLot_118 : decode cX2_fallLot 118 = .ok (.sipush 1000, 3) := by decide +kernel
theorem dX2_fallLot_121 : decode cX2_fallLot 121 = .ok (.istore 7, 2) := by decide +kernel
theorem dX2_fallLot_123 : decode cX2_fallLot 123 = .ok (.iconst 0, 1) := by decide +kernel
theorem dX2_fallLot_124 : decode cX2_fallLot 124 = .ok (.istore 8, 2) := by decide +kernel
theorem dX2_fallLot_126 : decode cX2_fallLot 126 = .ok (.iload 8, 2) := by decide +kernel
theorem dX2_fallLot_128 : decode cX2_fallLot 128 = .ok (.iconst 3, 1) := by decide +kernel
theorem dX2_fallLot_129 : decode cX2_fallLot 129 = .ok (.if_icmp .gt 268, 3) := by decide +kernel
theorem dX2_fallLot_132 : decode cX2_fallLot 132 = .ok (.aload_n 0, 1) := by decide +kernel
theorem dX2_fallLot_133 : decode cX2_fallLot 133 = .ok (.aload_n 0, 1) := by decide +kernel
theorem dX2_fallLot_134 : decode cX2_fallLot 134 = .ok (.aload_n 1, 1) := by decide +kernel
theorem dX2_fallLot_135 : decode cX2_fallLot 135 = .ok (.aload_n 0, 1) := by decide +kernel
theorem dX2_fallLot_136 : decode cX2_fallLot 136 = .ok (.getfield 40, 3) := by decide +kernel
theorem dX2_fallLot_139 : decode cX2_fallLot 139 = .ok (.iload_n 2, 1) := by decide +kernel
theorem dX2_fallLot_140 : decode cX2_fallLot 140 = .ok (.iaload, 1) := by decide +kernel
theorem dX2_fallLot_141 : decode cX2_fallLot 141 = .ok (.iload 7, 2) := by decide +kernel
theorem dX2_fallLot_143 : decode cX2_fallLot 143 = .ok (.invokevirtual 110, 3) := by decide +kernel
theorem dX2_fallLot_146 : decode cX2_fallLot 146 = .ok (.putfield 34, 3) := by decide +kernel
theorem dX2_fallLot_149 : decode cX2_fallLot 149 = .ok (.aload_n 0, 1) := by decide +kernel
theorem dX2_fallLot_150 : decode cX2_fallLot 150 = .ok (.getfield 34, 3) := by decide +kernel
theorem dX2_fallLot_153 : decode cX2_fallLot 153 = .ok (.ifCond .ne 138, 3) := by decide +kernel
theorem dX2_fallLot_156 : decode cX2_fallLot 156 = .ok (.aload_n 0, 1) := by decide +kernel
theorem dX2_fallLot_157 : decode cX2_fallLot 157 = .ok (.aload_n 1, 1) := by decide +kernel
theorem dX2_fallLot_158 : decode cX2_fallLot 158 = .ok (.iload 6, 2) := by decide +kernel
theorem dX2_fallLot_160 : decode cX2_fallLot 160 = .ok (.invokevirtual 113, 3) := by decide +kernel
theorem dX2_fallLot_163 : decode cX2_fallLot 163 = .ok (.istore 9, 2) := by decide +kernel
theorem dX2_fallLot_165 : decode cX2_fallLot 165 = .ok (.iconst 1, 1) := by decide +kernel
theorem dX2_fallLot_166 : decode cX2_fallLot 166 = .ok (.aload_n 0, 1) := by decide +kernel
theorem dX2_fallLot_167 : decode cX2_fallLot 167 = .ok (.getfield 40, 3) := by decide +kernel
theorem dX2_fallLot_170 : decode cX2_fallLot 170 = .ok (.iload_n 2, 1) := by decide +kernel
theorem dX2_fallLot_171 : decode cX2_fallLot 171 = .ok (.iaload, 1) := by decide +kernel
theorem dX2_fallLot_172 : decode cX2_fallLot 172 = .ok (.iload 9, 2) := by decide +kernel
theorem dX2_fallLot_174 : decode cX2_fallLot 174 = .ok (.isub, 1) := by decide +kernel
theorem dX2_fallLot_175 : decode cX2_fallLot 175 = .ok (.iload 6, 2) := by decide +kernel
theorem dX2_fallLot_177 : decode cX2_fallLot 177 = .ok (.iadd, 1) := by decide +kernel
theorem dX2_fallLot_178 : decode cX2_fallLot 178 = .ok (.iconst 1, 1) := by decide +kernel
theorem dX2_fallLot_179 : decode cX2_fallLot 179 = .ok (.isub, 1) := by decide +kernel
theorem dX2_fallLot_180 : decode cX2_fallLot 180 = .ok (.iload 6, 2) := by decide +kernel
theorem dX2_fallLot_182 : decode cX2_fallLot 182 = .ok (.idiv, 1) := by decide +kernel
theorem dX2_fallLot_183 : decode cX2_fallLot 183 = .ok (.invokestatic 116, 3) := by decide +kernel
theorem dX2_fallLot_186 : decode cX2_fallLot 186 = .ok (.istore 10, 2) := by decide +kernel
theorem dX2_fallLot_188 : decode cX2_fallLot 188 = .ok (.aload_n 0, 1) := by decide +kernel
theorem dX2_fallLot_189 : decode cX2_fallLot 189 = .ok (.getfield 40, 3) := by decide +kernel
theorem dX2_fallLot_192 : decode cX2_fallLot 192 = .ok (.iload_n 2, 1) := by decide +kernel
theorem dX2_fallLot_193 : decode cX2_fallLot 193 = .ok (.iaload, 1) := by decide +kernel
theorem dX2_fallLot_194 : decode cX2_fallLot 194 = .ok (.iload 10, 2) := by decide +kernel
theorem dX2_fallLot_196 : decode cX2_fallLot 196 = .ok (.iload 6, 2) := by decide +kernel
theorem dX2_fallLot_198 : decode cX2_fallLot 198 = .ok (.imul, 1) := by decide +kernel
theorem dX2_fallLot_199 : decode cX2_fallLot 199 = .ok (.isub, 1) := by decide +kernel
theorem dX2_fallLot_200 : decode cX2_fallLot 200 = .ok (.iload 5, 2) := by decide +kernel
theorem dX2_fallLot_202 : decode cX2_fallLot 202 = .ok (.if_icmp .ge 7, 3) := by decide +kernel
theorem dX2_fallLot_205 : decode cX2_fallLot 205 = .ok (.iconst 1, 1) := by decide +kernel
theorem dX2_fallLot_206 : decode cX2_fallLot 206 = .ok (.goto 4, 3) := by decide +kernel
theorem dX2_fallLot_209 : decode cX2_fallLot 209 = .ok (.iconst 0, 1) := by decide +kernel
theorem dX2_fallLot_210 : decode cX2_fallLot 210 = .ok (.istore 11, 2) := by decide +kernel
theorem dX2_fallLot_212 : decode cX2_fallLot 212 = .ok (.iload 11, 2) := by decide +kernel
theorem dX2_fallLot_214 : decode cX2_fallLot 214 = .ok (.ifCond .eq 18, 3) := by decide +kernel
theorem dX2_fallLot_217 : decode cX2_fallLot 217 = .ok (.aload_n 0, 1) := by decide +kernel
theorem dX2_fallLot_218 : decode cX2_fallLot 218 = .ok (.getfield 40, 3) := by decide +kernel
theorem dX2_fallLot_221 : decode cX2_fallLot 221 = .ok (.iload_n 2, 1) := by decide +kernel
theorem dX2_fallLot_222 : decode cX2_fallLot 222 = .ok (.iaload, 1) := by decide +kernel
theorem dX2_fallLot_223 : decode cX2_fallLot 223 = .ok (.iload 5, 2) := by decide +kernel
theorem dX2_fallLot_225 : decode cX2_fallLot 225 = .ok (.isub, 1) := by decide +kernel
theorem dX2_fallLot_226 : decode cX2_fallLot 226 = .ok (.iload 6, 2) := by decide +kernel
theorem dX2_fallLot_228 : decode cX2_fallLot 228 = .ok (.idiv, 1) := by decide +kernel
theorem dX2_fallLot_229 : decode cX2_fallLot 229 = .ok (.goto 5, 3) := by decide +kernel
theorem dX2_fallLot_232 : decode cX2_fallLot 232 = .ok (.iload 10, 2) := by decide +kernel
theorem dX2_fallLot_234 : decode cX2_fallLot 234 = .ok (.istore 10, 2) := by decide +kernel
theorem dX2_fallLot_236 : decode cX2_fallLot 236 = .ok (.aload_n 0, 1) := by decide +kernel
theorem dX2_fallLot_237 : decode cX2_fallLot 237 = .ok (.getfield 43, 3) := by decide +kernel
theorem dX2_fallLot_240 : decode cX2_fallLot 240 = .ok (.iload_n 2, 1) := by decide +kernel
theorem dX2_fallLot_241 : decode cX2_fallLot 241 = .ok (.dup2, 1) := by decide +kernel
theorem dX2_fallLot_242 : decode cX2_fallLot 242 = .ok (.iaload, 1) := by decide +kernel
theorem dX2_fallLot_243 : decode cX2_fallLot 243 = .ok (.iload 10, 2) := by decide +kernel
theorem dX2_fallLot_245 : decode cX2_fallLot 245 = .ok (.iadd, 1) := by decide +kernel
theorem dX2_fallLot_246 : decode cX2_fallLot 246 = .ok (.iastore, 1) := by decide +kernel
theorem dX2_fallLot_247 : decode cX2_fallLot 247 = .ok (.aload_n 0, 1) := by decide +kernel
theorem dX2_fallLot_248 : decode cX2_fallLot 248 = .ok (.getfield 40, 3) := by decide +kernel
theorem dX2_fallLot_251 : decode cX2_fallLot 251 = .ok (.iload_n 2, 1) := by decide +kernel
theorem dX2_fallLot_252 : decode cX2_fallLot 252 = .ok (.dup2, 1) := by decide +kernel
theorem dX2_fallLot_253 : decode cX2_fallLot 253 = .ok (.iaload, 1) := by decide +kernel
theorem dX2_fallLot_254 : decode cX2_fallLot 254 = .ok (.iload 10, 2) := by decide +kernel
theorem dX2_fallLot_256 : decode cX2_fallLot 256 = .ok (.iload 6, 2) := by decide +kernel
theorem dX2_fallLot_258 : decode cX2_fallLot 258 = .ok (.imul, 1) := by decide +kernel
theorem dX2_fallLot_259 : decode cX2_fallLot 259 = .ok (.isub, 1) := by decide +kernel
theorem dX2_fallLot_260 : decode cX2_fallLot 260 = .ok (.iastore, 1) := by decide +kernel
theorem dX2_fallLot_261 : decode cX2_fallLot 261 = .ok (.iload 11, 2) := by decide +kernel
theorem dX2_fallLot_263 : decode cX2_fallLot 263 = .ok (.ifCond .eq 4, 3) := by decide +kernel
theorem dX2_fallLot_266 : decode cX2_fallLot 266 = .ok (.return_, 1) := by decide +kernel
theorem dX2_fallLot_267 : decode cX2_fallLot 267 = .ok (.aload_n 0, 1) := by decide +kernel
theorem dX2_fallLot_268 : decode cX2_fallLot 268 = .ok (.aload_n 0, 1) := by decide +kernel
theorem dX2_fallLot_269 : decode cX2_fallLot 269 = .ok (.aload_n 1, 1) := by decide +kernel
theorem dX2_fallLot_270 : decode cX2_fallLot 270 = .ok (.aload_n 0, 1) := by decide +kernel
theorem dX2_fallLot_271 : decode cX2_fallLot 271 = .ok (.getfield 40, 3) := by decide +kernel
theorem dX2_fallLot_274 : decode cX2_fallLot 274 = .ok (.iload_n 2, 1) := by decide +kernel
theorem dX2_fallLot_275 : decode cX2_fallLot 275 = .ok (.iaload, 1) := by decide +kernel
theorem dX2_fallLot_276 : decode cX2_fallLot 276 = .ok (.aload_n 0, 1) := by decide +kernel
theorem dX2_fallLot_277 : decode cX2_fallLot 277 = .ok (.getfield 40, 3) := by decide +kernel
theorem dX2_fallLot_280 : decode cX2_fallLot 280 = .ok (.iload_n 2, 1) := by decide +kernel
theorem dX2_fallLot_281 : decode cX2_fallLot 281 = .ok (.iaload, 1) := by decide +kernel
theorem dX2_fallLot_282 : decode cX2_fallLot 282 = .ok (.iload 6, 2) := by decide +kernel
theorem dX2_fallLot_284 : decode cX2_fallLot 284 = .ok (.iadd, 1) := by decide +kernel
theorem dX2_fallLot_285 : decode cX2_fallLot 285 = .ok (.invokevirtual 110, 3) := by decide +kernel
theorem dX2_fallLot_288 : decode cX2_fallLot 288 = .ok (.putfield 34, 3) := by decide +kernel
theorem dX2_fallLot_291 : decode cX2_fallLot 291 = .ok (.aload_n 0, 1) := by decide +kernel
theorem dX2_fallLot_292 : decode cX2_fallLot 292 = .ok (.getfield 34, 3) := by decide +kernel
theorem dX2_fallLot_295 : decode cX2_fallLot 295 = .ok (.invokestatic 122, 3) := by decide +kernel
theorem dX2_fallLot_298 : decode cX2_fallLot 298 = .ok (.iconst 1, 1) := by decide +kernel
theorem dX2_fallLot_299 : decode cX2_fallLot 299 = .ok (.if_icmp .ne 7, 3) := by decide +kernel
theorem dX2_fallLot_302 : decode cX2_fallLot 302 = .ok (.iconst 1, 1) := by decide +kernel
theorem dX2_fallLot_303 : decode cX2_fallLot 303 = .ok (.goto 4, 3) := by decide +kernel
theorem dX2_fallLot_306 : decode cX2_fallLot 306 = .ok (.iconst 0, 1) := by decide +kernel
theorem dX2_fallLot_307 : decode cX2_fallLot 307 = .ok (.istore 9, 2) := by decide +kernel
theorem dX2_fallLot_309 : decode cX2_fallLot 309 = .ok (.iload 9, 2) := by decide +kernel
theorem dX2_fallLot_311 : decode cX2_fallLot 311 = .ok (.ifCond .ne 18, 3) := by decide +kernel
theorem dX2_fallLot_314 : decode cX2_fallLot 314 = .ok (.aload_n 1, 1) := by decide +kernel
theorem dX2_fallLot_315 : decode cX2_fallLot 315 = .ok (.getfield 107, 3) := by decide +kernel
theorem dX2_fallLot_318 : decode cX2_fallLot 318 = .ok (.iconst 3, 1) := by decide +kernel
theorem dX2_fallLot_319 : decode cX2_fallLot 319 = .ok (.iaload, 1) := by decide +kernel
theorem dX2_fallLot_320 : decode cX2_fallLot 320 = .ok (.ifCond .eq 9, 3) := by decide +kernel
theorem dX2_fallLot_323 : decode cX2_fallLot 323 = .ok (.iload 8, 2) := by decide +kernel
theorem dX2_fallLot_325 : decode cX2_fallLot 325 = .ok (.iconst 3, 1) := by decide +kernel
theorem dX2_fallLot_326 : decode cX2_fallLot 326 = .ok (.if_icmp .ne 17, 3) := by decide +kernel
theorem dX2_fallLot_329 : decode cX2_fallLot 329 = .ok (.aload_n 0, 1) := by decide +kernel
theorem dX2_fallLot_330 : decode cX2_fallLot 330 = .ok (.getfield 37, 3) := by decide +kernel
theorem dX2_fallLot_333 : decode cX2_fallLot 333 = .ok (.iload_n 2, 1) := by decide +kernel
theorem dX2_fallLot_334 : decode cX2_fallLot 334 = .ok (.aload_n 0, 1) := by decide +kernel
theorem dX2_fallLot_335 : decode cX2_fallLot 335 = .ok (.getfield 34, 3) := by decide +kernel
theorem dX2_fallLot_338 : decode cX2_fallLot 338 = .ok (.invokestatic 128, 3) := by decide +kernel
theorem dX2_fallLot_341 : decode cX2_fallLot 341 = .ok (.iastore, 1) := by decide +kernel
theorem dX2_fallLot_342 : decode cX2_fallLot 342 = .ok (.return_, 1) := by decide +kernel
theorem dX2_fallLot_343 : decode cX2_fallLot 343 = .ok (.aload_n 0, 1) := by decide +kernel
theorem dX2_fallLot_344 : decode cX2_fallLot 344 = .ok (.getfield 46, 3) := by decide +kernel
theorem dX2_fallLot_347 : decode cX2_fallLot 347 = .ok (.iload_n 2, 1) := by decide +kernel
theorem dX2_fallLot_348 : decode cX2_fallLot 348 = .ok (.dup2, 1) := by decide +kernel
theorem dX2_fallLot_349 : decode cX2_fallLot 349 = .ok (.iaload, 1) := by decide +kernel
theorem dX2_fallLot_350 : decode cX2_fallLot 350 = .ok (.iconst 1, 1) := by decide +kernel
theorem dX2_fallLot_351 : decode cX2_fallLot 351 = .ok (.iadd, 1) := by decide +kernel
theorem dX2_fallLot_352 : decode cX2_fallLot 352 = .ok (.iastore, 1) := by decide +kernel
theorem dX2_fallLot_353 : decode cX2_fallLot 353 = .ok (.aload_n 0, 1) := by decide +kernel
theorem dX2_fallLot_354 : decode cX2_fallLot 354 = .ok (.getfield 43, 3) := by decide +kernel
theorem dX2_fallLot_357 : decode cX2_fallLot 357 = .ok (.iload_n 2, 1) := by decide +kernel
theorem dX2_fallLot_358 : decode cX2_fallLot 358 = .ok (.dup2, 1) := by decide +kernel
theorem dX2_fallLot_359 : decode cX2_fallLot 359 = .ok (.iaload, 1) := by decide +kernel
theorem dX2_fallLot_360 : decode cX2_fallLot 360 = .ok (.iconst 1, 1) := by decide +kernel
theorem dX2_fallLot_361 : decode cX2_fallLot 361 = .ok (.iadd, 1) := by decide +kernel
theorem dX2_fallLot_362 : decode cX2_fallLot 362 = .ok (.iastore, 1) := by decide +kernel
theorem dX2_fallLot_363 : decode cX2_fallLot 363 = .ok (.aload_n 0, 1) := by decide +kernel
theorem dX2_fallLot_364 : decode cX2_fallLot 364 = .ok (.getfield 40, 3) := by decide +kernel
theorem dX2_fallLot_367 : decode cX2_fallLot 367 = .ok (.iload_n 2, 1) := by decide +kernel
theorem dX2_fallLot_368 : decode cX2_fallLot 368 = .ok (.iaload, 1) := by decide +kernel
theorem dX2_fallLot_369 : decode cX2_fallLot 369 = .ok (.istore 7, 2) := by decide +kernel
theorem dX2_fallLot_371 : decode cX2_fallLot 371 = .ok (.aload_n 0, 1) := by decide +kernel
theorem dX2_fallLot_372 : decode cX2_fallLot 372 = .ok (.getfield 40, 3) := by decide +kernel
theorem dX2_fallLot_375 : decode cX2_fallLot 375 = .ok (.iload_n 2, 1) := by decide +kernel
theorem dX2_fallLot_376 : decode cX2_fallLot 376 = .ok (.iload 4, 2) := by decide +kernel
theorem dX2_fallLot_378 : decode cX2_fallLot 378 = .ok (.aload_n 0, 1) := by decide +kernel
theorem dX2_fallLot_379 : decode cX2_fallLot 379 = .ok (.getfield 40, 3) := by decide +kernel
theorem dX2_fallLot_382 : decode cX2_fallLot 382 = .ok (.iload_n 2, 1) := by decide +kernel
theorem dX2_fallLot_383 : decode cX2_fallLot 383 = .ok (.iaload, 1) := by decide +kernel
theorem dX2_fallLot_384 : decode cX2_fallLot 384 = .ok (.bipush 9, 2) := by decide +kernel
theorem dX2_fallLot_386 : decode cX2_fallLot 386 = .ok (.iadd, 1) := by decide +kernel
theorem dX2_fallLot_387 : decode cX2_fallLot 387 = .ok (.invokestatic 131, 3) := by decide +kernel
theorem dX2_fallLot_390 : decode cX2_fallLot 390 = .ok (.iastore, 1) := by decide +kernel
theorem dX2_fallLot_391 : decode cX2_fallLot 391 = .ok (.iinc 8 1, 3) := by decide +kernel
theorem dX2_fallLot_394 : decode cX2_fallLot 394 = .ok (.goto (-268), 3) := by decide +kernel
theorem dX2_fallLot_397 : decode cX2_fallLot 397 = .ok (.return_, 1) := by decide +kernel
theorem dX2_coughsAt_0 : decode cX2_coughsAt 0 = .ok (.iconst 0, 1) := by decide +kernel
theorem dX2_coughsAt_1 : decode cX2_coughsAt 1 = .ok (.istore 4, 2) := by decide +kernel
theorem dX2_coughsAt_3 : decode cX2_coughsAt 3 = .ok (.iconst 0, 1) := by decide +kernel
theorem dX2_coughsAt_4 : decode cX2_coughsAt 4 = .ok (.istore 5, 2) := by decide +kernel
theorem dX2_coughsAt_6 : decode cX2_coughsAt 6 = .ok (.iload 5, 2) := by decide +kernel
theorem dX2_coughsAt_8 : decode cX2_coughsAt 8 = .ok (.iconst 5, 1) := by decide +kernel
theorem dX2_coughsAt_9 : decode cX2_coughsAt 9 = .ok (.if_icmp .ge 71, 3) := by decide +kernel
theorem dX2_coughsAt_12 : decode cX2_coughsAt 12 = .ok (.aload_n 1, 1) := by decide +kernel
theorem dX2_coughsAt_13 : decode cX2_coughsAt 13 = .ok (.getfield 134, 3) := by decide +kernel
theorem dX2_coughsAt_16 : decode cX2_coughsAt 16 = .ok (.iload 5, 2) := by decide +kernel
theorem dX2_coughsAt_18 : decode cX2_coughsAt 18 = .ok (.iaload, 1) := by decide +kernel
theorem dX2_coughsAt_19 : decode cX2_coughsAt 19 = .ok (.iconst 1, 1) := by decide +kernel
theorem dX2_coughsAt_20 : decode cX2_coughsAt 20 = .ok (.if_icmp .ne 7, 3) := by decide +kernel
theorem dX2_coughsAt_23 : decode cX2_coughsAt 23 = .ok (.iload_n 3, 1) := by decide +kernel
theorem dX2_coughsAt_24 : decode cX2_coughsAt 24 = .ok (.goto 4, 3) := by decide +kernel
theorem dX2_coughsAt_27 : decode cX2_coughsAt 27 = .ok (.iload_n 2, 1) := by decide +kernel
theorem dX2_coughsAt_28 : decode cX2_coughsAt 28 = .ok (.istore 6, 2) := by decide +kernel
theorem dX2_coughsAt_30 : decode cX2_coughsAt 30 = .ok (.aload_n 0, 1) := by decide +kernel
theorem dX2_coughsAt_31 : decode cX2_coughsAt 31 = .ok (.getfield 30, 3) := by decide +kernel
theorem dX2_coughsAt_34 : decode cX2_coughsAt 34 = .ok (.iload 5, 2) := by decide +kernel
theorem dX2_coughsAt_36 : decode cX2_coughsAt 36 = .ok (.invokestatic 93, 3) := by decide +kernel
theorem dX2_coughsAt_39 : decode cX2_coughsAt 39 = .ok (.ifCond .eq 35, 3) := by decide +kernel
theorem dX2_coughsAt_42 : decode cX2_coughsAt 42 = .ok (.iload_n 2, 1) := by decide +kernel
theorem dX2_coughsAt_43 : decode cX2_coughsAt 43 = .ok (.aload_n 0, 1) := by decide +kernel
theorem dX2_coughsAt_44 : decode cX2_coughsAt 44 = .ok (.getfield 27, 3) := by decide +kernel
theorem dX2_coughsAt_47 : decode cX2_coughsAt 47 = .ok (.iload 5, 2) := by decide +kernel
theorem dX2_coughsAt_49 : decode cX2_coughsAt 49 = .ok (.iaload, 1) := by decide +kernel
theorem dX2_coughsAt_50 : decode cX2_coughsAt 50 = .ok (.if_icmp .gt 24, 3) := by decide +kernel
theorem dX2_coughsAt_53 : decode cX2_coughsAt 53 = .ok (.iload 6, 2) := by decide +kernel
theorem dX2_coughsAt_55 : decode cX2_coughsAt 55 = .ok (.aload_n 0, 1) := by decide +kernel
theorem dX2_coughsAt_56 : decode cX2_coughsAt 56 = .ok (.getfield 24, 3) := by decide +kernel
theorem dX2_coughsAt_59 : decode cX2_coughsAt 59 = .ok (.iload 5, 2) := by decide +kernel
theorem dX2_coughsAt_61 : decode cX2_coughsAt 61 = .ok (.iaload, 1) := by decide +kernel
theorem dX2_coughsAt_62 : decode cX2_coughsAt 62 = .ok (.if_icmp .gt 12, 3) := by decide +kernel
theorem dX2_coughsAt_65 : decode cX2_coughsAt 65 = .ok (.iload 4, 2) := by decide +kernel
theorem dX2_coughsAt_67 : decode cX2_coughsAt 67 = .ok (.iconst 1, 1) := by decide +kernel
theorem dX2_coughsAt_68 : decode cX2_coughsAt 68 = .ok (.iload 5, 2) := by decide +kernel
theorem dX2_coughsAt_70 : decode cX2_coughsAt 70 = .ok (.ishl, 1) := by decide +kernel
theorem dX2_coughsAt_71 : decode cX2_coughsAt 71 = .ok (.ior, 1) := by decide +kernel
theorem dX2_coughsAt_72 : decode cX2_coughsAt 72 = .ok (.istore 4, 2) := by decide +kernel
theorem dX2_coughsAt_74 : decode cX2_coughsAt 74 = .ok (.iinc 5 1, 3) := by decide +kernel
theorem dX2_coughsAt_77 : decode cX2_coughsAt 77 = .ok (.goto (-71), 3) := by decide +kernel
theorem dX2_coughsAt_80 : decode cX2_coughsAt 80 = .ok (.iload 4, 2) := by decide +kernel
theorem dX2_coughsAt_82 : decode cX2_coughsAt 82 = .ok (.ireturn, 1) := by decide +kernel
theorem dX2_nextCough_0 : decode cX2_nextCough 0 = .ok (.iconst (-1), 1) := by decide +kernel
theorem dX2_nextCough_1 : decode cX2_nextCough 1 = .ok (.istore_n 3, 1) := by decide +kernel
theorem dX2_nextCough_2 : decode cX2_nextCough 2 = .ok (.iconst 0, 1) := by decide +kernel
theorem dX2_nextCough_3 : decode cX2_nextCough 3 = .ok (.istore 4, 2) := by decide +kernel
theorem dX2_nextCough_5 : decode cX2_nextCough 5 = .ok (.iload 4, 2) := by decide +kernel
theorem dX2_nextCough_7 : decode cX2_nextCough 7 = .ok (.iconst 5, 1) := by decide +kernel
theorem dX2_nextCough_8 : decode cX2_nextCough 8 = .ok (.if_icmp .ge 64, 3) := by decide +kernel
theorem dX2_nextCough_11 : decode cX2_nextCough 11 = .ok (.aload_n 0, 1) := by decide +kernel
theorem dX2_nextCough_12 : decode cX2_nextCough 12 = .ok (.getfield 30, 3) := by decide +kernel
theorem dX2_nextCough_15 : decode cX2_nextCough 15 = .ok (.iload 4, 2) := by decide +kernel
theorem dX2_nextCough_17 : decode cX2_nextCough 17 = .ok (.invokestatic 93, 3) := by decide +kernel
theorem dX2_nextCough_20 : decode cX2_nextCough 20 = .ok (.ifCond .eq 46, 3) := by decide +kernel
theorem dX2_nextCough_23 : decode cX2_nextCough 23 = .ok (.aload_n 1, 1) := by decide +kernel
theorem dX2_nextCough_24 : decode cX2_nextCough 24 = .ok (.getfield 134, 3) := by decide +kernel
theorem dX2_nextCough_27 : decode cX2_nextCough 27 = .ok (.iload 4, 2) := by decide +kernel
theorem dX2_nextCough_29 : decode cX2_nextCough 29 = .ok (.iaload, 1) := by decide +kernel
theorem dX2_nextCough_30 : decode cX2_nextCough 30 = .ok (.iconst 1, 1) := by decide +kernel
theorem dX2_nextCough_31 : decode cX2_nextCough 31 = .ok (.if_icmp .ne 7, 3) := by decide +kernel
theorem dX2_nextCough_34 : decode cX2_nextCough 34 = .ok (.iload_n 2, 1) := by decide +kernel
theorem dX2_nextCough_35 : decode cX2_nextCough 35 = .ok (.goto 4, 3) := by decide +kernel
theorem dX2_nextCough_38 : decode cX2_nextCough 38 = .ok (.iconst 0, 1) := by decide +kernel
theorem dX2_nextCough_39 : decode cX2_nextCough 39 = .ok (.istore 5, 2) := by decide +kernel
theorem dX2_nextCough_41 : decode cX2_nextCough 41 = .ok (.iload_n 3, 1) := by decide +kernel
theorem dX2_nextCough_42 : decode cX2_nextCough 42 = .ok (.aload_n 0, 1) := by decide +kernel
theorem dX2_nextCough_43 : decode cX2_nextCough 43 = .ok (.getfield 27, 3) := by decide +kernel
theorem dX2_nextCough_46 : decode cX2_nextCough 46 = .ok (.iload 4, 2) := by decide +kernel
theorem dX2_nextCough_48 : decode cX2_nextCough 48 = .ok (.iaload, 1) := by decide +kernel
theorem dX2_nextCough_49 : decode cX2_nextCough 49 = .ok (.aload_n 0, 1) := by decide +kernel
theorem dX2_nextCough_50 : decode cX2_nextCough 50 = .ok (.getfield 24, 3) := by decide +kernel
theorem dX2_nextCough_53 : decode cX2_nextCough 53 = .ok (.iload 4, 2) := by decide +kernel
theorem dX2_nextCough_55 : decode cX2_nextCough 55 = .ok (.iaload, 1) := by decide +kernel
theorem dX2_nextCough_56 : decode cX2_nextCough 56 = .ok (.iload 5, 2) := by decide +kernel
theorem dX2_nextCough_58 : decode cX2_nextCough 58 = .ok (.isub, 1) := by decide +kernel
theorem dX2_nextCough_59 : decode cX2_nextCough 59 = .ok (.invokestatic 131, 3) := by decide +kernel
theorem dX2_nextCough_62 : decode cX2_nextCough 62 = .ok (.invokestatic 116, 3) := by decide +kernel
theorem dX2_nextCough_65 : decode cX2_nextCough 65 = .ok (.istore_n 3, 1) := by decide +kernel
theorem dX2_nextCough_66 : decode cX2_nextCough 66 = .ok (.iinc 4 1, 3) := by decide +kernel
theorem dX2_nextCough_69 : decode cX2_nextCough 69 = .ok (.goto (-64), 3) := by decide +kernel
theorem dX2_nextCough_72 : decode cX2_nextCough 72 = .ok (.iload_n 3, 1) := by decide +kernel
theorem dX2_nextCough_73 : decode cX2_nextCough 73 = .ok (.ireturn, 1) := by decide +kernel
theorem dX2_riseLot_0 : decode cX2_riseLot 0 = .ok (.iload_n 2, 1) := by decide +kernel
theorem dX2_riseLot_1 : decode cX2_riseLot 1 = .ok (.ifCond .lt 9, 3) := by decide +kernel
theorem dX2_riseLot_4 : decode cX2_riseLot 4 = .ok (.iload_n 2, 1) := by decide +kernel
theorem dX2_riseLot_5 : decode cX2_riseLot 5 = .ok (.bipush 6, 2) := by decide +kernel
theorem dX2_riseLot_7 : decode cX2_riseLot 7 = .ok (.if_icmp .lt 4, 3) := by decide +kernel
theorem dX2_riseLot_10 : decode cX2_riseLot 10 = .ok (.return_, 1) := by decide +kernel
theorem dX2_riseLot_11 : decode cX2_riseLot 11 = .ok (.aload_n 1, 1) := by decide +kernel
theorem dX2_riseLot_12 : decode cX2_riseLot 12 = .ok (.getfield 97, 3) := by decide +kernel
theorem dX2_riseLot_15 : decode cX2_riseLot 15 = .ok (.iload_n 2, 1) := by decide +kernel
theorem dX2_riseLot_16 : decode cX2_riseLot 16 = .ok (.iaload, 1) := by decide +kernel
theorem dX2_riseLot_17 : decode cX2_riseLot 17 = .ok (.istore_n 3, 1) := by decide +kernel
theorem dX2_riseLot_18 : decode cX2_riseLot 18 = .ok (.aload_n 1, 1) := by decide +kernel
theorem dX2_riseLot_19 : decode cX2_riseLot 19 = .ok (.getfield 107, 3) := by decide +kernel
theorem dX2_riseLot_22 : decode cX2_riseLot 22 = .ok (.iconst 2, 1) := by decide +kernel
theorem dX2_riseLot_23 : decode cX2_riseLot 23 = .ok (.iaload, 1) := by decide +kernel
theorem dX2_riseLot_24 : decode cX2_riseLot 24 = .ok (.istore 4, 2) := by decide +kernel
theorem dX2_riseLot_26 : decode cX2_riseLot 26 = .ok (.aload_n 0, 1) := by decide +kernel
theorem dX2_riseLot_27 : decode cX2_riseLot 27 = .ok (.aload_n 1, 1) := by decide +kernel
theorem dX2_riseLot_28 : decode cX2_riseLot 28 = .ok (.iload_n 3, 1) := by decide +kernel
theorem dX2_riseLot_29 : decode cX2_riseLot 29 = .ok (.invokevirtual 100, 3) := by decide +kernel
theorem dX2_riseLot_32 : decode cX2_riseLot 32 = .ok (.iconst (-1), 1) := by decide +kernel
theorem dX2_riseLot_33 : decode cX2_riseLot 33 = .ok (.istore 5, 2) := by decide +kernel
theorem dX2_riseLot_35 : decode cX2_riseLot 35 = .ok (.iconst (-1), 1) := by decide +kernel
theorem dX2_riseLot_36 : decode cX2_riseLot 36 = .ok (.istore 6, 2) := by decide +kernel
theorem dX2_riseLot_38 : decode cX2_riseLot 38 = .ok (.iconst (-1), 1) := by decide +kernel
theorem dX2_riseLot_39 : decode cX2_riseLot 39 = .ok (.istore 7, 2) := by decide +kernel
theorem dX2_riseLot_41 : decode cX2_riseLot 41 = .ok (.iconst 0, 1) := by decide +kernel
theorem dX2_riseLot_42 : decode cX2_riseLot 42 = .ok (.istore 8, 2) := by decide +kernel
theorem dX2_riseLot_44 : decode cX2_riseLot 44 = .ok (.iload 8, 2) := by decide +kernel
theorem dX2_riseLot_46 : decode cX2_riseLot 46 = .ok (.iconst 5, 1) := by decide +kernel
theorem dX2_riseLot_47 : decode cX2_riseLot 47 = .ok (.if_icmp .ge 83, 3) := by decide +kernel
theorem dX2_riseLot_50 : decode cX2_riseLot 50 = .ok (.aload_n 1, 1) := by decide +kernel
theorem dX2_riseLot_51 : decode cX2_riseLot 51 = .ok (.iload 8, 2) := by decide +kernel
theorem dX2_riseLot_53 : decode cX2_riseLot 53 = .ok (.iload_n 3, 1) := by decide +kernel
theorem dX2_riseLot_54 : decode cX2_riseLot 54 = .ok (.invokevirtual 137, 3) := by decide +kernel
theorem dX2_riseLot_57 : decode cX2_riseLot 57 = .ok (.istore 9, 2) := by decide +kernel
theorem dX2_riseLot_59 : decode cX2_riseLot 59 = .ok (.aload_n 0, 1) := by decide +kernel
theorem dX2_riseLot_60 : decode cX2_riseLot 60 = .ok (.getfield 30, 3) := by decide +kernel
theorem dX2_riseLot_63 : decode cX2_riseLot 63 = .ok (.iload 8, 2) := by decide +kernel
theorem dX2_riseLot_65 : decode cX2_riseLot 65 = .ok (.invokestatic 93, 3) := by decide +kernel
theorem dX2_riseLot_68 : decode cX2_riseLot 68 = .ok (.ifCond .eq 56, 3) := by decide +kernel
theorem dX2_riseLot_71 : decode cX2_riseLot 71 = .ok (.aload_n 0, 1) := by decide +kernel
theorem dX2_riseLot_72 : decode cX2_riseLot 72 = .ok (.getfield 27, 3) := by decide +kernel
theorem dX2_riseLot_75 : decode cX2_riseLot 75 = .ok (.iload 8, 2) := by decide +kernel
theorem dX2_riseLot_77 : decode cX2_riseLot 77 = .ok (.iaload, 1) := by decide +kernel
theorem dX2_riseLot_78 : decode cX2_riseLot 78 = .ok (.iload 4, 2) := by decide +kernel
theorem dX2_riseLot_80 : decode cX2_riseLot 80 = .ok (.if_icmp .lt 44, 3) := by decide +kernel
theorem dX2_riseLot_83 : decode cX2_riseLot 83 = .ok (.iload 9, 2) := by decide +kernel
theorem dX2_riseLot_85 : decode cX2_riseLot 85 = .ok (.iload 4, 2) := by decide +kernel
theorem dX2_riseLot_87 : decode cX2_riseLot 87 = .ok (.if_icmp .ge 6, 3) := by decide +kernel
theorem dX2_riseLot_90 : decode cX2_riseLot 90 = .ok (.goto 34, 3) := by decide +kernel
theorem dX2_riseLot_93 : decode cX2_riseLot 93 = .ok (.iload 9, 2) := by decide +kernel
theorem dX2_riseLot_95 : decode cX2_riseLot 95 = .ok (.iload 6, 2) := by decide +kernel
theorem dX2_riseLot_97 : decode cX2_riseLot 97 = .ok (.if_icmp .le 18, 3) := by decide +kernel
theorem dX2_riseLot_100 : decode cX2_riseLot 100 = .ok (.iload 6, 2) := by decide +kernel
theorem dX2_riseLot_102 : decode cX2_riseLot 102 = .ok (.istore 7, 2) := by decide +kernel
theorem dX2_riseLot_104 : decode cX2_riseLot 104 = .ok (.iload 9, 2) := by decide +kernel
theorem dX2_riseLot_106 : decode cX2_riseLot 106 = .ok (.istore 6, 2) := by decide +kernel
theorem dX2_riseLot_108 : decode cX2_riseLot 108 = .ok (.iload 8, 2) := by decide +kernel
theorem dX2_riseLot_110 : decode cX2_riseLot 110 = .ok (.istore 5, 2) := by decide +kernel
theorem dX2_riseLot_112 : decode cX2_riseLot 112 = .ok (.goto 12, 3) := by decide +kernel
theorem dX2_riseLot_115 : decode cX2_riseLot 115 = .ok (.iload 7, 2) := by decide +kernel
theorem dX2_riseLot_117 : decode cX2_riseLot 117 = .ok (.iload 9, 2) := by decide +kernel
theorem dX2_riseLot_119 : decode cX2_riseLot 119 = .ok (.invokestatic 116, 3) := by decide +kernel
theorem dX2_riseLot_122 : decode cX2_riseLot 122 = .ok (.istore 7, 2) := by decide +kernel
theorem dX2_riseLot_124 : decode cX2_riseLot 124 = .ok (.iinc 8 1, 3) := by decide +kernel
theorem dX2_riseLot_127 : decode cX2_riseLot 127 = .ok (.goto (-83), 3) := by decide +kernel
theorem dX2_riseLot_130 : decode cX2_riseLot 130 = .ok (.aload_n 0, 1) := by decide +kernel
theorem dX2_riseLot_131 : decode cX2_riseLot 131 = .ok (.getfield 37, 3) := by decide +kernel
theorem dX2_riseLot_134 : decode cX2_riseLot 134 = .ok (.iload_n 2, 1) := by decide +kernel
theorem dX2_riseLot_135 : decode cX2_riseLot 135 = .ok (.iload 5, 2) := by decide +kernel
theorem dX2_riseLot_137 : decode cX2_riseLot 137 = .ok (.iastore, 1) := by decide +kernel
theorem dX2_riseLot_138 : decode cX2_riseLot 138 = .ok (.aload_n 0, 1) := by decide +kernel
theorem dX2_riseLot_139 : decode cX2_riseLot 139 = .ok (.getfield 40, 3) := by decide +kernel
theorem dX2_riseLot_142 : decode cX2_riseLot 142 = .ok (.iload_n 2, 1) := by decide +kernel
theorem dX2_riseLot_143 : decode cX2_riseLot 143 = .ok (.iload 4, 2) := by decide +kernel
theorem dX2_riseLot_145 : decode cX2_riseLot 145 = .ok (.iastore, 1) := by decide +kernel
theorem dX2_riseLot_146 : decode cX2_riseLot 146 = .ok (.iload 5, 2) := by decide +kernel
theorem dX2_riseLot_148 : decode cX2_riseLot 148 = .ok (.ifCond .lt 44, 3) := by decide +kernel
theorem dX2_riseLot_151 : decode cX2_riseLot 151 = .ok (.iload 5, 2) := by decide +kernel
theorem dX2_riseLot_153 : decode cX2_riseLot 153 = .ok (.iconst 5, 1) := by decide +kernel
theorem dX2_riseLot_154 : decode cX2_riseLot 154 = .ok (.if_icmp .ge 38, 3) := by decide +kernel
theorem dX2_riseLot_157 : decode cX2_riseLot 157 = .ok (.iload 7, 2) := by decide +kernel
theorem dX2_riseLot_159 : decode cX2_riseLot 159 = .ok (.ifCond .lt 33, 3) := by decide +kernel
theorem dX2_riseLot_162 : decode cX2_riseLot 162 = .ok (.aload_n 0, 1) := by decide +kernel
theorem dX2_riseLot_163 : decode cX2_riseLot 163 = .ok (.getfield 40, 3) := by decide +kernel
theorem dX2_riseLot_166 : decode cX2_riseLot 166 = .ok (.iload_n 2, 1) := by decide +kernel
theorem dX2_riseLot_167 : decode cX2_riseLot 167 = .ok (.iload 4, 2) := by decide +kernel
theorem dX2_riseLot_169 : decode cX2_riseLot 169 = .ok (.iload 7, 2) := by decide +kernel
theorem dX2_riseLot_171 : decode cX2_riseLot 171 = .ok (.iconst 1, 1) := by decide +kernel
theorem dX2_riseLot_172 : decode cX2_riseLot 172 = .ok (.iadd, 1) := by decide +kernel
theorem dX2_riseLot_173 : decode cX2_riseLot 173 = .ok (.invokestatic 116, 3) := by decide +kernel
theorem dX2_riseLot_176 : decode cX2_riseLot 176 = .ok (.iload 6, 2) := by decide +kernel
theorem dX2_riseLot_178 : decode cX2_riseLot 178 = .ok (.aload_n 0, 1) := by decide +kernel
theorem dX2_riseLot_179 : decode cX2_riseLot 179 = .ok (.getfield 27, 3) := by decide +kernel
theorem dX2_riseLot_182 : decode cX2_riseLot 182 = .ok (.iload 5, 2) := by decide +kernel
theorem dX2_riseLot_184 : decode cX2_riseLot 184 = .ok (.iaload, 1) := by decide +kernel
theorem dX2_riseLot_185 : decode cX2_riseLot 185 = .ok (.invokestatic 131, 3) := by decide +kernel
theorem dX2_riseLot_188 : decode cX2_riseLot 188 = .ok (.invokestatic 131, 3) := by decide +kernel
theorem dX2_riseLot_191 : decode cX2_riseLot 191 = .ok (.iastore, 1) := by decide +kernel
theorem dX2_riseLot_192 : decode cX2_riseLot 192 = .ok (.return_, 1) := by decide +kernel
theorem dX2_openSealed_0 : decode cX2_openSealed 0 = .ok (.iload_n 2, 1) := by decide +kernel
theorem dX2_openSealed_1 : decode cX2_openSealed 1 = .ok (.ifCond .lt 9, 3) := by decide +kernel
theorem dX2_openSealed_4 : decode cX2_openSealed 4 = .ok (.iload_n 2, 1) := by decide +kernel
theorem dX2_openSealed_5 : decode cX2_openSealed 5 = .ok (.bipush 6, 2) := by decide +kernel
theorem dX2_openSealed_7 : decode cX2_openSealed 7 = .ok (.if_icmp .lt 4, 3) := by decide +kernel
theorem dX2_openSealed_10 : decode cX2_openSealed 10 = .ok (.return_, 1) := by decide +kernel
theorem dX2_openSealed_11 : decode cX2_openSealed 11 = .ok (.aload_n 0, 1) := by decide +kernel
theorem dX2_openSealed_12 : decode cX2_openSealed 12 = .ok (.aload_n 1, 1) := by decide +kernel
theorem dX2_openSealed_13 : decode cX2_openSealed 13 = .ok (.aload_n 1, 1) := by decide +kernel
theorem dX2_openSealed_14 : decode cX2_openSealed 14 = .ok (.getfield 97, 3) := by decide +kernel
theorem dX2_openSealed_17 : decode cX2_openSealed 17 = .ok (.iload_n 2, 1) := by decide +kernel
theorem dX2_openSealed_18 : decode cX2_openSealed 18 = .ok (.iaload, 1) := by decide +kernel
theorem dX2_openSealed_19 : decode cX2_openSealed 19 = .ok (.invokevirtual 100, 3) := by decide +kernel
theorem dX2_openSealed_22 : decode cX2_openSealed 22 = .ok (.aload_n 0, 1) := by decide +kernel
theorem dX2_openSealed_23 : decode cX2_openSealed 23 = .ok (.getfield 37, 3) := by decide +kernel
theorem dX2_openSealed_26 : decode cX2_openSealed 26 = .ok (.iload_n 2, 1) := by decide +kernel
theorem dX2_openSealed_27 : decode cX2_openSealed 27 = .ok (.iconst (-1), 1) := by decide +kernel
theorem dX2_openSealed_28 : decode cX2_openSealed 28 = .ok (.iastore, 1) := by decide +kernel
theorem dX2_openSealed_29 : decode cX2_openSealed 29 = .ok (.aload_n 0, 1) := by decide +kernel
theorem dX2_openSealed_30 : decode cX2_openSealed 30 = .ok (.getfield 40, 3) := by decide +kernel
theorem dX2_openSealed_33 : decode cX2_openSealed 33 = .ok (.iload_n 2, 1) := by decide +kernel
theorem dX2_openSealed_34 : decode cX2_openSealed 34 = .ok (.aload_n 1, 1) := by decide +kernel
theorem dX2_openSealed_35 : decode cX2_openSealed 35 = .ok (.getfield 107, 3) := by decide +kernel
theorem dX2_openSealed_38 : decode cX2_openSealed 38 = .ok (.iconst 2, 1) := by decide +kernel
theorem dX2_openSealed_39 : decode cX2_openSealed 39 = .ok (.iaload, 1) := by decide +kernel
theorem dX2_openSealed_40 : decode cX2_openSealed 40 = .ok (.iastore, 1) := by decide +kernel
theorem dX2_openSealed_41 : decode cX2_openSealed 41 = .ok (.iconst 0, 1) := by decide +kernel
theorem dX2_openSealed_42 : decode cX2_openSealed 42 = .ok (.istore_n 3, 1) := by decide +kernel
theorem dX2_openSealed_43 : decode cX2_openSealed 43 = .ok (.iload_n 3, 1) := by decide +kernel
theorem dX2_openSealed_44 : decode cX2_openSealed 44 = .ok (.iconst 5, 1) := by decide +kernel
theorem dX2_openSealed_45 : decode cX2_openSealed 45 = .ok (.if_icmp .ge 113, 3) := by decide +kernel
theorem dX2_openSealed_48 : decode cX2_openSealed 48 = .ok (.aload_n 0, 1) := by decide +kernel
theorem dX2_openSealed_49 : decode cX2_openSealed 49 = .ok (.getfield 37, 3) := by decide +kernel
theorem dX2_openSealed_52 : decode cX2_openSealed 52 = .ok (.iload_n 2, 1) := by decide +kernel
theorem dX2_openSealed_53 : decode cX2_openSealed 53 = .ok (.iaload, 1) := by decide +kernel
theorem dX2_openSealed_54 : decode cX2_openSealed 54 = .ok (.ifCond .ge 26, 3) := by decide +kernel
theorem dX2_openSealed_57 : decode cX2_openSealed 57 = .ok (.aload_n 0, 1) := by decide +kernel
theorem dX2_openSealed_58 : decode cX2_openSealed 58 = .ok (.getfield 24, 3) := by decide +kernel
theorem dX2_openSealed_61 : decode cX2_openSealed 61 = .ok (.iload_n 3, 1) := by decide +kernel
theorem dX2_openSealed_62 : decode cX2_openSealed 62 = .ok (.iaload, 1) := by decide +kernel
theorem dX2_openSealed_63 : decode cX2_openSealed 63 = .ok (.aload_n 0, 1) := by decide +kernel
theorem dX2_openSealed_64 : decode cX2_openSealed 64 = .ok (.getfield 40, 3) := by decide +kernel
theorem dX2_openSealed_67 : decode cX2_openSealed 67 = .ok (.iload_n 2, 1) := by decide +kernel
theorem dX2_openSealed_68 : decode cX2_openSealed 68 = .ok (.iaload, 1) := by decide +kernel
theorem dX2_openSealed_69 : decode cX2_openSealed 69 = .ok (.if_icmp .lt 7, 3) := by decide +kernel
theorem dX2_openSealed_72 : decode cX2_openSealed 72 = .ok (.iconst 1, 1) := by decide +kernel
theorem dX2_openSealed_73 : decode cX2_openSealed 73 = .ok (.goto 27, 3) := by decide +kernel
theorem dX2_openSealed_76 : decode cX2_openSealed 76 = .ok (.iconst 0, 1) := by decide +kernel
theorem dX2_openSealed_77 : decode cX2_openSealed 77 = .ok (.goto 23, 3) := by decide +kernel
theorem dX2_openSealed_80 : decode cX2_openSealed 80 = .ok (.aload_n 0, 1) := by decide +kernel
theorem dX2_openSealed_81 : decode cX2_openSealed 81 = .ok (.getfield 24, 3) := by decide +kernel
theorem dX2_openSealed_84 : decode cX2_openSealed 84 = .ok (.iload_n 3, 1) := by decide +kernel
theorem dX2_openSealed_85 : decode cX2_openSealed 85 = .ok (.iaload, 1) := by decide +kernel
theorem dX2_openSealed_86 : decode cX2_openSealed 86 = .ok (.aload_n 0, 1) := by decide +kernel
theorem dX2_openSealed_87 : decode cX2_openSealed 87 = .ok (.getfield 40, 3) := by decide +kernel
theorem dX2_openSealed_90 : decode cX2_openSealed 90 = .ok (.iload_n 2, 1) := by decide +kernel
theorem dX2_openSealed_91 : decode cX2_openSealed 91 = .ok (.iaload, 1) := by decide +kernel
theorem dX2_openSealed_92 : decode cX2_openSealed 92 = .ok (.if_icmp .le 7, 3) := by decide +kernel
theorem dX2_openSealed_95 : decode cX2_openSealed 95 = .ok (.iconst 1, 1) := by decide +kernel
theorem dX2_openSealed_96 : decode cX2_openSealed 96 = .ok (.goto 4, 3) := by decide +kernel
theorem dX2_openSealed_99 : decode cX2_openSealed 99 = .ok (.iconst 0, 1) := by decide +kernel
theorem dX2_openSealed_100 : decode cX2_openSealed 100 = .ok (.istore 4, 2) := by decide +kernel
theorem dX2_openSealed_102 : decode cX2_openSealed 102 = .ok (.aload_n 0, 1) := by decide +kernel
theorem dX2_openSealed_103 : decode cX2_openSealed 103 = .ok (.getfield 30, 3) := by decide +kernel
theorem dX2_openSealed_106 : decode cX2_openSealed 106 = .ok (.iload_n 3, 1) := by decide +kernel
theorem dX2_openSealed_107 : decode cX2_openSealed 107 = .ok (.invokestatic 93, 3) := by decide +kernel
theorem dX2_openSealed_110 : decode cX2_openSealed 110 = .ok (.ifCond .eq 42, 3) := by decide +kernel
theorem dX2_openSealed_113 : decode cX2_openSealed 113 = .ok (.iload 4, 2) := by decide +kernel
theorem dX2_openSealed_115 : decode cX2_openSealed 115 = .ok (.ifCond .eq 37, 3) := by decide +kernel
theorem dX2_openSealed_118 : decode cX2_openSealed 118 = .ok (.aload_n 0, 1) := by decide +kernel
theorem dX2_openSealed_119 : decode cX2_openSealed 119 = .ok (.getfield 27, 3) := by decide +kernel
theorem dX2_openSealed_122 : decode cX2_openSealed 122 = .ok (.iload_n 3, 1) := by decide +kernel
theorem dX2_openSealed_123 : decode cX2_openSealed 123 = .ok (.iaload, 1) := by decide +kernel
theorem dX2_openSealed_124 : decode cX2_openSealed 124 = .ok (.aload_n 0, 1) := by decide +kernel
theorem dX2_openSealed_125 : decode cX2_openSealed 125 = .ok (.getfield 24, 3) := by decide +kernel
theorem dX2_openSealed_128 : decode cX2_openSealed 128 = .ok (.iload_n 3, 1) := by decide +kernel
theorem dX2_openSealed_129 : decode cX2_openSealed 129 = .ok (.iaload, 1) := by decide +kernel
theorem dX2_openSealed_130 : decode cX2_openSealed 130 = .ok (.if_icmp .lt 22, 3) := by decide +kernel
theorem dX2_openSealed_133 : decode cX2_openSealed 133 = .ok (.aload_n 0, 1) := by decide +kernel
theorem dX2_openSealed_134 : decode cX2_openSealed 134 = .ok (.getfield 37, 3) := by decide +kernel
theorem dX2_openSealed_137 : decode cX2_openSealed 137 = .ok (.iload_n 2, 1) := by decide +kernel
theorem dX2_openSealed_138 : decode cX2_openSealed 138 = .ok (.iload_n 3, 1) := by decide +kernel
theorem dX2_openSealed_139 : decode cX2_openSealed 139 = .ok (.iastore, 1) := by decide +kernel
theorem dX2_openSealed_140 : decode cX2_openSealed 140 = .ok (.aload_n 0, 1) := by decide +kernel
theorem dX2_openSealed_141 : decode cX2_openSealed 141 = .ok (.getfield 40, 3) := by decide +kernel
theorem dX2_openSealed_144 : decode cX2_openSealed 144 = .ok (.iload_n 2, 1) := by decide +kernel
theorem dX2_openSealed_145 : decode cX2_openSealed 145 = .ok (.aload_n 0, 1) := by decide +kernel
theorem dX2_openSealed_146 : decode cX2_openSealed 146 = .ok (.getfield 24, 3) := by decide +kernel
theorem dX2_openSealed_149 : decode cX2_openSealed 149 = .ok (.iload_n 3, 1) := by decide +kernel
theorem dX2_openSealed_150 : decode cX2_openSealed 150 = .ok (.iaload, 1) := by decide +kernel
theorem dX2_openSealed_151 : decode cX2_openSealed 151 = .ok (.iastore, 1) := by decide +kernel
theorem dX2_openSealed_152 : decode cX2_openSealed 152 = .ok (.iinc 3 1, 3) := by decide +kernel
theorem dX2_openSealed_155 : decode cX2_openSealed 155 = .ok (.goto (-112), 3) := by decide +kernel
theorem dX2_openSealed_158 : decode cX2_openSealed 158 = .ok (.return_, 1) := by decide +kernel
theorem dX2_ready_0 : decode cX2_ready 0 = .ok (.aload_n 0, 1) := by decide +kernel
theorem dX2_ready_1 : decode cX2_ready 1 = .ok (.iconst 0, 1) := by decide +kernel
theorem dX2_ready_2 : decode cX2_ready 2 = .ok (.putfield 30, 3) := by decide +kernel
theorem dX2_ready_5 : decode cX2_ready 5 = .ok (.aload_n 0, 1) := by decide +kernel
theorem dX2_ready_6 : decode cX2_ready 6 = .ok (.iconst 0, 1) := by decide +kernel
theorem dX2_ready_7 : decode cX2_ready 7 = .ok (.putfield 34, 3) := by decide +kernel
theorem dX2_ready_10 : decode cX2_ready 10 = .ok (.iconst 0, 1) := by decide +kernel
theorem dX2_ready_11 : decode cX2_ready 11 = .ok (.istore_n 3, 1) := by decide +kernel
theorem dX2_ready_12 : decode cX2_ready 12 = .ok (.iload_n 3, 1) := by decide +kernel
theorem dX2_ready_13 : decode cX2_ready 13 = .ok (.iconst 5, 1) := by decide +kernel
theorem dX2_ready_14 : decode cX2_ready 14 = .ok (.if_icmp .ge 105, 3) := by decide +kernel
theorem dX2_ready_17 : decode cX2_ready 17 = .ok (.iload_n 3, 1) := by decide +kernel
theorem dX2_ready_18 : decode cX2_ready 18 = .ok (.aload_n 1, 1) := by decide +kernel
theorem dX2_ready_19 : decode cX2_ready 19 = .ok (.getfield 140, 3) := by decide +kernel
theorem dX2_ready_22 : decode cX2_ready 22 = .ok (.if_icmp .ge 97, 3) := by decide +kernel
theorem dX2_ready_25 : decode cX2_ready 25 = .ok (.aload_n 1, 1) := by decide +kernel
theorem dX2_ready_26 : decode cX2_ready 26 = .ok (.getfield 134, 3) := by decide +kernel
theorem dX2_ready_29 : decode cX2_ready 29 = .ok (.iload_n 3, 1) := by decide +kernel
theorem dX2_ready_30 : decode cX2_ready 30 = .ok (.iaload, 1) := by decide +kernel
theorem dX2_ready_31 : decode cX2_ready 31 = .ok (.istore 4, 2) := by decide +kernel
theorem dX2_ready_33 : decode cX2_ready 33 = .ok (.aload_n 0, 1) := by decide +kernel
theorem dX2_ready_34 : decode cX2_ready 34 = .ok (.getfield 18, 3) := by decide +kernel
theorem dX2_ready_37 : decode cX2_ready 37 = .ok (.iload_n 3, 1) := by decide +kernel
theorem dX2_ready_38 : decode cX2_ready 38 = .ok (.iaload, 1) := by decide +kernel
theorem dX2_ready_39 : decode cX2_ready 39 = .ok (.iload 4, 2) := by decide +kernel
theorem dX2_ready_41 : decode cX2_ready 41 = .ok (.iconst 2, 1) := by decide +kernel
theorem dX2_ready_42 : decode cX2_ready 42 = .ok (.if_icmp .ne 7, 3) := by decide +kernel
theorem dX2_ready_45 : decode cX2_ready 45 = .ok (.iconst 2, 1) := by decide +kernel
theorem dX2_ready_46 : decode cX2_ready 46 = .ok (.goto 4, 3) := by decide +kernel
theorem dX2_ready_49 : decode cX2_ready 49 = .ok (.iconst 1, 1) := by decide +kernel
theorem dX2_ready_50 : decode cX2_ready 50 = .ok (.if_icmp .ge 15, 3) := by decide +kernel
theorem dX2_ready_53 : decode cX2_ready 53 = .ok (.aload_n 0, 1) := by decide +kernel
theorem dX2_ready_54 : decode cX2_ready 54 = .ok (.dup, 1) := by decide +kernel
theorem dX2_ready_55 : decode cX2_ready 55 = .ok (.getfield 30, 3) := by decide +kernel
theorem dX2_ready_58 : decode cX2_ready 58 = .ok (.iconst 1, 1) := by decide +kernel
theorem dX2_ready_59 : decode cX2_ready 59 = .ok (.iload_n 3, 1) := by decide +kernel
theorem dX2_ready_60 : decode cX2_ready 60 = .ok (.ishl, 1) := by decide +kernel
theorem dX2_ready_61 : decode cX2_ready 61 = .ok (.ior, 1) := by decide +kernel
theorem dX2_ready_62 : decode cX2_ready 62 = .ok (.putfield 30, 3) := by decide +kernel
theorem dX2_ready_65 : decode cX2_ready 65 = .ok (.aload_n 0, 1) := by decide +kernel
theorem dX2_ready_66 : decode cX2_ready 66 = .ok (.getfield 24, 3) := by decide +kernel
theorem dX2_ready_69 : decode cX2_ready 69 = .ok (.iload_n 3, 1) := by decide +kernel
theorem dX2_ready_70 : decode cX2_ready 70 = .ok (.aload_n 1, 1) := by decide +kernel
theorem dX2_ready_71 : decode cX2_ready 71 = .ok (.iload_n 3, 1) := by decide +kernel
theorem dX2_ready_72 : decode cX2_ready 72 = .ok (.iload_n 2, 1) := by decide +kernel
theorem dX2_ready_73 : decode cX2_ready 73 = .ok (.invokevirtual 137, 3) := by decide +kernel
theorem dX2_ready_76 : decode cX2_ready 76 = .ok (.aload_n 0, 1) := by decide +kernel
theorem dX2_ready_77 : decode cX2_ready 77 = .ok (.aload_n 1, 1) := by decide +kernel
theorem dX2_ready_78 : decode cX2_ready 78 = .ok (.iload_n 3, 1) := by decide +kernel
theorem dX2_ready_79 : decode cX2_ready 79 = .ok (.invokevirtual 143, 3) := by decide +kernel
theorem dX2_ready_82 : decode cX2_ready 82 = .ok (.isub, 1) := by decide +kernel
theorem dX2_ready_83 : decode cX2_ready 83 = .ok (.iastore, 1) := by decide +kernel
theorem dX2_ready_84 : decode cX2_ready 84 = .ok (.aload_n 0, 1) := by decide +kernel
theorem dX2_ready_85 : decode cX2_ready 85 = .ok (.getfield 27, 3) := by decide +kernel
theorem dX2_ready_88 : decode cX2_ready 88 = .ok (.iload_n 3, 1) := by decide +kernel
theorem dX2_ready_89 : decode cX2_ready 89 = .ok (.aload_n 0, 1) := by decide +kernel
theorem dX2_ready_90 : decode cX2_ready 90 = .ok (.getfield 15, 3) := by decide +kernel
theorem dX2_ready_93 : decode cX2_ready 93 = .ok (.iload_n 3, 1) := by decide +kernel
theorem dX2_ready_94 : decode cX2_ready 94 = .ok (.iaload, 1) := by decide +kernel
theorem dX2_ready_95 : decode cX2_ready 95 = .ok (.iload 4, 2) := by decide +kernel
theorem dX2_ready_97 : decode cX2_ready 97 = .ok (.iconst 4, 1) := by decide +kernel
theorem dX2_ready_98 : decode cX2_ready 98 = .ok (.if_icmp .ne 12, 3) := by decide +kernel
theorem dX2_ready_101 : decode cX2_ready 101 = .ok (.aload_n 1, 1) := by decide +kernel
theorem dX2_ready_102 : decode cX2_ready 102 = .ok (.getfield 107, 3) := by decide +kernel
theorem dX2_ready_105 : decode cX2_ready 105 = .ok (.iconst 4, 1) := by decide +kernel
theorem dX2_ready_106 : decode cX2_ready 106 = .ok (.iaload, 1) := by decide +kernel
theorem dX2_ready_107 : decode cX2_ready 107 = .ok (.goto 4, 3) := by decide +kernel
theorem dX2_ready_110 : decode cX2_ready 110 = .ok (.iconst 0, 1) := by decide +kernel
theorem dX2_ready_111 : decode cX2_ready 111 = .ok (.iadd, 1) := by decide +kernel
theorem dX2_ready_112 : decode cX2_ready 112 = .ok (.iastore, 1) := by decide +kernel
theorem dX2_ready_113 : decode cX2_ready 113 = .ok (.iinc 3 1, 3) := by decide +kernel
theorem dX2_ready_116 : decode cX2_ready 116 = .ok (.goto (-104), 3) := by decide +kernel
theorem dX2_ready_119 : decode cX2_ready 119 = .ok (.return_, 1) := by decide +kernel
theorem dX2_charge_0 : decode cX2_charge 0 = .ok (.aload_n 1, 1) := by decide +kernel
theorem dX2_charge_1 : decode cX2_charge 1 = .ok (.getfield 134, 3) := by decide +kernel
theorem dX2_charge_4 : decode cX2_charge 4 = .ok (.iload_n 2, 1) := by decide +kernel
theorem dX2_charge_5 : decode cX2_charge 5 = .ok (.iaload, 1) := by decide +kernel
theorem dX2_charge_6 : decode cX2_charge 6 = .ok (.iconst 3, 1) := by decide +kernel
theorem dX2_charge_7 : decode cX2_charge 7 = .ok (.if_icmp .ne 14, 3) := by decide +kernel
theorem dX2_charge_10 : decode cX2_charge 10 = .ok (.aload_n 0, 1) := by decide +kernel
theorem dX2_charge_11 : decode cX2_charge 11 = .ok (.getfield 9, 3) := by decide +kernel
theorem dX2_charge_14 : decode cX2_charge 14 = .ok (.iload_n 2, 1) := by decide +kernel
theorem dX2_charge_15 : decode cX2_charge 15 = .ok (.iaload, 1) := by decide +kernel
theorem dX2_charge_16 : decode cX2_charge 16 = .ok (.iconst 2, 1) := by decide +kernel
theorem dX2_charge_17 : decode cX2_charge 17 = .ok (.idiv, 1) := by decide +kernel
theorem dX2_charge_18 : decode cX2_charge 18 = .ok (.goto 9, 3) := by decide +kernel
theorem dX2_charge_21 : decode cX2_charge 21 = .ok (.aload_n 0, 1) := by decide +kernel
theorem dX2_charge_22 : decode cX2_charge 22 = .ok (.getfield 9, 3) := by decide +kernel
theorem dX2_charge_25 : decode cX2_charge 25 = .ok (.iload_n 2, 1) := by decide +kernel
theorem dX2_charge_26 : decode cX2_charge 26 = .ok (.iaload, 1) := by decide +kernel
theorem dX2_charge_27 : decode cX2_charge 27 = .ok (.ireturn, 1) := by decide +kernel
theorem dX2_silentOf_0 : decode cX2_silentOf 0 = .ok (.iconst (-1), 1) := by decide +kernel
theorem dX2_silentOf_1 : decode cX2_silentOf 1 = .ok (.istore 4, 2) := by decide +kernel
theorem dX2_silentOf_3 : decode cX2_silentOf 3 = .ok (.iconst (-1), 1) := by decide +kernel
theorem dX2_silentOf_4 : decode cX2_silentOf 4 = .ok (.istore 5, 2) := by decide +kernel
theorem dX2_silentOf_6 : decode cX2_silentOf 6 = .ok (.iconst 0, 1) := by decide +kernel
theorem dX2_silentOf_7 : decode cX2_silentOf 7 = .ok (.istore 6, 2) := by decide +kernel
theorem dX2_silentOf_9 : decode cX2_silentOf 9 = .ok (.iload_n 3, 1) := by decide +kernel
theorem dX2_silentOf_10 : decode cX2_silentOf 10 = .ok (.ifCond .eq 61, 3) := by decide +kernel
theorem dX2_silentOf_13 : decode cX2_silentOf 13 = .ok (.iload 6, 2) := by decide +kernel
theorem dX2_silentOf_15 : decode cX2_silentOf 15 = .ok (.iconst 5, 1) := by decide +kernel
theorem dX2_silentOf_16 : decode cX2_silentOf 16 = .ok (.if_icmp .ge 55, 3) := by decide +kernel
theorem dX2_silentOf_19 : decode cX2_silentOf 19 = .ok (.iload_n 3, 1) := by decide +kernel
theorem dX2_silentOf_20 : decode cX2_silentOf 20 = .ok (.iload 6, 2) := by decide +kernel
theorem dX2_silentOf_22 : decode cX2_silentOf 22 = .ok (.invokestatic 93, 3) := by decide +kernel
theorem dX2_silentOf_25 : decode cX2_silentOf 25 = .ok (.ifCond .eq 40, 3) := by decide +kernel
theorem dX2_silentOf_28 : decode cX2_silentOf 28 = .ok (.aload_n 0, 1) := by decide +kernel
theorem dX2_silentOf_29 : decode cX2_silentOf 29 = .ok (.getfield 30, 3) := by decide +kernel
theorem dX2_silentOf_32 : decode cX2_silentOf 32 = .ok (.iload 6, 2) := by decide +kernel
theorem dX2_silentOf_34 : decode cX2_silentOf 34 = .ok (.invokestatic 93, 3) := by decide +kernel
theorem dX2_silentOf_37 : decode cX2_silentOf 37 = .ok (.ifCond .eq 28, 3) := by decide +kernel
theorem dX2_silentOf_40 : decode cX2_silentOf 40 = .ok (.aload_n 1, 1) := by decide +kernel
theorem dX2_silentOf_41 : decode cX2_silentOf 41 = .ok (.iload 6, 2) := by decide +kernel
theorem dX2_silentOf_43 : decode cX2_silentOf 43 = .ok (.iload_n 2, 1) := by decide +kernel
theorem dX2_silentOf_44 : decode cX2_silentOf 44 = .ok (.invokevirtual 137, 3) := by decide +kernel
theorem dX2_silentOf_47 : decode cX2_silentOf 47 = .ok (.iload 5, 2) := by decide +kernel
theorem dX2_silentOf_49 : decode cX2_silentOf 49 = .ok (.if_icmp .le 16, 3) := by decide +kernel
theorem dX2_silentOf_52 : decode cX2_silentOf 52 = .ok (.iload 6, 2) := by decide +kernel
theorem dX2_silentOf_54 : decode cX2_silentOf 54 = .ok (.istore 4, 2) := by decide +kernel
theorem dX2_silentOf_56 : decode cX2_silentOf 56 = .ok (.aload_n 1, 1) := by decide +kernel
theorem dX2_silentOf_57 : decode cX2_silentOf 57 = .ok (.iload 6, 2) := by decide +kernel
theorem dX2_silentOf_59 : decode cX2_silentOf 59 = .ok (.iload_n 2, 1) := by decide +kernel
theorem dX2_silentOf_60 : decode cX2_silentOf 60 = .ok (.invokevirtual 137, 3) := by decide +kernel
theorem dX2_silentOf_63 : decode cX2_silentOf 63 = .ok (.istore 5, 2) := by decide +kernel
theorem dX2_silentOf_65 : decode cX2_silentOf 65 = .ok (.iinc 6 1, 3) := by decide +kernel
theorem dX2_silentOf_68 : decode cX2_silentOf 68 = .ok (.goto (-59), 3) := by decide +kernel
theorem dX2_silentOf_71 : decode cX2_silentOf 71 = .ok (.iload 4, 2) := by decide +kernel
theorem dX2_silentOf_73 : decode cX2_silentOf 73 = .ok (.ifCond .ge 7, 3) := by decide +kernel
theorem dX2_silentOf_76 : decode cX2_silentOf 76 = .ok (.iload_n 3, 1) := by decide +kernel
theorem dX2_silentOf_77 : decode cX2_silentOf 77 = .ok (.goto 11, 3) := by decide +kernel
theorem dX2_silentOf_80 : decode cX2_silentOf 80 = .ok (.iload_n 3, 1) := by decide +kernel
theorem dX2_silentOf_81 : decode cX2_silentOf 81 = .ok (.iconst 1, 1) := by decide +kernel
theorem dX2_silentOf_82 : decode cX2_silentOf 82 = .ok (.iload 4, 2) := by decide +kernel
theorem dX2_silentOf_84 : decode cX2_silentOf 84 = .ok (.ishl, 1) := by decide +kernel
theorem dX2_silentOf_85 : decode cX2_silentOf 85 = .ok (.iconst (-1), 1) := by decide +kernel
theorem dX2_silentOf_86 : decode cX2_silentOf 86 = .ok (.ixor, 1) := by decide +kernel
theorem dX2_silentOf_87 : decode cX2_silentOf 87 = .ok (.iand, 1) := by decide +kernel
theorem dX2_silentOf_88 : decode cX2_silentOf 88 = .ok (.ireturn, 1) := by decide +kernel
theorem dX2_hear_0 : decode cX2_hear 0 = .ok (.iload_n 2, 1) := by decide +kernel
theorem dX2_hear_1 : decode cX2_hear 1 = .ok (.ifCond .lt 18, 3) := by decide +kernel
theorem dX2_hear_4 : decode cX2_hear 4 = .ok (.iload_n 2, 1) := by decide +kernel
theorem dX2_hear_5 : decode cX2_hear 5 = .ok (.bipush 6, 2) := by decide +kernel
theorem dX2_hear_7 : decode cX2_hear 7 = .ok (.if_icmp .ge 12, 3) := by decide +kernel
theorem dX2_hear_10 : decode cX2_hear 10 = .ok (.aload_n 0, 1) := by decide +kernel
theorem dX2_hear_11 : decode cX2_hear 11 = .ok (.getfield 43, 3) := by decide +kernel
theorem dX2_hear_14 : decode cX2_hear 14 = .ok (.iload_n 2, 1) := by decide +kernel
theorem dX2_hear_15 : decode cX2_hear 15 = .ok (.iaload, 1) := by decide +kernel
theorem dX2_hear_16 : decode cX2_hear 16 = .ok (.ifCond .ge 4, 3) := by decide +kernel
theorem dX2_hear_19 : decode cX2_hear 19 = .ok (.return_, 1) := by decide +kernel
theorem dX2_hear_20 : decode cX2_hear 20 = .ok (.iconst 0, 1) := by decide +kernel
theorem dX2_hear_21 : decode cX2_hear 21 = .ok (.istore_n 3, 1) := by decide +kernel
theorem dX2_hear_22 : decode cX2_hear 22 = .ok (.iload_n 3, 1) := by decide +kernel
theorem dX2_hear_23 : decode cX2_hear 23 = .ok (.iconst 5, 1) := by decide +kernel
theorem dX2_hear_24 : decode cX2_hear 24 = .ok (.if_icmp .ge 86, 3) := by decide +kernel
theorem dX2_hear_27 : decode cX2_hear 27 = .ok (.aload_n 0, 1) := by decide +kernel
theorem dX2_hear_28 : decode cX2_hear 28 = .ok (.getfield 30, 3) := by decide +kernel
theorem dX2_hear_31 : decode cX2_hear 31 = .ok (.iload_n 3, 1) := by decide +kernel
theorem dX2_hear_32 : decode cX2_hear 32 = .ok (.invokestatic 93, 3) := by decide +kernel
theorem dX2_hear_35 : decode cX2_hear 35 = .ok (.ifCond .eq 69, 3) := by decide +kernel
theorem dX2_hear_38 : decode cX2_hear 38 = .ok (.aload_n 1, 1) := by decide +kernel
theorem dX2_hear_39 : decode cX2_hear 39 = .ok (.getfield 134, 3) := by decide +kernel
theorem dX2_hear_42 : decode cX2_hear 42 = .ok (.iload_n 3, 1) := by decide +kernel
theorem dX2_hear_43 : decode cX2_hear 43 = .ok (.iaload, 1) := by decide +kernel
theorem dX2_hear_44 : decode cX2_hear 44 = .ok (.iconst 1, 1) := by decide +kernel
theorem dX2_hear_45 : decode cX2_hear 45 = .ok (.if_icmp .eq 59, 3) := by decide +kernel
theorem dX2_hear_48 : decode cX2_hear 48 = .ok (.aload_n 0, 1) := by decide +kernel
theorem dX2_hear_49 : decode cX2_hear 49 = .ok (.getfield 27, 3) := by decide +kernel
theorem dX2_hear_52 : decode cX2_hear 52 = .ok (.iload_n 3, 1) := by decide +kernel
theorem dX2_hear_53 : decode cX2_hear 53 = .ok (.iaload, 1) := by decide +kernel
theorem dX2_hear_54 : decode cX2_hear 54 = .ok (.aload_n 0, 1) := by decide +kernel
theorem dX2_hear_55 : decode cX2_hear 55 = .ok (.getfield 40, 3) := by decide +kernel
theorem dX2_hear_58 : decode cX2_hear 58 = .ok (.iload_n 2, 1) := by decide +kernel
theorem dX2_hear_59 : decode cX2_hear 59 = .ok (.iaload, 1) := by decide +kernel
theorem dX2_hear_60 : decode cX2_hear 60 = .ok (.if_icmp .lt 44, 3) := by decide +kernel
theorem dX2_hear_63 : decode cX2_hear 63 = .ok (.bipush 99, 2) := by decide +kernel
theorem dX2_hear_65 : decode cX2_hear 65 = .ok (.aload_n 0, 1) := by decide +kernel
theorem dX2_hear_66 : decode cX2_hear 66 = .ok (.getfield 40, 3) := by decide +kernel
theorem dX2_hear_69 : decode cX2_hear 69 = .ok (.iload_n 2, 1) := by decide +kernel
theorem dX2_hear_70 : decode cX2_hear 70 = .ok (.iaload, 1) := by decide +kernel
theorem dX2_hear_71 : decode cX2_hear 71 = .ok (.aload_n 0, 1) := by decide +kernel
theorem dX2_hear_72 : decode cX2_hear 72 = .ok (.aload_n 1, 1) := by decide +kernel
theorem dX2_hear_73 : decode cX2_hear 73 = .ok (.iload_n 3, 1) := by decide +kernel
theorem dX2_hear_74 : decode cX2_hear 74 = .ok (.invokevirtual 143, 3) := by decide +kernel
theorem dX2_hear_77 : decode cX2_hear 77 = .ok (.iadd, 1) := by decide +kernel
theorem dX2_hear_78 : decode cX2_hear 78 = .ok (.invokestatic 131, 3) := by decide +kernel
theorem dX2_hear_81 : decode cX2_hear 81 = .ok (.istore 4, 2) := by decide +kernel
theorem dX2_hear_83 : decode cX2_hear 83 = .ok (.aload_n 1, 1) := by decide +kernel
theorem dX2_hear_84 : decode cX2_hear 84 = .ok (.iload_n 3, 1) := by decide +kernel
theorem dX2_hear_85 : decode cX2_hear 85 = .ok (.aload_n 1, 1) := by decide +kernel
theorem dX2_hear_86 : decode cX2_hear 86 = .ok (.getfield 97, 3) := by decide +kernel
theorem dX2_hear_89 : decode cX2_hear 89 = .ok (.iload_n 2, 1) := by decide +kernel
theorem dX2_hear_90 : decode cX2_hear 90 = .ok (.iaload, 1) := by decide +kernel
theorem dX2_hear_91 : decode cX2_hear 91 = .ok (.iload 4, 2) := by decide +kernel
theorem dX2_hear_93 : decode cX2_hear 93 = .ok (.aload_n 0, 1) := by decide +kernel
theorem dX2_hear_94 : decode cX2_hear 94 = .ok (.getfield 34, 3) := by decide +kernel
theorem dX2_hear_97 : decode cX2_hear 97 = .ok (.iload_n 3, 1) := by decide +kernel
theorem dX2_hear_98 : decode cX2_hear 98 = .ok (.invokestatic 93, 3) := by decide +kernel
theorem dX2_hear_101 : decode cX2_hear 101 = .ok (.invokevirtual 146, 3) := by decide +kernel
theorem dX2_hear_104 : decode cX2_hear 104 = .ok (.iinc 3 1, 3) := by decide +kernel
theorem dX2_hear_107 : decode cX2_hear 107 = .ok (.goto (-85), 3) := by decide +kernel
theorem dX2_hear_110 : decode cX2_hear 110 = .ok (.return_, 1) := by decide +kernel
theorem dX2_settle_0 : decode cX2_settle 0 = .ok (.iload_n 2, 1) := by decide +kernel
theorem dX2_settle_1 : decode cX2_settle 1 = .ok (.ifCond .lt 28, 3) := by decide +kernel
theorem dX2_settle_4 : decode cX2_settle 4 = .ok (.iload_n 2, 1) := by decide +kernel
theorem dX2_settle_5 : decode cX2_settle 5 = .ok (.bipush 6, 2) := by decide +kernel
theorem dX2_settle_7 : decode cX2_settle 7 = .ok (.if_icmp .ge 22, 3) := by decide +kernel
theorem dX2_settle_10 : decode cX2_settle 10 = .ok (.aload_n 0, 1) := by decide +kernel
theorem dX2_settle_11 : decode cX2_settle 11 = .ok (.getfield 37, 3) := by decide +kernel
theorem dX2_settle_14 : decode cX2_settle 14 = .ok (.iload_n 2, 1) := by decide +kernel
theorem dX2_settle_15 : decode cX2_settle 15 = .ok (.iaload, 1) := by decide +kernel
theorem dX2_settle_16 : decode cX2_settle 16 = .ok (.ifCond .lt 13, 3) := by decide +kernel
theorem dX2_settle_19 : decode cX2_settle 19 = .ok (.aload_n 0, 1) := by decide +kernel
theorem dX2_settle_20 : decode cX2_settle 20 = .ok (.getfield 37, 3) := by decide +kernel
theorem dX2_settle_23 : decode cX2_settle 23 = .ok (.iload_n 2, 1) := by decide +kernel
theorem dX2_settle_24 : decode cX2_settle 24 = .ok (.iaload, 1) := by decide +kernel
theorem dX2_settle_25 : decode cX2_settle 25 = .ok (.iconst 5, 1) := by decide +kernel
theorem dX2_settle_26 : decode cX2_settle 26 = .ok (.if_icmp .lt 5, 3) := by decide +kernel
theorem dX2_settle_29 : decode cX2_settle 29 = .ok (.iconst 0, 1) := by decide +kernel
theorem dX2_settle_30 : decode cX2_settle 30 = .ok (.ireturn, 1) := by decide +kernel
theorem dX2_settle_31 : decode cX2_settle 31 = .ok (.aload_n 0, 1) := by decide +kernel
theorem dX2_settle_32 : decode cX2_settle 32 = .ok (.getfield 37, 3) := by decide +kernel
theorem dX2_settle_35 : decode cX2_settle 35 = .ok (.iload_n 2, 1) := by decide +kernel
theorem dX2_settle_36 : decode cX2_settle 36 = .ok (.iaload, 1) := by decide +kernel
theorem dX2_settle_37 : decode cX2_settle 37 = .ok (.istore_n 3, 1) := by decide +kernel
theorem dX2_settle_38 : decode cX2_settle 38 = .ok (.aload_n 0, 1) := by decide +kernel
theorem dX2_settle_39 : decode cX2_settle 39 = .ok (.getfield 18, 3) := by decide +kernel
theorem dX2_settle_42 : decode cX2_settle 42 = .ok (.iload_n 3, 1) := by decide +kernel
theorem dX2_settle_43 : decode cX2_settle 43 = .ok (.dup2, 1) := by decide +kernel
theorem dX2_settle_44 : decode cX2_settle 44 = .ok (.iaload, 1) := by decide +kernel
theorem dX2_settle_45 : decode cX2_settle 45 = .ok (.iconst 1, 1) := by decide +kernel
theorem dX2_settle_46 : decode cX2_settle 46 = .ok (.iadd, 1) := by decide +kernel
theorem dX2_settle_47 : decode cX2_settle 47 = .ok (.iastore, 1) := by decide +kernel
theorem dX2_settle_48 : decode cX2_settle 48 = .ok (.aload_n 0, 1) := by decide +kernel
theorem dX2_settle_49 : decode cX2_settle 49 = .ok (.getfield 15, 3) := by decide +kernel
theorem dX2_settle_52 : decode cX2_settle 52 = .ok (.iload_n 3, 1) := by decide +kernel
theorem dX2_settle_53 : decode cX2_settle 53 = .ok (.dup2, 1) := by decide +kernel
theorem dX2_settle_54 : decode cX2_settle 54 = .ok (.iaload, 1) := by decide +kernel
theorem dX2_settle_55 : decode cX2_settle 55 = .ok (.aload_n 0, 1) := by decide +kernel
theorem dX2_settle_56 : decode cX2_settle 56 = .ok (.getfield 40, 3) := by decide +kernel
theorem dX2_settle_59 : decode cX2_settle 59 = .ok (.iload_n 2, 1) := by decide +kernel
theorem dX2_settle_60 : decode cX2_settle 60 = .ok (.iaload, 1) := by decide +kernel
theorem dX2_settle_61 : decode cX2_settle 61 = .ok (.isub, 1) := by decide +kernel
theorem dX2_settle_62 : decode cX2_settle 62 = .ok (.iastore, 1) := by decide +kernel
theorem dX2_settle_63 : decode cX2_settle 63 = .ok (.aload_n 0, 1) := by decide +kernel
theorem dX2_settle_64 : decode cX2_settle 64 = .ok (.getfield 21, 3) := by decide +kernel
theorem dX2_settle_67 : decode cX2_settle 67 = .ok (.iload_n 3, 1) := by decide +kernel
theorem dX2_settle_68 : decode cX2_settle 68 = .ok (.dup2, 1) := by decide +kernel
theorem dX2_settle_69 : decode cX2_settle 69 = .ok (.iaload, 1) := by decide +kernel
theorem dX2_settle_70 : decode cX2_settle 70 = .ok (.aload_n 1, 1) := by decide +kernel
theorem dX2_settle_71 : decode cX2_settle 71 = .ok (.iload_n 3, 1) := by decide +kernel
theorem dX2_settle_72 : decode cX2_settle 72 = .ok (.aload_n 1, 1) := by decide +kernel
theorem dX2_settle_73 : decode cX2_settle 73 = .ok (.getfield 97, 3) := by decide +kernel
theorem dX2_settle_76 : decode cX2_settle 76 = .ok (.iload_n 2, 1) := by decide +kernel
theorem dX2_settle_77 : decode cX2_settle 77 = .ok (.iaload, 1) := by decide +kernel
theorem dX2_settle_78 : decode cX2_settle 78 = .ok (.invokevirtual 137, 3) := by decide +kernel
theorem dX2_settle_81 : decode cX2_settle 81 = .ok (.aload_n 0, 1) := by decide +kernel
theorem dX2_settle_82 : decode cX2_settle 82 = .ok (.getfield 40, 3) := by decide +kernel
theorem dX2_settle_85 : decode cX2_settle 85 = .ok (.iload_n 2, 1) := by decide +kernel
theorem dX2_settle_86 : decode cX2_settle 86 = .ok (.iaload, 1) := by decide +kernel
theorem dX2_settle_87 : decode cX2_settle 87 = .ok (.isub, 1) := by decide +kernel
theorem dX2_settle_88 : decode cX2_settle 88 = .ok (.iadd, 1) := by decide +kernel
theorem dX2_settle_89 : decode cX2_settle 89 = .ok (.iastore, 1) := by decide +kernel
theorem dX2_settle_90 : decode cX2_settle 90 = .ok (.aload_n 0, 1) := by decide +kernel
theorem dX2_settle_91 : decode cX2_settle 91 = .ok (.getfield 40, 3) := by decide +kernel
theorem dX2_settle_94 : decode cX2_settle 94 = .ok (.iload_n 2, 1) := by decide +kernel
theorem dX2_settle_95 : decode cX2_settle 95 = .ok (.iaload, 1) := by decide +kernel
theorem dX2_settle_96 : decode cX2_settle 96 = .ok (.ireturn, 1) := by decide +kernel
theorem dX2_isIn_0 : decode cX2_isIn 0 = .ok (.iload_n 0, 1) := by decide +kernel
theorem dX2_isIn_1 : decode cX2_isIn 1 = .ok (.iload_n 1, 1) := by decide +kernel
theorem dX2_isIn_2 : decode cX2_isIn 2 = .ok (.ishr, 1) := by decide +kernel
theorem dX2_isIn_3 : decode cX2_isIn 3 = .ok (.iconst 1, 1) := by decide +kernel
theorem dX2_isIn_4 : decode cX2_isIn 4 = .ok (.iand, 1) := by decide +kernel
theorem dX2_isIn_5 : decode cX2_isIn 5 = .ok (.iconst 1, 1) := by decide +kernel
theorem dX2_isIn_6 : decode cX2_isIn 6 = .ok (.if_icmp .ne 7, 3) := by decide +kernel
theorem dX2_isIn_9 : decode cX2_isIn 9 = .ok (.iconst 1, 1) := by decide +kernel
theorem dX2_isIn_10 : decode cX2_isIn 10 = .ok (.goto 4, 3) := by decide +kernel
theorem dX2_isIn_13 : decode cX2_isIn 13 = .ok (.iconst 0, 1) := by decide +kernel
theorem dX2_isIn_14 : decode cX2_isIn 14 = .ok (.ireturn, 1) := by decide +kernel
theorem dX2_firstOf_0 : decode cX2_firstOf 0 = .ok (.iconst 0, 1) := by decide +kernel
theorem dX2_firstOf_1 : decode cX2_firstOf 1 = .ok (.istore_n 1, 1) := by decide +kernel
theorem dX2_firstOf_2 : decode cX2_firstOf 2 = .ok (.iload_n 1, 1) := by decide +kernel
theorem dX2_firstOf_3 : decode cX2_firstOf 3 = .ok (.iconst 5, 1) := by decide +kernel
theorem dX2_firstOf_4 : decode cX2_firstOf 4 = .ok (.if_icmp .ge 19, 3) := by decide +kernel
theorem dX2_firstOf_7 : decode cX2_firstOf 7 = .ok (.iload_n 0, 1) := by decide +kernel
theorem dX2_firstOf_8 : decode cX2_firstOf 8 = .ok (.iload_n 1, 1) := by decide +kernel
theorem dX2_firstOf_9 : decode cX2_firstOf 9 = .ok (.invokestatic 93, 3) := by decide +kernel
theorem dX2_firstOf_12 : decode cX2_firstOf 12 = .ok (.ifCond .eq 5, 3) := by decide +kernel
theorem dX2_firstOf_15 : decode cX2_firstOf 15 = .ok (.iload_n 1, 1) := by decide +kernel
theorem dX2_firstOf_16 : decode cX2_firstOf 16 = .ok (.ireturn, 1) := by decide +kernel
theorem dX2_firstOf_17 : decode cX2_firstOf 17 = .ok (.iinc 1 1, 3) := by decide +kernel
theorem dX2_firstOf_20 : decode cX2_firstOf 20 = .ok (.goto (-18), 3) := by decide +kernel
theorem dX2_firstOf_23 : decode cX2_firstOf 23 = .ok (.iconst (-1), 1) := by decide +kernel
theorem dX2_firstOf_24 : decode cX2_firstOf 24 = .ok (.ireturn, 1) := by decide +kernel

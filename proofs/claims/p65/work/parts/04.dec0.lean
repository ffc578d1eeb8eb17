theorem dX0_init_0 : decode cX0_init 0 = .ok (.aload_n 0, 1) := by decide +kernel
theorem dX0_init_1 : decode cX0_init 1 = .ok (.invokespecial 3, 3) := by decide +kernel
theorem dX0_init_4 : decode cX0_init 4 = .ok (.aload_n 0, 1) := by decide +kernel
theorem dX0_init_5 : decode cX0_init 5 = .ok (.bipush 40, 2) := by decide +kernel
theorem dX0_init_7 : decode cX0_init 7 = .ok (.newarray .int, 2) := by decide +kernel
theorem dX0_init_9 : decode cX0_init 9 = .ok (.putfield 9, 3) := by decide +kernel
theorem dX0_init_12 : decode cX0_init 12 = .ok (.return_, 1) := by decide +kernel
theorem dX0_copy_0 : decode cX0_copy 0 = .ok (.aload_n 0, 1) := by decide +kernel
theorem dX0_copy_1 : decode cX0_copy 1 = .ok (.aload_n 1, 1) := by decide +kernel
theorem dX0_copy_2 : decode cX0_copy 2 = .ok (.getfield 15, 3) := by decide +kernel
theorem dX0_copy_5 : decode cX0_copy 5 = .ok (.putfield 15, 3) := by decide +kernel
theorem dX0_copy_8 : decode cX0_copy 8 = .ok (.aload_n 1, 1) := by decide +kernel
theorem dX0_copy_9 : decode cX0_copy 9 = .ok (.getfield 9, 3) := by decide +kernel
theorem dX0_copy_12 : decode cX0_copy 12 = .ok (.iconst 0, 1) := by decide +kernel
theorem dX0_copy_13 : decode cX0_copy 13 = .ok (.aload_n 0, 1) := by decide +kernel
theorem dX0_copy_14 : decode cX0_copy 14 = .ok (.getfield 9, 3) := by decide +kernel
theorem dX0_copy_17 : decode cX0_copy 17 = .ok (.iconst 0, 1) := by decide +kernel
theorem dX0_copy_18 : decode cX0_copy 18 = .ok (.aload_n 0, 1) := by decide +kernel
theorem dX0_copy_19 : decode cX0_copy 19 = .ok (.getfield 9, 3) := by decide +kernel
theorem dX0_copy_22 : decode cX0_copy 22 = .ok (.arraylength, 1) := by decide +kernel
theorem dX0_copy_23 : decode cX0_copy 23 = .ok (.invokestatic 19, 3) := by decide +kernel
theorem dX0_copy_26 : decode cX0_copy 26 = .ok (.aload_n 0, 1) := by decide +kernel
theorem dX0_copy_27 : decode cX0_copy 27 = .ok (.aload_n 1, 1) := by decide +kernel
theorem dX0_copy_28 : decode cX0_copy 28 = .ok (.getfield 25, 3) := by decide +kernel
theorem dX0_copy_31 : decode cX0_copy 31 = .ok (.putfield 25, 3) := by decide +kernel
theorem dX0_copy_34 : decode cX0_copy 34 = .ok (.return_, 1) := by decide +kernel
theorem dX0_isHoliday_0 : decode cX0_isHoliday 0 = .ok (.aload_n 0, 1) := by decide +kernel
theorem dX0_isHoliday_1 : decode cX0_isHoliday 1 = .ok (.iload_n 1, 1) := by decide +kernel
theorem dX0_isHoliday_2 : decode cX0_isHoliday 2 = .ok (.invokevirtual 28, 3) := by decide +kernel
theorem dX0_isHoliday_5 : decode cX0_isHoliday 5 = .ok (.iconst (-1), 1) := by decide +kernel
theorem dX0_isHoliday_6 : decode cX0_isHoliday 6 = .ok (.if_icmp .eq 7, 3) := by decide +kernel
theorem dX0_isHoliday_9 : decode cX0_isHoliday 9 = .ok (.iconst 1, 1) := by decide +kernel
theorem dX0_isHoliday_10 : decode cX0_isHoliday 10 = .ok (.goto 4, 3) := by decide +kernel
theorem dX0_isHoliday_13 : decode cX0_isHoliday 13 = .ok (.iconst 0, 1) := by decide +kernel
theorem dX0_isHoliday_14 : decode cX0_isHoliday 14 = .ok (.ireturn, 1) := by decide +kernel
theorem dX0_isCourt_0 : decode cX0_isCourt 0 = .ok (.iload_n 1, 1) := by decide +kernel
theorem dX0_isCourt_1 : decode cX0_isCourt 1 = .ok (.bipush 7, 2) := by decide +kernel
theorem dX0_isCourt_3 : decode cX0_isCourt 3 = .ok (.irem, 1) := by decide +kernel
theorem dX0_isCourt_4 : decode cX0_isCourt 4 = .ok (.iconst 5, 1) := by decide +kernel
theorem dX0_isCourt_5 : decode cX0_isCourt 5 = .ok (.if_icmp .ge 16, 3) := by decide +kernel
theorem dX0_isCourt_8 : decode cX0_isCourt 8 = .ok (.aload_n 0, 1) := by decide +kernel
theorem dX0_isCourt_9 : decode cX0_isCourt 9 = .ok (.iload_n 1, 1) := by decide +kernel
theorem dX0_isCourt_10 : decode cX0_isCourt 10 = .ok (.invokevirtual 28, 3) := by decide +kernel
theorem dX0_isCourt_13 : decode cX0_isCourt 13 = .ok (.iconst (-1), 1) := by decide +kernel
theorem dX0_isCourt_14 : decode cX0_isCourt 14 = .ok (.if_icmp .ne 7, 3) := by decide +kernel
theorem dX0_isCourt_17 : decode cX0_isCourt 17 = .ok (.iconst 1, 1) := by decide +kernel
theorem dX0_isCourt_18 : decode cX0_isCourt 18 = .ok (.goto 4, 3) := by decide +kernel
theorem dX0_isCourt_21 : decode cX0_isCourt 21 = .ok (.iconst 0, 1) := by decide +kernel
theorem dX0_isCourt_22 : decode cX0_isCourt 22 = .ok (.ireturn, 1) := by decide +kernel
theorem dX0_insertHoliday_0 : decode cX0_insertHoliday 0 = .ok (.aload_n 0, 1) := by decide +kernel
theorem dX0_insertHoliday_1 : decode cX0_insertHoliday 1 = .ok (.getfield 25, 3) := by decide +kernel
theorem dX0_insertHoliday_4 : decode cX0_insertHoliday 4 = .ok (.bipush 40, 2) := by decide +kernel
theorem dX0_insertHoliday_6 : decode cX0_insertHoliday 6 = .ok (.if_icmp .ge 23, 3) := by decide +kernel
theorem dX0_insertHoliday_9 : decode cX0_insertHoliday 9 = .ok (.aload_n 0, 1) := by decide +kernel
theorem dX0_insertHoliday_10 : decode cX0_insertHoliday 10 = .ok (.getfield 9, 3) := by decide +kernel
theorem dX0_insertHoliday_13 : decode cX0_insertHoliday 13 = .ok (.aload_n 0, 1) := by decide +kernel
theorem dX0_insertHoliday_14 : decode cX0_insertHoliday 14 = .ok (.getfield 25, 3) := by decide +kernel
theorem dX0_insertHoliday_17 : decode cX0_insertHoliday 17 = .ok (.iload_n 1, 1) := by decide +kernel
theorem dX0_insertHoliday_18 : decode cX0_insertHoliday 18 = .ok (.iastore, 1) := by decide +kernel
theorem dX0_insertHoliday_19 : decode cX0_insertHoliday 19 = .ok (.aload_n 0, 1) := by decide +kernel
theorem dX0_insertHoliday_20 : decode cX0_insertHoliday 20 = .ok (.dup, 1) := by decide +kernel
theorem dX0_insertHoliday_21 : decode cX0_insertHoliday 21 = .ok (.getfield 25, 3) := by decide +kernel
theorem dX0_insertHoliday_24 : decode cX0_insertHoliday 24 = .ok (.iconst 1, 1) := by decide +kernel
theorem dX0_insertHoliday_25 : decode cX0_insertHoliday 25 = .ok (.iadd, 1) := by decide +kernel
theorem dX0_insertHoliday_26 : decode cX0_insertHoliday 26 = .ok (.putfield 25, 3) := by decide +kernel
theorem dX0_insertHoliday_29 : decode cX0_insertHoliday 29 = .ok (.return_, 1) := by decide +kernel
theorem dX0_placeOf_0 : decode cX0_placeOf 0 = .ok (.iconst 0, 1) := by decide +kernel
theorem dX0_placeOf_1 : decode cX0_placeOf 1 = .ok (.istore_n 2, 1) := by decide +kernel
theorem dX0_placeOf_2 : decode cX0_placeOf 2 = .ok (.iload_n 2, 1) := by decide +kernel
theorem dX0_placeOf_3 : decode cX0_placeOf 3 = .ok (.aload_n 0, 1) := by decide +kernel
theorem dX0_placeOf_4 : decode cX0_placeOf 4 = .ok (.getfield 25, 3) := by decide +kernel
theorem dX0_placeOf_7 : decode cX0_placeOf 7 = .ok (.if_icmp .ge 21, 3) := by decide +kernel
theorem dX0_placeOf_10 : decode cX0_placeOf 10 = .ok (.aload_n 0, 1) := by decide +kernel
theorem dX0_placeOf_11 : decode cX0_placeOf 11 = .ok (.getfield 9, 3) := by decide +kernel
theorem dX0_placeOf_14 : decode cX0_placeOf 14 = .ok (.iload_n 2, 1) := by decide +kernel
theorem dX0_placeOf_15 : decode cX0_placeOf 15 = .ok (.iaload, 1) := by decide +kernel
theorem dX0_placeOf_16 : decode cX0_placeOf 16 = .ok (.iload_n 1, 1) := by decide +kernel
theorem dX0_placeOf_17 : decode cX0_placeOf 17 = .ok (.if_icmp .ne 5, 3) := by decide +kernel
theorem dX0_placeOf_20 : decode cX0_placeOf 20 = .ok (.iload_n 2, 1) := by decide +kernel
theorem dX0_placeOf_21 : decode cX0_placeOf 21 = .ok (.ireturn, 1) := by decide +kernel
theorem dX0_placeOf_22 : decode cX0_placeOf 22 = .ok (.iinc 2 1, 3) := by decide +kernel
theorem dX0_placeOf_25 : decode cX0_placeOf 25 = .ok (.goto (-23), 3) := by decide +kernel
theorem dX0_placeOf_28 : decode cX0_placeOf 28 = .ok (.iconst (-1), 1) := by decide +kernel
theorem dX0_placeOf_29 : decode cX0_placeOf 29 = .ok (.ireturn, 1) := by decide +kernel
theorem dX0_countCourt_0 : decode cX0_countCourt 0 = .ok (.iload_n 2, 1) := by decide +kernel
theorem dX0_countCourt_1 : decode cX0_countCourt 1 = .ok (.iload_n 1, 1) := by decide +kernel
theorem dX0_countCourt_2 : decode cX0_countCourt 2 = .ok (.if_icmp .ge 5, 3) := by decide +kernel
theorem dX0_countCourt_5 : decode cX0_countCourt 5 = .ok (.iconst 0, 1) := by decide +kernel
theorem dX0_countCourt_6 : decode cX0_countCourt 6 = .ok (.ireturn, 1) := by decide +kernel
theorem dX0_countCourt_7 : decode cX0_countCourt 7 = .ok (.iload_n 2, 1) := by decide +kernel
theorem dX0_countCourt_8 : decode cX0_countCourt 8 = .ok (.iload_n 1, 1) := by decide +kernel
theorem dX0_countCourt_9 : decode cX0_countCourt 9 = .ok (.isub, 1) := by decide +kernel
theorem dX0_countCourt_10 : decode cX0_countCourt 10 = .ok (.iconst 1, 1) := by decide +kernel
theorem dX0_countCourt_11 : decode cX0_countCourt 11 = .ok (.iadd, 1) := by decide +kernel
theorem dX0_countCourt_12 : decode cX0_countCourt 12 = .ok (.bipush 7, 2) := by decide +kernel
theorem dX0_countCourt_14 : decode cX0_countCourt 14 = .ok (.idiv, 1) := by decide +kernel
theorem dX0_countCourt_15 : decode cX0_countCourt 15 = .ok (.istore_n 3, 1) := by decide +kernel
theorem dX0_countCourt_16 : decode cX0_countCourt 16 = .ok (.iload_n 3, 1) := by decide +kernel
theorem dX0_countCourt_17 : decode cX0_countCourt 17 = .ok (.iconst 5, 1) := by decide +kernel
theorem dX0_countCourt_18 : decode cX0_countCourt 18 = .ok (.imul, 1) := by decide +kernel
theorem dX0_countCourt_19 : decode cX0_countCourt 19 = .ok (.istore 4, 2) := by decide +kernel
theorem dX0_countCourt_21 : decode cX0_countCourt 21 = .ok (.iload_n 1, 1) := by decide +kernel
theorem dX0_countCourt_22 : decode cX0_countCourt 22 = .ok (.iload_n 3, 1) := by decide +kernel
theorem dX0_countCourt_23 : decode cX0_countCourt 23 = .ok (.bipush 7, 2) := by decide +kernel
theorem dX0_countCourt_25 : decode cX0_countCourt 25 = .ok (.imul, 1) := by decide +kernel
theorem dX0_countCourt_26 : decode cX0_countCourt 26 = .ok (.iadd, 1) := by decide +kernel
theorem dX0_countCourt_27 : decode cX0_countCourt 27 = .ok (.istore 5, 2) := by decide +kernel
theorem dX0_countCourt_29 : decode cX0_countCourt 29 = .ok (.iload 5, 2) := by decide +kernel
theorem dX0_countCourt_31 : decode cX0_countCourt 31 = .ok (.iload_n 2, 1) := by decide +kernel
theorem dX0_countCourt_32 : decode cX0_countCourt 32 = .ok (.if_icmp .gt 28, 3) := by decide +kernel
theorem dX0_countCourt_35 : decode cX0_countCourt 35 = .ok (.iload 4, 2) := by decide +kernel
theorem dX0_countCourt_37 : decode cX0_countCourt 37 = .ok (.iload 5, 2) := by decide +kernel
theorem dX0_countCourt_39 : decode cX0_countCourt 39 = .ok (.bipush 7, 2) := by decide +kernel
theorem dX0_countCourt_41 : decode cX0_countCourt 41 = .ok (.irem, 1) := by decide +kernel
theorem dX0_countCourt_42 : decode cX0_countCourt 42 = .ok (.iconst 5, 1) := by decide +kernel
theorem dX0_countCourt_43 : decode cX0_countCourt 43 = .ok (.if_icmp .ge 7, 3) := by decide +kernel
theorem dX0_countCourt_46 : decode cX0_countCourt 46 = .ok (.iconst 1, 1) := by decide +kernel
theorem dX0_countCourt_47 : decode cX0_countCourt 47 = .ok (.goto 4, 3) := by decide +kernel
theorem dX0_countCourt_50 : decode cX0_countCourt 50 = .ok (.iconst 0, 1) := by decide +kernel
theorem dX0_countCourt_51 : decode cX0_countCourt 51 = .ok (.iadd, 1) := by decide +kernel
theorem dX0_countCourt_52 : decode cX0_countCourt 52 = .ok (.istore 4, 2) := by decide +kernel
theorem dX0_countCourt_54 : decode cX0_countCourt 54 = .ok (.iinc 5 1, 3) := by decide +kernel
theorem dX0_countCourt_57 : decode cX0_countCourt 57 = .ok (.goto (-28), 3) := by decide +kernel
theorem dX0_countCourt_60 : decode cX0_countCourt 60 = .ok (.iconst 0, 1) := by decide +kernel
theorem dX0_countCourt_61 : decode cX0_countCourt 61 = .ok (.istore 5, 2) := by decide +kernel
theorem dX0_countCourt_63 : decode cX0_countCourt 63 = .ok (.iload 5, 2) := by decide +kernel
theorem dX0_countCourt_65 : decode cX0_countCourt 65 = .ok (.aload_n 0, 1) := by decide +kernel
theorem dX0_countCourt_66 : decode cX0_countCourt 66 = .ok (.getfield 25, 3) := by decide +kernel
theorem dX0_countCourt_69 : decode cX0_countCourt 69 = .ok (.if_icmp .ge 49, 3) := by decide +kernel
theorem dX0_countCourt_72 : decode cX0_countCourt 72 = .ok (.aload_n 0, 1) := by decide +kernel
theorem dX0_countCourt_73 : decode cX0_countCourt 73 = .ok (.getfield 9, 3) := by decide +kernel
theorem dX0_countCourt_76 : decode cX0_countCourt 76 = .ok (.iload 5, 2) := by decide +kernel
theorem dX0_countCourt_78 : decode cX0_countCourt 78 = .ok (.iaload, 1) := by decide +kernel
theorem dX0_countCourt_79 : decode cX0_countCourt 79 = .ok (.istore 6, 2) := by decide +kernel
theorem dX0_countCourt_81 : decode cX0_countCourt 81 = .ok (.iload 4, 2) := by decide +kernel
theorem dX0_countCourt_83 : decode cX0_countCourt 83 = .ok (.iload 6, 2) := by decide +kernel
theorem dX0_countCourt_85 : decode cX0_countCourt 85 = .ok (.iload_n 1, 1) := by decide +kernel
theorem dX0_countCourt_86 : decode cX0_countCourt 86 = .ok (.if_icmp .lt 22, 3) := by decide +kernel
theorem dX0_countCourt_89 : decode cX0_countCourt 89 = .ok (.iload 6, 2) := by decide +kernel
theorem dX0_countCourt_91 : decode cX0_countCourt 91 = .ok (.iload_n 2, 1) := by decide +kernel
theorem dX0_countCourt_92 : decode cX0_countCourt 92 = .ok (.if_icmp .gt 16, 3) := by decide +kernel
theorem dX0_countCourt_95 : decode cX0_countCourt 95 = .ok (.iload 6, 2) := by decide +kernel
theorem dX0_countCourt_97 : decode cX0_countCourt 97 = .ok (.bipush 7, 2) := by decide +kernel
theorem dX0_countCourt_99 : decode cX0_countCourt 99 = .ok (.irem, 1) := by decide +kernel
theorem dX0_countCourt_100 : decode cX0_countCourt 100 = .ok (.iconst 5, 1) := by decide +kernel
theorem dX0_countCourt_101 : decode cX0_countCourt 101 = .ok (.if_icmp .ge 7, 3) := by decide +kernel
theorem dX0_countCourt_104 : decode cX0_countCourt 104 = .ok (.iconst 1, 1) := by decide +kernel
theorem dX0_countCourt_105 : decode cX0_countCourt 105 = .ok (.goto 4, 3) := by decide +kernel
theorem dX0_countCourt_108 : decode cX0_countCourt 108 = .ok (.iconst 0, 1) := by decide +kernel
theorem dX0_countCourt_109 : decode cX0_countCourt 109 = .ok (.isub, 1) := by decide +kernel
theorem dX0_countCourt_110 : decode cX0_countCourt 110 = .ok (.istore 4, 2) := by decide +kernel
theorem dX0_countCourt_112 : decode cX0_countCourt 112 = .ok (.iinc 5 1, 3) := by decide +kernel
theorem dX0_countCourt_115 : decode cX0_countCourt 115 = .ok (.goto (-52), 3) := by decide +kernel
theorem dX0_countCourt_118 : decode cX0_countCourt 118 = .ok (.iload 4, 2) := by decide +kernel
theorem dX0_countCourt_120 : decode cX0_countCourt 120 = .ok (.ireturn, 1) := by decide +kernel
theorem dX1_init_0 : decode cX1_init 0 = .ok (.aload_n 0, 1) := by decide +kernel
theorem dX1_init_1 : decode cX1_init 1 = .ok (.invokespecial 3, 3) := by decide +kernel
theorem dX1_init_4 : decode cX1_init 4 = .ok (.aload_n 0, 1) := by decide +kernel
theorem dX1_init_5 : decode cX1_init 5 = .ok (.new 9, 3) := by decide +kernel
theorem dX1_init_8 : decode cX1_init 8 = .ok (.dup, 1) := by decide +kernel
theorem dX1_init_9 : decode cX1_init 9 = .ok (.invokespecial 11, 3) := by decide +kernel
theorem dX1_init_12 : decode cX1_init 12 = .ok (.putfield 12, 3) := by decide +kernel
theorem dX1_init_15 : decode cX1_init 15 = .ok (.aload_n 0, 1) := by decide +kernel
theorem dX1_init_16 : decode cX1_init 16 = .ok (.bipush 8, 2) := by decide +kernel
theorem dX1_init_18 : decode cX1_init 18 = .ok (.newarray .int, 2) := by decide +kernel
theorem dX1_init_20 : decode cX1_init 20 = .ok (.putfield 18, 3) := by decide +kernel
theorem dX1_init_23 : decode cX1_init 23 = .ok (.aload_n 0, 1) := by decide +kernel
theorem dX1_init_24 : decode cX1_init 24 = .ok (.bipush 8, 2) := by decide +kernel
theorem dX1_init_26 : decode cX1_init 26 = .ok (.newarray .int, 2) := by decide +kernel
theorem dX1_init_28 : decode cX1_init 28 = .ok (.putfield 22, 3) := by decide +kernel
theorem dX1_init_31 : decode cX1_init 31 = .ok (.aload_n 0, 1) := by decide +kernel
theorem dX1_init_32 : decode cX1_init 32 = .ok (.bipush 20, 2) := by decide +kernel
theorem dX1_init_34 : decode cX1_init 34 = .ok (.newarray .int, 2) := by decide +kernel
theorem dX1_init_36 : decode cX1_init 36 = .ok (.putfield 25, 3) := by decide +kernel
theorem dX1_init_39 : decode cX1_init 39 = .ok (.aload_n 0, 1) := by decide +kernel
theorem dX1_init_40 : decode cX1_init 40 = .ok (.bipush 20, 2) := by decide +kernel
theorem dX1_init_42 : decode cX1_init 42 = .ok (.newarray .int, 2) := by decide +kernel
theorem dX1_init_44 : decode cX1_init 44 = .ok (.putfield 28, 3) := by decide +kernel
theorem dX1_init_47 : decode cX1_init 47 = .ok (.aload_n 0, 1) := by decide +kernel
theorem dX1_init_48 : decode cX1_init 48 = .ok (.bipush 20, 2) := by decide +kernel
theorem dX1_init_50 : decode cX1_init 50 = .ok (.newarray .int, 2) := by decide +kernel
theorem dX1_init_52 : decode cX1_init 52 = .ok (.putfield 31, 3) := by decide +kernel
theorem dX1_init_55 : decode cX1_init 55 = .ok (.aload_n 0, 1) := by decide +kernel
theorem dX1_init_56 : decode cX1_init 56 = .ok (.bipush 20, 2) := by decide +kernel
theorem dX1_init_58 : decode cX1_init 58 = .ok (.newarray .int, 2) := by decide +kernel
theorem dX1_init_60 : decode cX1_init 60 = .ok (.putfield 34, 3) := by decide +kernel
theorem dX1_init_63 : decode cX1_init 63 = .ok (.return_, 1) := by decide +kernel
theorem dX1_copy_0 : decode cX1_copy 0 = .ok (.aload_n 0, 1) := by decide +kernel
theorem dX1_copy_1 : decode cX1_copy 1 = .ok (.getfield 12, 3) := by decide +kernel
theorem dX1_copy_4 : decode cX1_copy 4 = .ok (.aload_n 1, 1) := by decide +kernel
theorem dX1_copy_5 : decode cX1_copy 5 = .ok (.getfield 12, 3) := by decide +kernel
theorem dX1_copy_8 : decode cX1_copy 8 = .ok (.invokevirtual 37, 3) := by decide +kernel
theorem dX1_copy_11 : decode cX1_copy 11 = .ok (.aload_n 1, 1) := by decide +kernel
theorem dX1_copy_12 : decode cX1_copy 12 = .ok (.getfield 18, 3) := by decide +kernel
theorem dX1_copy_15 : decode cX1_copy 15 = .ok (.iconst 0, 1) := by decide +kernel
theorem dX1_copy_16 : decode cX1_copy 16 = .ok (.aload_n 0, 1) := by decide +kernel
theorem dX1_copy_17 : decode cX1_copy 17 = .ok (.getfield 18, 3) := by decide +kernel
theorem dX1_copy_20 : decode cX1_copy 20 = .ok (.iconst 0, 1) := by decide +kernel
theorem dX1_copy_21 : decode cX1_copy 21 = .ok (.aload_n 0, 1) := by decide +kernel
theorem dX1_copy_22 : decode cX1_copy 22 = .ok (.getfield 18, 3) := by decide +kernel
theorem dX1_copy_25 : decode cX1_copy 25 = .ok (.arraylength, 1) := by decide +kernel
theorem dX1_copy_26 : decode cX1_copy 26 = .ok (.invokestatic 41, 3) := by decide +kernel
theorem dX1_copy_29 : decode cX1_copy 29 = .ok (.aload_n 1, 1) := by decide +kernel
theorem dX1_copy_30 : decode cX1_copy 30 = .ok (.getfield 22, 3) := by decide +kernel
theorem dX1_copy_33 : decode cX1_copy 33 = .ok (.iconst 0, 1) := by decide +kernel
theorem dX1_copy_34 : decode cX1_copy 34 = .ok (.aload_n 0, 1) := by decide +kernel
theorem dX1_copy_35 : decode cX1_copy 35 = .ok (.getfield 22, 3) := by decide +kernel
theorem dX1_copy_38 : decode cX1_copy 38 = .ok (.iconst 0, 1) := by decide +kernel
theorem dX1_copy_39 : decode cX1_copy 39 = .ok (.aload_n 0, 1) := by decide +kernel
theorem dX1_copy_40 : decode cX1_copy 40 = .ok (.getfield 22, 3) := by decide +kernel
theorem dX1_copy_43 : decode cX1_copy 43 = .ok (.arraylength, 1) := by decide +kernel
theorem dX1_copy_44 : decode cX1_copy 44 = .ok (.invokestatic 41, 3) := by decide +kernel
theorem dX1_copy_47 : decode cX1_copy 47 = .ok (.aload_n 1, 1) := by decide +kernel
theorem dX1_copy_48 : decode cX1_copy 48 = .ok (.getfield 25, 3) := by decide +kernel
theorem dX1_copy_51 : decode cX1_copy 51 = .ok (.iconst 0, 1) := by decide +kernel
theorem dX1_copy_52 : decode cX1_copy 52 = .ok (.aload_n 0, 1) := by decide +kernel
theorem dX1_copy_53 : decode cX1_copy 53 = .ok (.getfield 25, 3) := by decide +kernel
theorem dX1_copy_56 : decode cX1_copy 56 = .ok (.iconst 0, 1) := by decide +kernel
theorem dX1_copy_57 : decode cX1_copy 57 = .ok (.aload_n 0, 1) := by decide +kernel
theorem dX1_copy_58 : decode cX1_copy 58 = .ok (.getfield 25, 3) := by decide +kernel
theorem dX1_copy_61 : decode cX1_copy 61 = .ok (.arraylength, 1) := by decide +kernel
theorem dX1_copy_62 : decode cX1_copy 62 = .ok (.invokestatic 41, 3) := by decide +kernel
theorem dX1_copy_65 : decode cX1_copy 65 = .ok (.aload_n 1, 1) := by decide +kernel
theorem dX1_copy_66 : decode cX1_copy 66 = .ok (.getfield 28, 3) := by decide +kernel
theorem dX1_copy_69 : decode cX1_copy 69 = .ok (.iconst 0, 1) := by decide +kernel
theorem dX1_copy_70 : decode cX1_copy 70 = .ok (.aload_n 0, 1) := by decide +kernel
theorem dX1_copy_71 : decode cX1_copy 71 = .ok (.getfield 28, 3) := by decide +kernel
theorem dX1_copy_74 : decode cX1_copy 74 = .ok (.iconst 0, 1) := by decide +kernel
theorem dX1_copy_75 : decode cX1_copy 75 = .ok (.aload_n 0, 1) := by decide +kernel
theorem dX1_copy_76 : decode cX1_copy 76 = .ok (.getfield 28, 3) := by decide +kernel
theorem dX1_copy_79 : decode cX1_copy 79 = .ok (.arraylength, 1) := by decide +kernel
theorem dX1_copy_80 : decode cX1_copy 80 = .ok (.invokestatic 41, 3) := by decide +kernel
theorem dX1_copy_83 : decode cX1_copy 83 = .ok (.aload_n 1, 1) := by decide +kernel
theorem dX1_copy_84 : decode cX1_copy 84 = .ok (.getfield 31, 3) := by decide +kernel
theorem dX1_copy_87 : decode cX1_copy 87 = .ok (.iconst 0, 1) := by decide +kernel
theorem dX1_copy_88 : decode cX1_copy 88 = .ok (.aload_n 0, 1) := by decide +kernel
theorem dX1_copy_89 : decode cX1_copy 89 = .ok (.getfield 31, 3) := by decide +kernel
theorem dX1_copy_92 : decode cX1_copy 92 = .ok (.iconst 0, 1) := by decide +kernel
theorem dX1_copy_93 : decode cX1_copy 93 = .ok (.aload_n 0, 1) := by decide +kernel
theorem dX1_copy_94 : decode cX1_copy 94 = .ok (.getfield 31, 3) := by decide +kernel
theorem dX1_copy_97 : decode cX1_copy 97 = .ok (.arraylength, 1) := by decide +kernel
theorem dX1_copy_98 : decode cX1_copy 98 = .ok (.invokestatic 41, 3) := by decide +kernel
theorem dX1_copy_101 : decode cX1_copy 101 = .ok (.aload_n 1, 1) := by decide +kernel
theorem dX1_copy_102 : decode cX1_copy 102 = .ok (.getfield 34, 3) := by decide +kernel
theorem dX1_copy_105 : decode cX1_copy 105 = .ok (.iconst 0, 1) := by decide +kernel
theorem dX1_copy_106 : decode cX1_copy 106 = .ok (.aload_n 0, 1) := by decide +kernel
theorem dX1_copy_107 : decode cX1_copy 107 = .ok (.getfield 34, 3) := by decide +kernel
theorem dX1_copy_110 : decode cX1_copy 110 = .ok (.iconst 0, 1) := by decide +kernel
theorem dX1_copy_111 : decode cX1_copy 111 = .ok (.aload_n 0, 1) := by decide +kernel
theorem dX1_copy_112 : decode cX1_copy 112 = .ok (.getfield 34, 3) := by decide +kernel
theorem dX1_copy_115 : decode cX1_copy 115 = .ok (.arraylength, 1) := by decide +kernel
theorem dX1_copy_116 : decode cX1_copy 116 = .ok (.invokestatic 41, 3) := by decide +kernel
theorem dX1_copy_119 : decode cX1_copy 119 = .ok (.aload_n 0, 1) := by decide +kernel
theorem dX1_copy_120 : decode cX1_copy 120 = .ok (.aload_n 1, 1) := by decide +kernel
theorem dX1_copy_121 : decode cX1_copy 121 = .ok (.getfield 47, 3) := by decide +kernel
theorem dX1_copy_124 : decode cX1_copy 124 = .ok (.putfield 47, 3) := by decide +kernel
theorem dX1_copy_127 : decode cX1_copy 127 = .ok (.return_, 1) := by decide +kernel
theorem dX1_has_0 : decode cX1_has 0 = .ok (.iload_n 1, 1) := by decide +kernel
theorem dX1_has_1 : decode cX1_has 1 = .ok (.ifCond .lt 15, 3) := by decide +kernel
theorem dX1_has_4 : decode cX1_has 4 = .ok (.iload_n 1, 1) := by decide +kernel
theorem dX1_has_5 : decode cX1_has 5 = .ok (.aload_n 0, 1) := by decide +kernel
theorem dX1_has_6 : decode cX1_has 6 = .ok (.getfield 47, 3) := by decide +kernel
theorem dX1_has_9 : decode cX1_has 9 = .ok (.if_icmp .ge 7, 3) := by decide +kernel
theorem dX1_has_12 : decode cX1_has 12 = .ok (.iconst 1, 1) := by decide +kernel
theorem dX1_has_13 : decode cX1_has 13 = .ok (.goto 4, 3) := by decide +kernel
theorem dX1_has_16 : decode cX1_has 16 = .ok (.iconst 0, 1) := by decide +kernel
theorem dX1_has_17 : decode cX1_has 17 = .ok (.ireturn, 1) := by decide +kernel
theorem dX1_keepOccurrence_0 : decode cX1_keepOccurrence 0 = .ok (.aload_n 0, 1) := by decide +kernel
theorem dX1_keepOccurrence_1 : decode cX1_keepOccurrence 1 = .ok (.getfield 12, 3) := by decide +kernel
theorem dX1_keepOccurrence_4 : decode cX1_keepOccurrence 4 = .ok (.getfield 51, 3) := by decide +kernel
theorem dX1_keepOccurrence_7 : decode cX1_keepOccurrence 7 = .ok (.bipush 8, 2) := by decide +kernel
theorem dX1_keepOccurrence_9 : decode cX1_keepOccurrence 9 = .ok (.if_icmp .lt 6, 3) := by decide +kernel
theorem dX1_keepOccurrence_12 : decode cX1_keepOccurrence 12 = .ok (.bipush (-3), 2) := by decide +kernel
theorem dX1_keepOccurrence_14 : decode cX1_keepOccurrence 14 = .ok (.ireturn, 1) := by decide +kernel
theorem dX1_keepOccurrence_15 : decode cX1_keepOccurrence 15 = .ok (.aload_n 0, 1) := by decide +kernel
theorem dX1_keepOccurrence_16 : decode cX1_keepOccurrence 16 = .ok (.getfield 12, 3) := by decide +kernel
theorem dX1_keepOccurrence_19 : decode cX1_keepOccurrence 19 = .ok (.iconst (-1), 1) := by decide +kernel
theorem dX1_keepOccurrence_20 : decode cX1_keepOccurrence 20 = .ok (.iload_n 1, 1) := by decide +kernel
theorem dX1_keepOccurrence_21 : decode cX1_keepOccurrence 21 = .ok (.iload_n 2, 1) := by decide +kernel
theorem dX1_keepOccurrence_22 : decode cX1_keepOccurrence 22 = .ok (.aload_n 3, 1) := by decide +kernel
theorem dX1_keepOccurrence_23 : decode cX1_keepOccurrence 23 = .ok (.invokevirtual 52, 3) := by decide +kernel
theorem dX1_keepOccurrence_26 : decode cX1_keepOccurrence 26 = .ok (.istore 4, 2) := by decide +kernel
theorem dX1_keepOccurrence_28 : decode cX1_keepOccurrence 28 = .ok (.aload_n 0, 1) := by decide +kernel
theorem dX1_keepOccurrence_29 : decode cX1_keepOccurrence 29 = .ok (.getfield 18, 3) := by decide +kernel
theorem dX1_keepOccurrence_32 : decode cX1_keepOccurrence 32 = .ok (.iload 4, 2) := by decide +kernel
theorem dX1_keepOccurrence_34 : decode cX1_keepOccurrence 34 = .ok (.iconst 0, 1) := by decide +kernel
theorem dX1_keepOccurrence_35 : decode cX1_keepOccurrence 35 = .ok (.iastore, 1) := by decide +kernel
theorem dX1_keepOccurrence_36 : decode cX1_keepOccurrence 36 = .ok (.aload_n 0, 1) := by decide +kernel
theorem dX1_keepOccurrence_37 : decode cX1_keepOccurrence 37 = .ok (.getfield 22, 3) := by decide +kernel
theorem dX1_keepOccurrence_40 : decode cX1_keepOccurrence 40 = .ok (.iload 4, 2) := by decide +kernel
theorem dX1_keepOccurrence_42 : decode cX1_keepOccurrence 42 = .ok (.iload 4, 2) := by decide +kernel
theorem dX1_keepOccurrence_44 : decode cX1_keepOccurrence 44 = .ok (.iastore, 1) := by decide +kernel
theorem dX1_keepOccurrence_45 : decode cX1_keepOccurrence 45 = .ok (.iload 4, 2) := by decide +kernel
theorem dX1_keepOccurrence_47 : decode cX1_keepOccurrence 47 = .ok (.ireturn, 1) := by decide +kernel
theorem dX1_areLinked_0 : decode cX1_areLinked 0 = .ok (.aload_n 0, 1) := by decide +kernel
theorem dX1_areLinked_1 : decode cX1_areLinked 1 = .ok (.getfield 18, 3) := by decide +kernel
theorem dX1_areLinked_4 : decode cX1_areLinked 4 = .ok (.iload_n 1, 1) := by decide +kernel
theorem dX1_areLinked_5 : decode cX1_areLinked 5 = .ok (.iaload, 1) := by decide +kernel
theorem dX1_areLinked_6 : decode cX1_areLinked 6 = .ok (.iload_n 2, 1) := by decide +kernel
theorem dX1_areLinked_7 : decode cX1_areLinked 7 = .ok (.ishr, 1) := by decide +kernel
theorem dX1_areLinked_8 : decode cX1_areLinked 8 = .ok (.iconst 1, 1) := by decide +kernel
theorem dX1_areLinked_9 : decode cX1_areLinked 9 = .ok (.iand, 1) := by decide +kernel
theorem dX1_areLinked_10 : decode cX1_areLinked 10 = .ok (.iconst 1, 1) := by decide +kernel
theorem dX1_areLinked_11 : decode cX1_areLinked 11 = .ok (.if_icmp .ne 7, 3) := by decide +kernel
theorem dX1_areLinked_14 : decode cX1_areLinked 14 = .ok (.iconst 1, 1) := by decide +kernel
theorem dX1_areLinked_15 : decode cX1_areLinked 15 = .ok (.goto 4, 3) := by decide +kernel
theorem dX1_areLinked_18 : decode cX1_areLinked 18 = .ok (.iconst 0, 1) := by decide +kernel
theorem dX1_areLinked_19 : decode cX1_areLinked 19 = .ok (.ireturn, 1) := by decide +kernel
theorem dX1_link_0 : decode cX1_link 0 = .ok (.aload_n 0, 1) := by decide +kernel
theorem dX1_link_1 : decode cX1_link 1 = .ok (.getfield 18, 3) := by decide +kernel
theorem dX1_link_4 : decode cX1_link 4 = .ok (.iload_n 1, 1) := by decide +kernel
theorem dX1_link_5 : decode cX1_link 5 = .ok (.dup2, 1) := by decide +kernel
theorem dX1_link_6 : decode cX1_link 6 = .ok (.iaload, 1) := by decide +kernel
theorem dX1_link_7 : decode cX1_link 7 = .ok (.iconst 1, 1) := by decide +kernel
theorem dX1_link_8 : decode cX1_link 8 = .ok (.iload_n 2, 1) := by decide +kernel
theorem dX1_link_9 : decode cX1_link 9 = .ok (.ishl, 1) := by decide +kernel
theorem dX1_link_10 : decode cX1_link 10 = .ok (.ior, 1) := by decide +kernel
theorem dX1_link_11 : decode cX1_link 11 = .ok (.iastore, 1) := by decide +kernel
theorem dX1_link_12 : decode cX1_link 12 = .ok (.aload_n 0, 1) := by decide +kernel
theorem dX1_link_13 : decode cX1_link 13 = .ok (.getfield 18, 3) := by decide +kernel
theorem dX1_link_16 : decode cX1_link 16 = .ok (.iload_n 2, 1) := by decide +kernel
theorem dX1_link_17 : decode cX1_link 17 = .ok (.dup2, 1) := by decide +kernel
theorem dX1_link_18 : decode cX1_link 18 = .ok (.iaload, 1) := by decide +kernel
theorem dX1_link_19 : decode cX1_link 19 = .ok (.iconst 1, 1) := by decide +kernel
theorem dX1_link_20 : decode cX1_link 20 = .ok (.iload_n 1, 1) := by decide +kernel
theorem dX1_link_21 : decode cX1_link 21 = .ok (.ishl, 1) := by decide +kernel
theorem dX1_link_22 : decode cX1_link 22 = .ok (.ior, 1) := by decide +kernel
theorem dX1_link_23 : decode cX1_link 23 = .ok (.iastore, 1) := by decide +kernel
theorem dX1_link_24 : decode cX1_link 24 = .ok (.aload_n 0, 1) := by decide +kernel
theorem dX1_link_25 : decode cX1_link 25 = .ok (.getfield 22, 3) := by decide +kernel
theorem dX1_link_28 : decode cX1_link 28 = .ok (.iload_n 1, 1) := by decide +kernel
theorem dX1_link_29 : decode cX1_link 29 = .ok (.iaload, 1) := by decide +kernel
theorem dX1_link_30 : decode cX1_link 30 = .ok (.aload_n 0, 1) := by decide +kernel
theorem dX1_link_31 : decode cX1_link 31 = .ok (.getfield 22, 3) := by decide +kernel
theorem dX1_link_34 : decode cX1_link 34 = .ok (.iload_n 2, 1) := by decide +kernel
theorem dX1_link_35 : decode cX1_link 35 = .ok (.iaload, 1) := by decide +kernel
theorem dX1_link_36 : decode cX1_link 36 = .ok (.invokestatic 56, 3) := by decide +kernel
theorem dX1_link_39 : decode cX1_link 39 = .ok (.istore_n 3, 1) := by decide +kernel
theorem dX1_link_40 : decode cX1_link 40 = .ok (.aload_n 0, 1) := by decide +kernel
theorem dX1_link_41 : decode cX1_link 41 = .ok (.getfield 22, 3) := by decide +kernel
theorem dX1_link_44 : decode cX1_link 44 = .ok (.iload_n 1, 1) := by decide +kernel
theorem dX1_link_45 : decode cX1_link 45 = .ok (.iaload, 1) := by decide +kernel
theorem dX1_link_46 : decode cX1_link 46 = .ok (.aload_n 0, 1) := by decide +kernel
theorem dX1_link_47 : decode cX1_link 47 = .ok (.getfield 22, 3) := by decide +kernel
theorem dX1_link_50 : decode cX1_link 50 = .ok (.iload_n 2, 1) := by decide +kernel
theorem dX1_link_51 : decode cX1_link 51 = .ok (.iaload, 1) := by decide +kernel
theorem dX1_link_52 : decode cX1_link 52 = .ok (.invokestatic 62, 3) := by decide +kernel
theorem dX1_link_55 : decode cX1_link 55 = .ok (.istore 4, 2) := by decide +kernel
theorem dX1_link_57 : decode cX1_link 57 = .ok (.iconst 0, 1) := by decide +kernel
theorem dX1_link_58 : decode cX1_link 58 = .ok (.istore 5, 2) := by decide +kernel
theorem dX1_link_60 : decode cX1_link 60 = .ok (.iload 5, 2) := by decide +kernel
theorem dX1_link_62 : decode cX1_link 62 = .ok (.aload_n 0, 1) := by decide +kernel
theorem dX1_link_63 : decode cX1_link 63 = .ok (.getfield 12, 3) := by decide +kernel
theorem dX1_link_66 : decode cX1_link 66 = .ok (.getfield 51, 3) := by decide +kernel
theorem dX1_link_69 : decode cX1_link 69 = .ok (.if_icmp .ge 29, 3) := by decide +kernel
theorem dX1_link_72 : decode cX1_link 72 = .ok (.aload_n 0, 1) := by decide +kernel
theorem dX1_link_73 : decode cX1_link 73 = .ok (.getfield 22, 3) := by decide +kernel
theorem dX1_link_76 : decode cX1_link 76 = .ok (.iload 5, 2) := by decide +kernel
theorem dX1_link_78 : decode cX1_link 78 = .ok (.iaload, 1) := by decide +kernel
theorem dX1_link_79 : decode cX1_link 79 = .ok (.iload 4, 2) := by decide +kernel
theorem dX1_link_81 : decode cX1_link 81 = .ok (.if_icmp .ne 11, 3) := by decide +kernel
theorem dX1_link_84 : decode cX1_link 84 = .ok (.aload_n 0, 1) := by decide +kernel
theorem dX1_link_85 : decode cX1_link 85 = .ok (.getfield 22, 3) := by decide +kernel
theorem dX1_link_88 : decode cX1_link 88 = .ok (.iload 5, 2) := by decide +kernel
theorem dX1_link_90 : decode cX1_link 90 = .ok (.iload_n 3, 1) := by decide +kernel
theorem dX1_link_91 : decode cX1_link 91 = .ok (.iastore, 1) := by decide +kernel
theorem dX1_link_92 : decode cX1_link 92 = .ok (.iinc 5 1, 3) := by decide +kernel
theorem dX1_link_95 : decode cX1_link 95 = .ok (.goto (-35), 3) := by decide +kernel
theorem dX1_link_98 : decode cX1_link 98 = .ok (.return_, 1) := by decide +kernel
theorem dX1_countGroups_0 : decode cX1_countGroups 0 = .ok (.iconst 0, 1) := by decide +kernel
theorem dX1_countGroups_1 : decode cX1_countGroups 1 = .ok (.istore_n 1, 1) := by decide +kernel
theorem dX1_countGroups_2 : decode cX1_countGroups 2 = .ok (.iconst 0, 1) := by decide +kernel
theorem dX1_countGroups_3 : decode cX1_countGroups 3 = .ok (.istore_n 2, 1) := by decide +kernel
theorem dX1_countGroups_4 : decode cX1_countGroups 4 = .ok (.iload_n 2, 1) := by decide +kernel
theorem dX1_countGroups_5 : decode cX1_countGroups 5 = .ok (.aload_n 0, 1) := by decide +kernel
theorem dX1_countGroups_6 : decode cX1_countGroups 6 = .ok (.getfield 12, 3) := by decide +kernel
theorem dX1_countGroups_9 : decode cX1_countGroups 9 = .ok (.getfield 51, 3) := by decide +kernel
theorem dX1_countGroups_12 : decode cX1_countGroups 12 = .ok (.if_icmp .ge 27, 3) := by decide +kernel
theorem dX1_countGroups_15 : decode cX1_countGroups 15 = .ok (.iload_n 1, 1) := by decide +kernel
theorem dX1_countGroups_16 : decode cX1_countGroups 16 = .ok (.aload_n 0, 1) := by decide +kernel
theorem dX1_countGroups_17 : decode cX1_countGroups 17 = .ok (.getfield 22, 3) := by decide +kernel
theorem dX1_countGroups_20 : decode cX1_countGroups 20 = .ok (.iload_n 2, 1) := by decide +kernel
theorem dX1_countGroups_21 : decode cX1_countGroups 21 = .ok (.iaload, 1) := by decide +kernel
theorem dX1_countGroups_22 : decode cX1_countGroups 22 = .ok (.iload_n 2, 1) := by decide +kernel
theorem dX1_countGroups_23 : decode cX1_countGroups 23 = .ok (.if_icmp .ne 7, 3) := by decide +kernel
theorem dX1_countGroups_26 : decode cX1_countGroups 26 = .ok (.iconst 1, 1) := by decide +kernel
theorem dX1_countGroups_27 : decode cX1_countGroups 27 = .ok (.goto 4, 3) := by decide +kernel
theorem dX1_countGroups_30 : decode cX1_countGroups 30 = .ok (.iconst 0, 1) := by decide +kernel
theorem dX1_countGroups_31 : decode cX1_countGroups 31 = .ok (.iadd, 1) := by decide +kernel
theorem dX1_countGroups_32 : decode cX1_countGroups 32 = .ok (.istore_n 1, 1) := by decide +kernel
theorem dX1_countGroups_33 : decode cX1_countGroups 33 = .ok (.iinc 2 1, 3) := by decide +kernel
theorem dX1_countGroups_36 : decode cX1_countGroups 36 = .ok (.goto (-32), 3) := by decide +kernel
theorem dX1_countGroups_39 : decode cX1_countGroups 39 = .ok (.iload_n 1, 1) := by decide +kernel
theorem dX1_countGroups_40 : decode cX1_countGroups 40 = .ok (.ireturn, 1) := by decide +kernel
theorem dX1_inSameGroup_0 : decode cX1_inSameGroup 0 = .ok (.aload_n 0, 1) := by decide +kernel
theorem dX1_inSameGroup_1 : decode cX1_inSameGroup 1 = .ok (.getfield 22, 3) := by decide +kernel
theorem dX1_inSameGroup_4 : decode cX1_inSameGroup 4 = .ok (.iload_n 1, 1) := by decide +kernel
theorem dX1_inSameGroup_5 : decode cX1_inSameGroup 5 = .ok (.iaload, 1) := by decide +kernel
theorem dX1_inSameGroup_6 : decode cX1_inSameGroup 6 = .ok (.aload_n 0, 1) := by decide +kernel
theorem dX1_inSameGroup_7 : decode cX1_inSameGroup 7 = .ok (.getfield 22, 3) := by decide +kernel
theorem dX1_inSameGroup_10 : decode cX1_inSameGroup 10 = .ok (.iload_n 2, 1) := by decide +kernel
theorem dX1_inSameGroup_11 : decode cX1_inSameGroup 11 = .ok (.iaload, 1) := by decide +kernel
theorem dX1_inSameGroup_12 : decode cX1_inSameGroup 12 = .ok (.if_icmp .ne 7, 3) := by decide +kernel
theorem dX1_inSameGroup_15 : decode cX1_inSameGroup 15 = .ok (.iconst 1, 1) := by decide +kernel
theorem dX1_inSameGroup_16 : decode cX1_inSameGroup 16 = .ok (.goto 4, 3) := by decide +kernel
theorem dX1_inSameGroup_19 : decode cX1_inSameGroup 19 = .ok (.iconst 0, 1) := by decide +kernel
theorem dX1_inSameGroup_20 : decode cX1_inSameGroup 20 = .ok (.ireturn, 1) := by decide +kernel
theorem dX1_isReached_0 : decode cX1_isReached 0 = .ok (.aload_n 0, 1) := by decide +kernel
theorem dX1_isReached_1 : decode cX1_isReached 1 = .ok (.getfield 18, 3) := by decide +kernel
theorem dX1_isReached_4 : decode cX1_isReached 4 = .ok (.iload_n 1, 1) := by decide +kernel
theorem dX1_isReached_5 : decode cX1_isReached 5 = .ok (.iconst 0, 1) := by decide +kernel
theorem dX1_isReached_6 : decode cX1_isReached 6 = .ok (.iconst 0, 1) := by decide +kernel
theorem dX1_isReached_7 : decode cX1_isReached 7 = .ok (.invokestatic 65, 3) := by decide +kernel
theorem dX1_isReached_10 : decode cX1_isReached 10 = .ok (.iload_n 2, 1) := by decide +kernel
theorem dX1_isReached_11 : decode cX1_isReached 11 = .ok (.ishr, 1) := by decide +kernel
theorem dX1_isReached_12 : decode cX1_isReached 12 = .ok (.iconst 1, 1) := by decide +kernel
theorem dX1_isReached_13 : decode cX1_isReached 13 = .ok (.iand, 1) := by decide +kernel
theorem dX1_isReached_14 : decode cX1_isReached 14 = .ok (.iconst 1, 1) := by decide +kernel
theorem dX1_isReached_15 : decode cX1_isReached 15 = .ok (.if_icmp .ne 7, 3) := by decide +kernel
theorem dX1_isReached_18 : decode cX1_isReached 18 = .ok (.iconst 1, 1) := by decide +kernel
theorem dX1_isReached_19 : decode cX1_isReached 19 = .ok (.goto 4, 3) := by decide +kernel
theorem dX1_isReached_22 : decode cX1_isReached 22 = .ok (.iconst 0, 1) := by decide +kernel
theorem dX1_isReached_23 : decode cX1_isReached 23 = .ok (.ireturn, 1) := by decide +kernel
theorem dX1_visit_0 : decode cX1_visit 0 = .ok (.iload_n 3, 1) := by decide +kernel
theorem dX1_visit_1 : decode cX1_visit 1 = .ok (.bipush 8, 2) := by decide +kernel
theorem dX1_visit_3 : decode cX1_visit 3 = .ok (.if_icmp .lt 5, 3) := by decide +kernel
theorem dX1_visit_6 : decode cX1_visit 6 = .ok (.iload_n 2, 1) := by decide +kernel
theorem dX1_visit_7 : decode cX1_visit 7 = .ok (.ireturn, 1) := by decide +kernel
theorem dX1_visit_8 : decode cX1_visit 8 = .ok (.iload_n 2, 1) := by decide +kernel
theorem dX1_visit_9 : decode cX1_visit 9 = .ok (.iconst 1, 1) := by decide +kernel
theorem dX1_visit_10 : decode cX1_visit 10 = .ok (.iload_n 1, 1) := by decide +kernel
theorem dX1_visit_11 : decode cX1_visit 11 = .ok (.ishl, 1) := by decide +kernel
theorem dX1_visit_12 : decode cX1_visit 12 = .ok (.ior, 1) := by decide +kernel
theorem dX1_visit_13 : decode cX1_visit 13 = .ok (.istore 4, 2) := by decide +kernel
theorem dX1_visit_15 : decode cX1_visit 15 = .ok (.iconst 0, 1) := by decide +kernel
theorem dX1_visit_16 : decode cX1_visit 16 = .ok (.istore 5, 2) := by decide +kernel
theorem dX1_visit_18 : decode cX1_visit 18 = .ok (.iload 5, 2) := by decide +kernel
theorem dX1_visit_20 : decode cX1_visit 20 = .ok (.bipush 8, 2) := by decide +kernel
theorem dX1_visit_22 : decode cX1_visit 22 = .ok (.if_icmp .ge 44, 3) := by decide +kernel
theorem dX1_visit_25 : decode cX1_visit 25 = .ok (.aload_n 0, 1) := by decide +kernel
theorem dX1_visit_26 : decode cX1_visit 26 = .ok (.iload_n 1, 1) := by decide +kernel
theorem dX1_visit_27 : decode cX1_visit 27 = .ok (.iaload, 1) := by decide +kernel
theorem dX1_visit_28 : decode cX1_visit 28 = .ok (.iload 5, 2) := by decide +kernel
theorem dX1_visit_30 : decode cX1_visit 30 = .ok (.ishr, 1) := by decide +kernel
theorem dX1_visit_31 : decode cX1_visit 31 = .ok (.iconst 1, 1) := by decide +kernel
theorem dX1_visit_32 : decode cX1_visit 32 = .ok (.iand, 1) := by decide +kernel
theorem dX1_visit_33 : decode cX1_visit 33 = .ok (.iconst 1, 1) := by decide +kernel
theorem dX1_visit_34 : decode cX1_visit 34 = .ok (.if_icmp .ne 26, 3) := by decide +kernel
theorem dX1_visit_37 : decode cX1_visit 37 = .ok (.iload 4, 2) := by decide +kernel
theorem dX1_visit_39 : decode cX1_visit 39 = .ok (.iload 5, 2) := by decide +kernel
theorem dX1_visit_41 : decode cX1_visit 41 = .ok (.ishr, 1) := by decide +kernel
theorem dX1_visit_42 : decode cX1_visit 42 = .ok (.iconst 1, 1) := by decide +kernel
theorem dX1_visit_43 : decode cX1_visit 43 = .ok (.iand, 1) := by decide +kernel
theorem dX1_visit_44 : decode cX1_visit 44 = .ok (.ifCond .ne 16, 3) := by decide +kernel
theorem dX1_visit_47 : decode cX1_visit 47 = .ok (.aload_n 0, 1) := by decide +kernel
theorem dX1_visit_48 : decode cX1_visit 48 = .ok (.iload 5, 2) := by decide +kernel
theorem dX1_visit_50 : decode cX1_visit 50 = .ok (.iload 4, 2) := by decide +kernel
theorem dX1_visit_52 : decode cX1_visit 52 = .ok (.iload_n 3, 1) := by decide +kernel
theorem dX1_visit_53 : decode cX1_visit 53 = .ok (.iconst 1, 1) := by decide +kernel
theorem dX1_visit_54 : decode cX1_visit 54 = .ok (.iadd, 1) := by decide +kernel
theorem dX1_visit_55 : decode cX1_visit 55 = .ok (.invokestatic 65, 3) := by decide +kernel
theorem dX1_visit_58 : decode cX1_visit 58 = .ok (.istore 4, 2) := by decide +kernel
theorem dX1_visit_60 : decode cX1_visit 60 = .ok (.iinc 5 1, 3) := by decide +kernel
theorem dX1_visit_63 : decode cX1_visit 63 = .ok (.goto (-45), 3) := by decide +kernel
theorem dX1_visit_66 : decode cX1_visit 66 = .ok (.iload 4, 2) := by decide +kernel
theorem dX1_visit_68 : decode cX1_visit 68 = .ok (.ireturn, 1) := by decide +kernel
theorem dX1_addClaim_0 : decode cX1_addClaim 0 = .ok (.aload_n 0, 1) := by decide +kernel
theorem dX1_addClaim_1 : decode cX1_addClaim 1 = .ok (.getfield 47, 3) := by decide +kernel
theorem dX1_addClaim_4 : decode cX1_addClaim 4 = .ok (.bipush 20, 2) := by decide +kernel
theorem dX1_addClaim_6 : decode cX1_addClaim 6 = .ok (.if_icmp .lt 6, 3) := by decide +kernel
theorem dX1_addClaim_9 : decode cX1_addClaim 9 = .ok (.bipush (-3), 2) := by decide +kernel
theorem dX1_addClaim_11 : decode cX1_addClaim 11 = .ok (.ireturn, 1) := by decide +kernel
theorem dX1_addClaim_12 : decode cX1_addClaim 12 = .ok (.aload_n 0, 1) := by decide +kernel
theorem dX1_addClaim_13 : decode cX1_addClaim 13 = .ok (.getfield 25, 3) := by decide +kernel
theorem dX1_addClaim_16 : decode cX1_addClaim 16 = .ok (.aload_n 0, 1) := by decide +kernel
theorem dX1_addClaim_17 : decode cX1_addClaim 17 = .ok (.getfield 47, 3) := by decide +kernel
theorem dX1_addClaim_20 : decode cX1_addClaim 20 = .ok (.iload_n 1, 1) := by decide +kernel
theorem dX1_addClaim_21 : decode cX1_addClaim 21 = .ok (.iastore, 1) := by decide +kernel
theorem dX1_addClaim_22 : decode cX1_addClaim 22 = .ok (.aload_n 0, 1) := by decide +kernel
theorem dX1_addClaim_23 : decode cX1_addClaim 23 = .ok (.getfield 28, 3) := by decide +kernel
theorem dX1_addClaim_26 : decode cX1_addClaim 26 = .ok (.aload_n 0, 1) := by decide +kernel
theorem dX1_addClaim_27 : decode cX1_addClaim 27 = .ok (.getfield 47, 3) := by decide +kernel
theorem dX1_addClaim_30 : decode cX1_addClaim 30 = .ok (.iload_n 2, 1) := by decide +kernel
theorem dX1_addClaim_31 : decode cX1_addClaim 31 = .ok (.iastore, 1) := by decide +kernel
theorem dX1_addClaim_32 : decode cX1_addClaim 32 = .ok (.aload_n 0, 1) := by decide +kernel
theorem dX1_addClaim_33 : decode cX1_addClaim 33 = .ok (.getfield 31, 3) := by decide +kernel
theorem dX1_addClaim_36 : decode cX1_addClaim 36 = .ok (.aload_n 0, 1) := by decide +kernel
theorem dX1_addClaim_37 : decode cX1_addClaim 37 = .ok (.getfield 47, 3) := by decide +kernel
theorem dX1_addClaim_40 : decode cX1_addClaim 40 = .ok (.iload_n 3, 1) := by decide +kernel
theorem dX1_addClaim_41 : decode cX1_addClaim 41 = .ok (.iastore, 1) := by decide +kernel
theorem dX1_addClaim_42 : decode cX1_addClaim 42 = .ok (.aload_n 0, 1) := by decide +kernel
theorem dX1_addClaim_43 : decode cX1_addClaim 43 = .ok (.getfield 34, 3) := by decide +kernel
theorem dX1_addClaim_46 : decode cX1_addClaim 46 = .ok (.aload_n 0, 1) := by decide +kernel
theorem dX1_addClaim_47 : decode cX1_addClaim 47 = .ok (.getfield 47, 3) := by decide +kernel
theorem dX1_addClaim_50 : decode cX1_addClaim 50 = .ok (.iload 4, 2) := by decide +kernel
theorem dX1_addClaim_52 : decode cX1_addClaim 52 = .ok (.iastore, 1) := by decide +kernel
theorem dX1_addClaim_53 : decode cX1_addClaim 53 = .ok (.aload_n 0, 1) := by decide +kernel
theorem dX1_addClaim_54 : decode cX1_addClaim 54 = .ok (.dup, 1) := by decide +kernel
theorem dX1_addClaim_55 : decode cX1_addClaim 55 = .ok (.getfield 47, 3) := by decide +kernel
theorem dX1_addClaim_58 : decode cX1_addClaim 58 = .ok (.iconst 1, 1) := by decide +kernel
theorem dX1_addClaim_59 : decode cX1_addClaim 59 = .ok (.iadd, 1) := by decide +kernel
theorem dX1_addClaim_60 : decode cX1_addClaim 60 = .ok (.putfield 47, 3) := by decide +kernel
theorem dX1_addClaim_63 : decode cX1_addClaim 63 = .ok (.aload_n 0, 1) := by decide +kernel
theorem dX1_addClaim_64 : decode cX1_addClaim 64 = .ok (.getfield 47, 3) := by decide +kernel
theorem dX1_addClaim_67 : decode cX1_addClaim 67 = .ok (.iconst 1, 1) := by decide +kernel
theorem dX1_addClaim_68 : decode cX1_addClaim 68 = .ok (.isub, 1) := by decide +kernel
theorem dX1_addClaim_69 : decode cX1_addClaim 69 = .ok (.ireturn, 1) := by decide +kernel
theorem dX2_init_0 : decode cX2_init 0 = .ok (.aload_n 0, 1) := by decide +kernel
theorem dX2_init_1 : decode cX2_init 1 = .ok (.invokespecial 3, 3) := by decide +kernel
theorem dX2_init_4 : decode cX2_init 4 = .ok (.aload_n 0, 1) := by decide +kernel
theorem dX2_init_5 : decode cX2_init 5 = .ok (.bipush 30, 2) := by decide +kernel
theorem dX2_init_7 : decode cX2_init 7 = .ok (.newarray .int, 2) := by decide +kernel
theorem dX2_init_9 : decode cX2_init 9 = .ok (.putfield 9, 3) := by decide +kernel
theorem dX2_init_12 : decode cX2_init 12 = .ok (.aload_n 0, 1) := by decide +kernel
theorem dX2_init_13 : decode cX2_init 13 = .ok (.bipush 30, 2) := by decide +kernel
theorem dX2_init_15 : decode cX2_init 15 = .ok (.newarray .int, 2) := by decide +kernel
theorem dX2_init_17 : decode cX2_init 17 = .ok (.putfield 15, 3) := by decide +kernel
theorem dX2_init_20 : decode cX2_init 20 = .ok (.aload_n 0, 1) := by decide +kernel
theorem dX2_init_21 : decode cX2_init 21 = .ok (.bipush 30, 2) := by decide +kernel
theorem dX2_init_23 : decode cX2_init 23 = .ok (.newarray .int, 2) := by decide +kernel
theorem dX2_init_25 : decode cX2_init 25 = .ok (.putfield 18, 3) := by decide +kernel
theorem dX2_init_28 : decode cX2_init 28 = .ok (.aload_n 0, 1) := by decide +kernel
theorem dX2_init_29 : decode cX2_init 29 = .ok (.bipush 30, 2) := by decide +kernel
theorem dX2_init_31 : decode cX2_init 31 = .ok (.newarray .boolean, 2) := by decide +kernel
theorem dX2_init_33 : decode cX2_init 33 = .ok (.putfield 21, 3) := by decide +kernel
theorem dX2_init_36 : decode cX2_init 36 = .ok (.aload_n 0, 1) := by decide +kernel
theorem dX2_init_37 : decode cX2_init 37 = .ok (.bipush 30, 2) := by decide +kernel
theorem dX2_init_39 : decode cX2_init 39 = .ok (.newarray .int, 2) := by decide +kernel
theorem dX2_init_41 : decode cX2_init 41 = .ok (.putfield 25, 3) := by decide +kernel
theorem dX2_init_44 : decode cX2_init 44 = .ok (.aload_n 0, 1) := by decide +kernel
theorem dX2_init_45 : decode cX2_init 45 = .ok (.sipush 210, 3) := by decide +kernel
theorem dX2_init_48 : decode cX2_init 48 = .ok (.newarray .int, 2) := by decide +kernel
theorem dX2_init_50 : decode cX2_init 50 = .ok (.putfield 28, 3) := by decide +kernel
theorem dX2_init_53 : decode cX2_init 53 = .ok (.aload_n 0, 1) := by decide +kernel
theorem dX2_init_54 : decode cX2_init 54 = .ok (.bipush 30, 2) := by decide +kernel
theorem dX2_init_56 : decode cX2_init 56 = .ok (.newarray .int, 2) := by decide +kernel
theorem dX2_init_58 : decode cX2_init 58 = .ok (.putfield 31, 3) := by decide +kernel
theorem dX2_init_61 : decode cX2_init 61 = .ok (.aload_n 0, 1) := by decide +kernel
theorem dX2_init_62 : decode cX2_init 62 = .ok (.bipush 30, 2) := by decide +kernel
theorem dX2_init_64 : decode cX2_init 64 = .ok (.newarray .int, 2) := by decide +kernel
theorem dX2_init_66 : decode cX2_init 66 = .ok (.putfield 34, 3) := by decide +kernel
theorem dX2_init_69 : decode cX2_init 69 = .ok (.aload_n 0, 1) := by decide +kernel
theorem dX2_init_70 : decode cX2_init 70 = .ok (.bipush 30, 2) := by decide +kernel
theorem dX2_init_72 : decode cX2_init 72 = .ok (.newarray .int, 2) := by decide +kernel
theorem dX2_init_74 : decode cX2_init 74 = .ok (.putfield 37, 3) := by decide +kernel
theorem dX2_init_77 : decode cX2_init 77 = .ok (.aload_n 0, 1) := by decide +kernel
theorem dX2_init_78 : decode cX2_init 78 = .ok (.bipush 30, 2) := by decide +kernel
theorem dX2_init_80 : decode cX2_init 80 = .ok (.newarray .int, 2) := by decide +kernel
theorem dX2_init_82 : decode cX2_init 82 = .ok (.putfield 40, 3) := by decide +kernel
theorem dX2_init_85 : decode cX2_init 85 = .ok (.aload_n 0, 1) := by decide +kernel
theorem dX2_init_86 : decode cX2_init 86 = .ok (.bipush 30, 2) := by decide +kernel
theorem dX2_init_88 : decode cX2_init 88 = .ok (.newarray .char, 2) := by decide +kernel
theorem dX2_init_90 : decode cX2_init 90 = .ok (.putfield 43, 3) := by decide +kernel
theorem dX2_init_93 : decode cX2_init 93 = .ok (.return_, 1) := by decide +kernel
theorem dX2_copy_0 : decode cX2_copy 0 = .ok (.aload_n 1, 1) := by decide +kernel
theorem dX2_copy_1 : decode cX2_copy 1 = .ok (.getfield 9, 3) := by decide +kernel
theorem dX2_copy_4 : decode cX2_copy 4 = .ok (.iconst 0, 1) := by decide +kernel
theorem dX2_copy_5 : decode cX2_copy 5 = .ok (.aload_n 0, 1) := by decide +kernel
theorem dX2_copy_6 : decode cX2_copy 6 = .ok (.getfield 9, 3) := by decide +kernel
theorem dX2_copy_9 : decode cX2_copy 9 = .ok (.iconst 0, 1) := by decide +kernel
theorem dX2_copy_10 : decode cX2_copy 10 = .ok (.aload_n 0, 1) := by decide +kernel
theorem dX2_copy_11 : decode cX2_copy 11 = .ok (.getfield 9, 3) := by decide +kernel
theorem dX2_copy_14 : decode cX2_copy 14 = .ok (.arraylength, 1) := by decide +kernel
theorem dX2_copy_15 : decode cX2_copy 15 = .ok (.invokestatic 47, 3) := by decide +kernel
theorem dX2_copy_18 : decode cX2_copy 18 = .ok (.aload_n 1, 1) := by decide +kernel
theorem dX2_copy_19 : decode cX2_copy 19 = .ok (.getfield 15, 3) := by decide +kernel
theorem dX2_copy_22 : decode cX2_copy 22 = .ok (.iconst 0, 1) := by decide +kernel
theorem dX2_copy_23 : decode cX2_copy 23 = .ok (.aload_n 0, 1) := by decide +kernel
theorem dX2_copy_24 : decode cX2_copy 24 = .ok (.getfield 15, 3) := by decide +kernel
theorem dX2_copy_27 : decode cX2_copy 27 = .ok (.iconst 0, 1) := by decide +kernel
theorem dX2_copy_28 : decode cX2_copy 28 = .ok (.aload_n 0, 1) := by decide +kernel
theorem dX2_copy_29 : decode cX2_copy 29 = .ok (.getfield 15, 3) := by decide +kernel
theorem dX2_copy_32 : decode cX2_copy 32 = .ok (.arraylength, 1) := by decide +kernel
theorem dX2_copy_33 : decode cX2_copy 33 = .ok (.invokestatic 47, 3) := by decide +kernel
theorem dX2_copy_36 : decode cX2_copy 36 = .ok (.aload_n 1, 1) := by decide +kernel
theorem dX2_copy_37 : decode cX2_copy 37 = .ok (.getfield 18, 3) := by decide +kernel
theorem dX2_copy_40 : decode cX2_copy 40 = .ok (.iconst 0, 1) := by decide +kernel
theorem dX2_copy_41 : decode cX2_copy 41 = .ok (.aload_n 0, 1) := by decide +kernel
theorem dX2_copy_42 : decode cX2_copy 42 = .ok (.getfield 18, 3) := by decide +kernel
theorem dX2_copy_45 : decode cX2_copy 45 = .ok (.iconst 0, 1) := by decide +kernel
theorem dX2_copy_46 : decode cX2_copy 46 = .ok (.aload_n 0, 1) := by decide +kernel
theorem dX2_copy_47 : decode cX2_copy 47 = .ok (.getfield 18, 3) := by decide +kernel
theorem dX2_copy_50 : decode cX2_copy 50 = .ok (.arraylength, 1) := by decide +kernel
theorem dX2_copy_51 : decode cX2_copy 51 = .ok (.invokestatic 47, 3) := by decide +kernel
theorem dX2_copy_54 : decode cX2_copy 54 = .ok (.aload_n 1, 1) := by decide +kernel
theorem dX2_copy_55 : decode cX2_copy 55 = .ok (.getfield 21, 3) := by decide +kernel
theorem dX2_copy_58 : decode cX2_copy 58 = .ok (.iconst 0, 1) := by decide +kernel
theorem dX2_copy_59 : decode cX2_copy 59 = .ok (.aload_n 0, 1) := by decide +kernel
theorem dX2_copy_60 : decode cX2_copy 60 = .ok (.getfield 21, 3) := by decide +kernel
theorem dX2_copy_63 : decode cX2_copy 63 = .ok (.iconst 0, 1) := by decide +kernel
theorem dX2_copy_64 : decode cX2_copy 64 = .ok (.aload_n 0, 1) := by decide +kernel
theorem dX2_copy_65 : decode cX2_copy 65 = .ok (.getfield 21, 3) := by decide +kernel
theorem dX2_copy_68 : decode cX2_copy 68 = .ok (.arraylength, 1) := by decide +kernel
theorem dX2_copy_69 : decode cX2_copy 69 = .ok (.invokestatic 47, 3) := by decide +kernel
theorem dX2_copy_72 : decode cX2_copy 72 = .ok (.aload_n 1, 1) := by decide +kernel
theorem dX2_copy_73 : decode cX2_copy 73 = .ok (.getfield 25, 3) := by decide +kernel
theorem dX2_copy_76 : decode cX2_copy 76 = .ok (.iconst 0, 1) := by decide +kernel
theorem dX2_copy_77 : decode cX2_copy 77 = .ok (.aload_n 0, 1) := by decide +kernel
theorem dX2_copy_78 : decode cX2_copy 78 = .ok (.getfield 25, 3) := by decide +kernel
theorem dX2_copy_81 : decode cX2_copy 81 = .ok (.iconst 0, 1) := by decide +kernel
theorem dX2_copy_82 : decode cX2_copy 82 = .ok (.aload_n 0, 1) := by decide +kernel
theorem dX2_copy_83 : decode cX2_copy 83 = .ok (.getfield 25, 3) := by decide +kernel
theorem dX2_copy_86 : decode cX2_copy 86 = .ok (.arraylength, 1) := by decide +kernel
theorem dX2_copy_87 : decode cX2_copy 87 = .ok (.invokestatic 47, 3) := by decide +kernel
theorem dX2_copy_90 : decode cX2_copy 90 = .ok (.aload_n 1, 1) := by decide +kernel
theorem dX2_copy_91 : decode cX2_copy 91 = .ok (.getfield 28, 3) := by decide +kernel
theorem dX2_copy_94 : decode cX2_copy 94 = .ok (.iconst 0, 1) := by decide +kernel
theorem dX2_copy_95 : decode cX2_copy 95 = .ok (.aload_n 0, 1) := by decide +kernel
theorem dX2_copy_96 : decode cX2_copy 96 = .ok (.getfield 28, 3) := by decide +kernel
theorem dX2_copy_99 : decode cX2_copy 99 = .ok (.iconst 0, 1) := by decide +kernel
theorem dX2_copy_100 : decode cX2_copy 100 = .ok (.aload_n 0, 1) := by decide +kernel
theorem dX2_copy_101 : decode cX2_copy 101 = .ok (.getfield 28, 3) := by decide +kernel
theorem dX2_copy_104 : decode cX2_copy 104 = .ok (.arraylength, 1) := by decide +kernel
theorem dX2_copy_105 : decode cX2_copy 105 = .ok (.invokestatic 47, 3) := by decide +kernel
theorem dX2_copy_108 : decode cX2_copy 108 = .ok (.aload_n 1, 1) := by decide +kernel
theorem dX2_copy_109 : decode cX2_copy 109 = .ok (.getfield 31, 3) := by decide +kernel
theorem dX2_copy_112 : decode cX2_copy 112 = .ok (.iconst 0, 1) := by decide +kernel
theorem dX2_copy_113 : decode cX2_copy 113 = .ok (.aload_n 0, 1) := by decide +kernel
theorem dX2_copy_114 : decode cX2_copy 114 = .ok (.getfield 31, 3) := by decide +kernel
theorem dX2_copy_117 : decode cX2_copy 117 = .ok (.iconst 0, 1) := by decide +kernel
theorem dX2_copy_118 : decode cX2_copy 118 = .ok (.aload_n 0, 1) := by decide +kernel
theorem dX2_copy_119 : decode cX2_copy 119 = .ok (.getfield 31, 3) := by decide +kernel
theorem dX2_copy_122 : decode cX2_copy 122 = .ok (.arraylength, 1) := by decide +kernel
theorem dX2_copy_123 : decode cX2_copy 123 = .ok (.invokestatic 47, 3) := by decide +kernel
theorem dX2_copy_126 : decode cX2_copy 126 = .ok (.aload_n 1, 1) := by decide +kernel
theorem dX2_copy_127 : decode cX2_copy 127 = .ok (.getfield 34, 3) := by decide +kernel
theorem dX2_copy_130 : decode cX2_copy 130 = .ok (.iconst 0, 1) := by decide +kernel
theorem dX2_copy_131 : decode cX2_copy 131 = .ok (.aload_n 0, 1) := by decide +kernel
theorem dX2_copy_132 : decode cX2_copy 132 = .ok (.getfield 34, 3) := by decide +kernel
theorem dX2_copy_135 : decode cX2_copy 135 = .ok (.iconst 0, 1) := by decide +kernel
theorem dX2_copy_136 : decode cX2_copy 136 = .ok (.aload_n 0, 1) := by decide +kernel
theorem dX2_copy_137 : decode cX2_copy 137 = .ok (.getfield 34, 3) := by decide +kernel
theorem dX2_copy_140 : decode cX2_copy 140 = .ok (.arraylength, 1) := by decide +kernel
theorem dX2_copy_141 : decode cX2_copy 141 = .ok (.invokestatic 47, 3) := by decide +kernel
theorem dX2_copy_144 : decode cX2_copy 144 = .ok (.aload_n 1, 1) := by decide +kernel
theorem dX2_copy_145 : decode cX2_copy 145 = .ok (.getfield 37, 3) := by decide +kernel
theorem dX2_copy_148 : decode cX2_copy 148 = .ok (.iconst 0, 1) := by decide +kernel
theorem dX2_copy_149 : decode cX2_copy 149 = .ok (.aload_n 0, 1) := by decide +kernel
theorem dX2_copy_150 : decode cX2_copy 150 = .ok (.getfield 37, 3) := by decide +kernel
theorem dX2_copy_153 : decode cX2_copy 153 = .ok (.iconst 0, 1) := by decide +kernel
theorem dX2_copy_154 : decode cX2_copy 154 = .ok (.aload_n 0, 1) := by decide +kernel
theorem dX2_copy_155 : decode cX2_copy 155 = .ok (.getfield 37, 3) := by decide +kernel
theorem dX2_copy_158 : decode cX2_copy 158 = .ok (.arraylength, 1) := by decide +kernel
theorem dX2_copy_159 : decode cX2_copy 159 = .ok (.invokestatic 47, 3) := by decide +kernel
theorem dX2_copy_162 : decode cX2_copy 162 = .ok (.aload_n 1, 1) := by decide +kernel
theorem dX2_copy_163 : decode cX2_copy 163 = .ok (.getfield 40, 3) := by decide +kernel
theorem dX2_copy_166 : decode cX2_copy 166 = .ok (.iconst 0, 1) := by decide +kernel
theorem dX2_copy_167 : decode cX2_copy 167 = .ok (.aload_n 0, 1) := by decide +kernel
theorem dX2_copy_168 : decode cX2_copy 168 = .ok (.getfield 40, 3) := by decide +kernel
theorem dX2_copy_171 : decode cX2_copy 171 = .ok (.iconst 0, 1) := by decide +kernel
theorem dX2_copy_172 : decode cX2_copy 172 = .ok (.aload_n 0, 1) := by decide +kernel
theorem dX2_copy_173 : decode cX2_copy 173 = .ok (.getfield 40, 3) := by decide +kernel
theorem dX2_copy_176 : decode cX2_copy 176 = .ok (.arraylength, 1) := by decide +kernel
theorem dX2_copy_177 : decode cX2_copy 177 = .ok (.invokestatic 47, 3) := by decide +kernel
theorem dX2_copy_180 : decode cX2_copy 180 = .ok (.aload_n 1, 1) := by decide +kernel
theorem dX2_copy_181 : decode cX2_copy 181 = .ok (.getfield 43, 3) := by decide +kernel
theorem dX2_copy_184 : decode cX2_copy 184 = .ok (.iconst 0, 1) := by decide +kernel
theorem dX2_copy_185 : decode cX2_copy 185 = .ok (.aload_n 0, 1) := by decide +kernel
theorem dX2_copy_186 : decode cX2_copy 186 = .ok (.getfield 43, 3) := by decide +kernel
theorem dX2_copy_189 : decode cX2_copy 189 = .ok (.iconst 0, 1) := by decide +kernel
theorem dX2_copy_190 : decode cX2_copy 190 = .ok (.aload_n 0, 1) := by decide +kernel
theorem dX2_copy_191 : decode cX2_copy 191 = .ok (.getfield 43, 3) := by decide +kernel
theorem dX2_copy_194 : decode cX2_copy 194 = .ok (.arraylength, 1) := by decide +kernel
theorem dX2_copy_195 : decode cX2_copy 195 = .ok (.invokestatic 47, 3) := by decide +kernel
theorem dX2_copy_198 : decode cX2_copy 198 = .ok (.aload_n 0, 1) := by decide +kernel
theorem dX2_copy_199 : decode cX2_copy 199 = .ok (.aload_n 1, 1) := by decide +kernel
theorem dX2_copy_200 : decode cX2_copy 200 = .ok (.getfield 53, 3) := by decide +kernel
theorem dX2_copy_203 : decode cX2_copy 203 = .ok (.putfield 53, 3) := by decide +kernel
theorem dX2_copy_206 : decode cX2_copy 206 = .ok (.return_, 1) := by decide +kernel
theorem dX2_has_0 : decode cX2_has 0 = .ok (.iload_n 1, 1) := by decide +kernel
theorem dX2_has_1 : decode cX2_has 1 = .ok (.ifCond .lt 15, 3) := by decide +kernel
theorem dX2_has_4 : decode cX2_has 4 = .ok (.iload_n 1, 1) := by decide +kernel
theorem dX2_has_5 : decode cX2_has 5 = .ok (.aload_n 0, 1) := by decide +kernel
theorem dX2_has_6 : decode cX2_has 6 = .ok (.getfield 53, 3) := by decide +kernel
theorem dX2_has_9 : decode cX2_has 9 = .ok (.if_icmp .ge 7, 3) := by decide +kernel
theorem dX2_has_12 : decode cX2_has 12 = .ok (.iconst 1, 1) := by decide +kernel
theorem dX2_has_13 : decode cX2_has 13 = .ok (.goto 4, 3) := by decide +kernel
theorem dX2_has_16 : decode cX2_has 16 = .ok (.iconst 0, 1) := by decide +kernel
theorem dX2_has_17 : decode cX2_has 17 = .ok (.ireturn, 1) := by decide +kernel
theorem dX2_isOpen_0 : decode cX2_isOpen 0 = .ok (.aload_n 0, 1) := by decide +kernel
theorem dX2_isOpen_1 : decode cX2_isOpen 1 = .ok (.getfield 43, 3) := by decide +kernel
theorem dX2_isOpen_4 : decode cX2_isOpen 4 = .ok (.iload_n 1, 1) := by decide +kernel
theorem dX2_isOpen_5 : decode cX2_isOpen 5 = .ok (.caload, 1) := by decide +kernel
theorem dX2_isOpen_6 : decode cX2_isOpen 6 = .ok (.bipush 111, 2) := by decide +kernel
theorem dX2_isOpen_8 : decode cX2_isOpen 8 = .ok (.if_icmp .ne 7, 3) := by decide +kernel
theorem dX2_isOpen_11 : decode cX2_isOpen 11 = .ok (.iconst 1, 1) := by decide +kernel
theorem dX2_isOpen_12 : decode cX2_isOpen 12 = .ok (.goto 4, 3) := by decide +kernel
theorem dX2_isOpen_15 : decode cX2_isOpen 15 = .ok (.iconst 0, 1) := by decide +kernel
theorem dX2_isOpen_16 : decode cX2_isOpen 16 = .ok (.ireturn, 1) := by decide +kernel
theorem dX2_countOpen_0 : decode cX2_countOpen 0 = .ok (.iconst 0, 1) := by decide +kernel
theorem dX2_countOpen_1 : decode cX2_countOpen 1 = .ok (.istore_n 1, 1) := by decide +kernel
theorem dX2_countOpen_2 : decode cX2_countOpen 2 = .ok (.iconst 0, 1) := by decide +kernel
theorem dX2_countOpen_3 : decode cX2_countOpen 3 = .ok (.istore_n 2, 1) := by decide +kernel
theorem dX2_countOpen_4 : decode cX2_countOpen 4 = .ok (.iload_n 2, 1) := by decide +kernel
theorem dX2_countOpen_5 : decode cX2_countOpen 5 = .ok (.aload_n 0, 1) := by decide +kernel
theorem dX2_countOpen_6 : decode cX2_countOpen 6 = .ok (.getfield 53, 3) := by decide +kernel
theorem dX2_countOpen_9 : decode cX2_countOpen 9 = .ok (.if_icmp .ge 25, 3) := by decide +kernel
theorem dX2_countOpen_12 : decode cX2_countOpen 12 = .ok (.iload_n 1, 1) := by decide +kernel
theorem dX2_countOpen_13 : decode cX2_countOpen 13 = .ok (.aload_n 0, 1) := by decide +kernel
theorem dX2_countOpen_14 : decode cX2_countOpen 14 = .ok (.iload_n 2, 1) := by decide +kernel
theorem dX2_countOpen_15 : decode cX2_countOpen 15 = .ok (.invokevirtual 57, 3) := by decide +kernel
theorem dX2_countOpen_18 : decode cX2_countOpen 18 = .ok (.ifCond .eq 7, 3) := by decide +kernel
theorem dX2_countOpen_21 : decode cX2_countOpen 21 = .ok (.iconst 1, 1) := by decide +kernel
theorem dX2_countOpen_22 : decode cX2_countOpen 22 = .ok (.goto 4, 3) := by decide +kernel
theorem dX2_countOpen_25 : decode cX2_countOpen 25 = .ok (.iconst 0, 1) := by decide +kernel
theorem dX2_countOpen_26 : decode cX2_countOpen 26 = .ok (.iadd, 1) := by decide +kernel
theorem dX2_countOpen_27 : decode cX2_countOpen 27 = .ok (.istore_n 1, 1) := by decide +kernel
theorem dX2_countOpen_28 : decode cX2_countOpen 28 = .ok (.iinc 2 1, 3) := by decide +kernel
theorem dX2_countOpen_31 : decode cX2_countOpen 31 = .ok (.goto (-27), 3) := by decide +kernel
theorem dX2_countOpen_34 : decode cX2_countOpen 34 = .ok (.iload_n 1, 1) := by decide +kernel
theorem dX2_countOpen_35 : decode cX2_countOpen 35 = .ok (.ireturn, 1) := by decide +kernel
theorem dX2_add_0 : decode cX2_add 0 = .ok (.aload_n 0, 1) := by decide +kernel
theorem dX2_add_1 : decode cX2_add 1 = .ok (.getfield 53, 3) := by decide +kernel
theorem dX2_add_4 : decode cX2_add 4 = .ok (.bipush 30, 2) := by decide +kernel
theorem dX2_add_6 : decode cX2_add 6 = .ok (.if_icmp .lt 6, 3) := by decide +kernel
theorem dX2_add_9 : decode cX2_add 9 = .ok (.bipush (-3), 2) := by decide +kernel
theorem dX2_add_11 : decode cX2_add 11 = .ok (.ireturn, 1) := by decide +kernel
theorem dX2_add_12 : decode cX2_add 12 = .ok (.aload_n 0, 1) := by decide +kernel
theorem dX2_add_13 : decode cX2_add 13 = .ok (.getfield 53, 3) := by decide +kernel
theorem dX2_add_16 : decode cX2_add 16 = .ok (.istore 5, 2) := by decide +kernel
theorem dX2_add_18 : decode cX2_add 18 = .ok (.aload_n 0, 1) := by decide +kernel
theorem dX2_add_19 : decode cX2_add 19 = .ok (.getfield 9, 3) := by decide +kernel
theorem dX2_add_22 : decode cX2_add 22 = .ok (.iload 5, 2) := by decide +kernel
theorem dX2_add_24 : decode cX2_add 24 = .ok (.iload_n 1, 1) := by decide +kernel
theorem dX2_add_25 : decode cX2_add 25 = .ok (.iastore, 1) := by decide +kernel
theorem dX2_add_26 : decode cX2_add 26 = .ok (.aload_n 0, 1) := by decide +kernel
theorem dX2_add_27 : decode cX2_add 27 = .ok (.getfield 15, 3) := by decide +kernel
theorem dX2_add_30 : decode cX2_add 30 = .ok (.iload 5, 2) := by decide +kernel
theorem dX2_add_32 : decode cX2_add 32 = .ok (.iload_n 2, 1) := by decide +kernel
theorem dX2_add_33 : decode cX2_add 33 = .ok (.iastore, 1) := by decide +kernel
theorem dX2_add_34 : decode cX2_add 34 = .ok (.aload_n 0, 1) := by decide +kernel
theorem dX2_add_35 : decode cX2_add 35 = .ok (.getfield 18, 3) := by decide +kernel
theorem dX2_add_38 : decode cX2_add 38 = .ok (.iload 5, 2) := by decide +kernel
theorem dX2_add_40 : decode cX2_add 40 = .ok (.iload_n 3, 1) := by decide +kernel
theorem dX2_add_41 : decode cX2_add 41 = .ok (.iastore, 1) := by decide +kernel
theorem dX2_add_42 : decode cX2_add 42 = .ok (.aload_n 0, 1) := by decide +kernel
theorem dX2_add_43 : decode cX2_add 43 = .ok (.getfield 21, 3) := by decide +kernel
theorem dX2_add_46 : decode cX2_add 46 = .ok (.iload 5, 2) := by decide +kernel
theorem dX2_add_48 : decode cX2_add 48 = .ok (.aload 4, 2) := by decide +kernel
theorem dX2_add_50 : decode cX2_add 50 = .ok (.getfield 61, 3) := by decide +kernel
theorem dX2_add_53 : decode cX2_add 53 = .ok (.iload_n 2, 1) := by decide +kernel
theorem dX2_add_54 : decode cX2_add 54 = .ok (.baload, 1) := by decide +kernel
theorem dX2_add_55 : decode cX2_add 55 = .ok (.bastore, 1) := by decide +kernel
theorem dX2_add_56 : decode cX2_add 56 = .ok (.aload_n 0, 1) := by decide +kernel
theorem dX2_add_57 : decode cX2_add 57 = .ok (.getfield 25, 3) := by decide +kernel
theorem dX2_add_60 : decode cX2_add 60 = .ok (.iload 5, 2) := by decide +kernel
theorem dX2_add_62 : decode cX2_add 62 = .ok (.iconst 0, 1) := by decide +kernel
theorem dX2_add_63 : decode cX2_add 63 = .ok (.iastore, 1) := by decide +kernel
theorem dX2_add_64 : decode cX2_add 64 = .ok (.aload_n 0, 1) := by decide +kernel
theorem dX2_add_65 : decode cX2_add 65 = .ok (.getfield 31, 3) := by decide +kernel
theorem dX2_add_68 : decode cX2_add 68 = .ok (.iload 5, 2) := by decide +kernel
theorem dX2_add_70 : decode cX2_add 70 = .ok (.iconst 0, 1) := by decide +kernel
theorem dX2_add_71 : decode cX2_add 71 = .ok (.iastore, 1) := by decide +kernel
theorem dX2_add_72 : decode cX2_add 72 = .ok (.aload_n 0, 1) := by decide +kernel
theorem dX2_add_73 : decode cX2_add 73 = .ok (.getfield 34, 3) := by decide +kernel
theorem dX2_add_76 : decode cX2_add 76 = .ok (.iload 5, 2) := by decide +kernel
theorem dX2_add_78 : decode cX2_add 78 = .ok (.iconst 0, 1) := by decide +kernel
theorem dX2_add_79 : decode cX2_add 79 = .ok (.iastore, 1) := by decide +kernel
theorem dX2_add_80 : decode cX2_add 80 = .ok (.aload_n 0, 1) := by decide +kernel
theorem dX2_add_81 : decode cX2_add 81 = .ok (.getfield 37, 3) := by decide +kernel
theorem dX2_add_84 : decode cX2_add 84 = .ok (.iload 5, 2) := by decide +kernel
theorem dX2_add_86 : decode cX2_add 86 = .ok (.iconst 0, 1) := by decide +kernel
theorem dX2_add_87 : decode cX2_add 87 = .ok (.iastore, 1) := by decide +kernel
theorem dX2_add_88 : decode cX2_add 88 = .ok (.aload_n 0, 1) := by decide +kernel
theorem dX2_add_89 : decode cX2_add 89 = .ok (.getfield 40, 3) := by decide +kernel
theorem dX2_add_92 : decode cX2_add 92 = .ok (.iload 5, 2) := by decide +kernel
theorem dX2_add_94 : decode cX2_add 94 = .ok (.iconst 0, 1) := by decide +kernel
theorem dX2_add_95 : decode cX2_add 95 = .ok (.iastore, 1) := by decide +kernel
theorem dX2_add_96 : decode cX2_add 96 = .ok (.aload_n 0, 1) := by decide +kernel
theorem dX2_add_97 : decode cX2_add 97 = .ok (.getfield 43, 3) := by decide +kernel
theorem dX2_add_100 : decode cX2_add 100 = .ok (.iload 5, 2) := by decide +kernel
theorem dX2_add_102 : decode cX2_add 102 = .ok (.bipush 111, 2) := by decide +kernel
theorem dX2_add_104 : decode cX2_add 104 = .ok (.castore, 1) := by decide +kernel
theorem dX2_add_105 : decode cX2_add 105 = .ok (.aload_n 0, 1) := by decide +kernel
theorem dX2_add_106 : decode cX2_add 106 = .ok (.dup, 1) := by decide +kernel
theorem dX2_add_107 : decode cX2_add 107 = .ok (.getfield 53, 3) := by decide +kernel
theorem dX2_add_110 : decode cX2_add 110 = .ok (.iconst 1, 1) := by decide +kernel
theorem dX2_add_111 : decode cX2_add 111 = .ok (.iadd, 1) := by decide +kernel
theorem dX2_add_112 : decode cX2_add 112 = .ok (.putfield 53, 3) := by decide +kernel
theorem dX2_add_115 : decode cX2_add 115 = .ok (.aload_n 0, 1) := by decide +kernel
theorem dX2_add_116 : decode cX2_add 116 = .ok (.iload 5, 2) := by decide +kernel
theorem dX2_add_118 : decode cX2_add 118 = .ok (.aload 4, 2) := by decide +kernel
theorem dX2_add_120 : decode cX2_add 120 = .ok (.getfield 64, 3) := by decide +kernel
theorem dX2_add_123 : decode cX2_add 123 = .ok (.iload_n 2, 1) := by decide +kernel
theorem dX2_add_124 : decode cX2_add 124 = .ok (.iaload, 1) := by decide +kernel
theorem dX2_add_125 : decode cX2_add 125 = .ok (.invokevirtual 67, 3) := by decide +kernel
theorem dX2_add_128 : decode cX2_add 128 = .ok (.iload 5, 2) := by decide +kernel
theorem dX2_add_130 : decode cX2_add 130 = .ok (.ireturn, 1) := by decide +kernel
theorem dX2_addPart_0 : decode cX2_addPart 0 = .ok (.aload_n 0, 1) := by decide +kernel
theorem dX2_addPart_1 : decode cX2_addPart 1 = .ok (.getfield 25, 3) := by decide +kernel
theorem dX2_addPart_4 : decode cX2_addPart 4 = .ok (.iload_n 1, 1) := by decide +kernel
theorem dX2_addPart_5 : decode cX2_addPart 5 = .ok (.iaload, 1) := by decide +kernel
theorem dX2_addPart_6 : decode cX2_addPart 6 = .ok (.bipush 7, 2) := by decide +kernel
theorem dX2_addPart_8 : decode cX2_addPart 8 = .ok (.if_icmp .ge 30, 3) := by decide +kernel
theorem dX2_addPart_11 : decode cX2_addPart 11 = .ok (.aload_n 0, 1) := by decide +kernel
theorem dX2_addPart_12 : decode cX2_addPart 12 = .ok (.getfield 28, 3) := by decide +kernel
theorem dX2_addPart_15 : decode cX2_addPart 15 = .ok (.iload_n 1, 1) := by decide +kernel
theorem dX2_addPart_16 : decode cX2_addPart 16 = .ok (.bipush 7, 2) := by decide +kernel
theorem dX2_addPart_18 : decode cX2_addPart 18 = .ok (.imul, 1) := by decide +kernel
theorem dX2_addPart_19 : decode cX2_addPart 19 = .ok (.aload_n 0, 1) := by decide +kernel
theorem dX2_addPart_20 : decode cX2_addPart 20 = .ok (.getfield 25, 3) := by decide +kernel
theorem dX2_addPart_23 : decode cX2_addPart 23 = .ok (.iload_n 1, 1) := by decide +kernel
theorem dX2_addPart_24 : decode cX2_addPart 24 = .ok (.iaload, 1) := by decide +kernel
theorem dX2_addPart_25 : decode cX2_addPart 25 = .ok (.iadd, 1) := by decide +kernel
theorem dX2_addPart_26 : decode cX2_addPart 26 = .ok (.iload_n 2, 1) := by decide +kernel
theorem dX2_addPart_27 : decode cX2_addPart 27 = .ok (.iastore, 1) := by decide +kernel
theorem dX2_addPart_28 : decode cX2_addPart 28 = .ok (.aload_n 0, 1) := by decide +kernel
theorem dX2_addPart_29 : decode cX2_addPart 29 = .ok (.getfield 25, 3) := by decide +kernel
theorem dX2_addPart_32 : decode cX2_addPart 32 = .ok (.iload_n 1, 1) := by decide +kernel
theorem dX2_addPart_33 : decode cX2_addPart 33 = .ok (.dup2, 1) := by decide +kernel
theorem dX2_addPart_34 : decode cX2_addPart 34 = .ok (.iaload, 1) := by decide +kernel
theorem dX2_addPart_35 : decode cX2_addPart 35 = .ok (.iconst 1, 1) := by decide +kernel
theorem dX2_addPart_36 : decode cX2_addPart 36 = .ok (.iadd, 1) := by decide +kernel
theorem dX2_addPart_37 : decode cX2_addPart 37 = .ok (.iastore, 1) := by decide +kernel
theorem dX2_addPart_38 : decode cX2_addPart 38 = .ok (.return_, 1) := by decide +kernel
theorem dX2_grant_0 : decode cX2_grant 0 = .ok (.aload_n 0, 1) := by decide +kernel
theorem dX2_grant_1 : decode cX2_grant 1 = .ok (.iload_n 1, 1) := by decide +kernel
theorem dX2_grant_2 : decode cX2_grant 2 = .ok (.iload_n 2, 1) := by decide +kernel
theorem dX2_grant_3 : decode cX2_grant 3 = .ok (.invokevirtual 67, 3) := by decide +kernel
theorem dX2_grant_6 : decode cX2_grant 6 = .ok (.aload_n 0, 1) := by decide +kernel
theorem dX2_grant_7 : decode cX2_grant 7 = .ok (.getfield 40, 3) := by decide +kernel
theorem dX2_grant_10 : decode cX2_grant 10 = .ok (.iload_n 1, 1) := by decide +kernel
theorem dX2_grant_11 : decode cX2_grant 11 = .ok (.dup2, 1) := by decide +kernel
theorem dX2_grant_12 : decode cX2_grant 12 = .ok (.iaload, 1) := by decide +kernel
theorem dX2_grant_13 : decode cX2_grant 13 = .ok (.iload_n 2, 1) := by decide +kernel
theorem dX2_grant_14 : decode cX2_grant 14 = .ok (.iadd, 1) := by decide +kernel
theorem dX2_grant_15 : decode cX2_grant 15 = .ok (.iastore, 1) := by decide +kernel
theorem dX2_grant_16 : decode cX2_grant 16 = .ok (.aload_n 0, 1) := by decide +kernel
theorem dX2_grant_17 : decode cX2_grant 17 = .ok (.getfield 40, 3) := by decide +kernel
theorem dX2_grant_20 : decode cX2_grant 20 = .ok (.iload_n 1, 1) := by decide +kernel
theorem dX2_grant_21 : decode cX2_grant 21 = .ok (.iaload, 1) := by decide +kernel
theorem dX2_grant_22 : decode cX2_grant 22 = .ok (.ireturn, 1) := by decide +kernel
theorem dX2_lengthOfPart_0 : decode cX2_lengthOfPart 0 = .ok (.aload_n 0, 1) := by decide +kernel
theorem dX2_lengthOfPart_1 : decode cX2_lengthOfPart 1 = .ok (.getfield 28, 3) := by decide +kernel
theorem dX2_lengthOfPart_4 : decode cX2_lengthOfPart 4 = .ok (.iload_n 1, 1) := by decide +kernel
theorem dX2_lengthOfPart_5 : decode cX2_lengthOfPart 5 = .ok (.bipush 7, 2) := by decide +kernel
theorem dX2_lengthOfPart_7 : decode cX2_lengthOfPart 7 = .ok (.imul, 1) := by decide +kernel
theorem dX2_lengthOfPart_8 : decode cX2_lengthOfPart 8 = .ok (.iload_n 2, 1) := by decide +kernel
theorem dX2_lengthOfPart_9 : decode cX2_lengthOfPart 9 = .ok (.iadd, 1) := by decide +kernel
theorem dX2_lengthOfPart_10 : decode cX2_lengthOfPart 10 = .ok (.iaload, 1) := by decide +kernel
theorem dX2_lengthOfPart_11 : decode cX2_lengthOfPart 11 = .ok (.ireturn, 1) := by decide +kernel
theorem dX2_partCountsCourt_0 : decode cX2_partCountsCourt 0 = .ok (.iload_n 2, 1) := by decide +kernel
theorem dX2_partCountsCourt_1 : decode cX2_partCountsCourt 1 = .ok (.ifCond .ne 16, 3) := by decide +kernel
theorem dX2_partCountsCourt_4 : decode cX2_partCountsCourt 4 = .ok (.aload_n 0, 1) := by decide +kernel
theorem dX2_partCountsCourt_5 : decode cX2_partCountsCourt 5 = .ok (.getfield 21, 3) := by decide +kernel
theorem dX2_partCountsCourt_8 : decode cX2_partCountsCourt 8 = .ok (.iload_n 1, 1) := by decide +kernel
theorem dX2_partCountsCourt_9 : decode cX2_partCountsCourt 9 = .ok (.baload, 1) := by decide +kernel
theorem dX2_partCountsCourt_10 : decode cX2_partCountsCourt 10 = .ok (.ifCond .eq 7, 3) := by decide +kernel
theorem dX2_partCountsCourt_13 : decode cX2_partCountsCourt 13 = .ok (.iconst 1, 1) := by decide +kernel
theorem dX2_partCountsCourt_14 : decode cX2_partCountsCourt 14 = .ok (.goto 4, 3) := by decide +kernel
theorem dX2_partCountsCourt_17 : decode cX2_partCountsCourt 17 = .ok (.iconst 0, 1) := by decide +kernel
theorem dX2_partCountsCourt_18 : decode cX2_partCountsCourt 18 = .ok (.ireturn, 1) := by decide +kernel
theorem dX2_sumOfParts_0 : decode cX2_sumOfParts 0 = .ok (.iconst 0, 1) := by decide +kernel
theorem dX2_sumOfParts_1 : decode cX2_sumOfParts 1 = .ok (.istore_n 2, 1) := by decide +kernel
theorem dX2_sumOfParts_2 : decode cX2_sumOfParts 2 = .ok (.iconst 0, 1) := by decide +kernel
theorem dX2_sumOfParts_3 : decode cX2_sumOfParts 3 = .ok (.istore_n 3, 1) := by decide +kernel
theorem dX2_sumOfParts_4 : decode cX2_sumOfParts 4 = .ok (.iload_n 3, 1) := by decide +kernel
theorem dX2_sumOfParts_5 : decode cX2_sumOfParts 5 = .ok (.aload_n 0, 1) := by decide +kernel
theorem dX2_sumOfParts_6 : decode cX2_sumOfParts 6 = .ok (.getfield 25, 3) := by decide +kernel
theorem dX2_sumOfParts_9 : decode cX2_sumOfParts 9 = .ok (.iload_n 1, 1) := by decide +kernel
theorem dX2_sumOfParts_10 : decode cX2_sumOfParts 10 = .ok (.iaload, 1) := by decide +kernel
theorem dX2_sumOfParts_11 : decode cX2_sumOfParts 11 = .ok (.if_icmp .ge 18, 3) := by decide +kernel
theorem dX2_sumOfParts_14 : decode cX2_sumOfParts 14 = .ok (.iload_n 2, 1) := by decide +kernel
theorem dX2_sumOfParts_15 : decode cX2_sumOfParts 15 = .ok (.aload_n 0, 1) := by decide +kernel
theorem dX2_sumOfParts_16 : decode cX2_sumOfParts 16 = .ok (.iload_n 1, 1) := by decide +kernel
theorem dX2_sumOfParts_17 : decode cX2_sumOfParts 17 = .ok (.iload_n 3, 1) := by decide +kernel
theorem dX2_sumOfParts_18 : decode cX2_sumOfParts 18 = .ok (.invokevirtual 71, 3) := by decide +kernel
theorem dX2_sumOfParts_21 : decode cX2_sumOfParts 21 = .ok (.iadd, 1) := by decide +kernel
theorem dX2_sumOfParts_22 : decode cX2_sumOfParts 22 = .ok (.istore_n 2, 1) := by decide +kernel
theorem dX2_sumOfParts_23 : decode cX2_sumOfParts 23 = .ok (.iinc 3 1, 3) := by decide +kernel
theorem dX2_sumOfParts_26 : decode cX2_sumOfParts 26 = .ok (.goto (-22), 3) := by decide +kernel
theorem dX2_sumOfParts_29 : decode cX2_sumOfParts 29 = .ok (.iload_n 2, 1) := by decide +kernel
theorem dX2_sumOfParts_30 : decode cX2_sumOfParts 30 = .ok (.ireturn, 1) := by decide +kernel
theorem dX3_init_0 : decode cX3_init 0 = .ok (.aload_n 0, 1) := by decide +kernel
theorem dX3_init_1 : decode cX3_init 1 = .ok (.invokespecial 1, 3) := by decide +kernel
theorem dX3_init_4 : decode cX3_init 4 = .ok (.aload_n 0, 1) := by decide +kernel
theorem dX3_init_5 : decode cX3_init 5 = .ok (.new 7, 3) := by decide +kernel
theorem dX3_init_8 : decode cX3_init 8 = .ok (.dup, 1) := by decide +kernel
theorem dX3_init_9 : decode cX3_init 9 = .ok (.invokespecial 9, 3) := by decide +kernel
theorem dX3_init_12 : decode cX3_init 12 = .ok (.putfield 10, 3) := by decide +kernel
theorem dX3_init_15 : decode cX3_init 15 = .ok (.aload_n 0, 1) := by decide +kernel
theorem dX3_init_16 : decode cX3_init 16 = .ok (.new 16, 3) := by decide +kernel
theorem dX3_init_19 : decode cX3_init 19 = .ok (.dup, 1) := by decide +kernel
theorem dX3_init_20 : decode cX3_init 20 = .ok (.invokespecial 18, 3) := by decide +kernel
theorem dX3_init_23 : decode cX3_init 23 = .ok (.putfield 19, 3) := by decide +kernel
theorem dX3_init_26 : decode cX3_init 26 = .ok (.aload_n 0, 1) := by decide +kernel
theorem dX3_init_27 : decode cX3_init 27 = .ok (.new 23, 3) := by decide +kernel
theorem dX3_init_30 : decode cX3_init 30 = .ok (.dup, 1) := by decide +kernel
theorem dX3_init_31 : decode cX3_init 31 = .ok (.invokespecial 25, 3) := by decide +kernel
theorem dX3_init_34 : decode cX3_init 34 = .ok (.putfield 26, 3) := by decide +kernel
theorem dX3_init_37 : decode cX3_init 37 = .ok (.aload_n 0, 1) := by decide +kernel
theorem dX3_init_38 : decode cX3_init 38 = .ok (.new 30, 3) := by decide +kernel
theorem dX3_init_41 : decode cX3_init 41 = .ok (.dup, 1) := by decide +kernel
theorem dX3_init_42 : decode cX3_init 42 = .ok (.invokespecial 32, 3) := by decide +kernel
theorem dX3_init_45 : decode cX3_init 45 = .ok (.putfield 33, 3) := by decide +kernel
theorem dX3_init_48 : decode cX3_init 48 = .ok (.aload_n 0, 1) := by decide +kernel
theorem dX3_init_49 : decode cX3_init 49 = .ok (.new 37, 3) := by decide +kernel
theorem dX3_init_52 : decode cX3_init 52 = .ok (.dup, 1) := by decide +kernel
theorem dX3_init_53 : decode cX3_init 53 = .ok (.invokespecial 39, 3) := by decide +kernel
theorem dX3_init_56 : decode cX3_init 56 = .ok (.putfield 40, 3) := by decide +kernel
theorem dX3_init_59 : decode cX3_init 59 = .ok (.aload_n 0, 1) := by decide +kernel
theorem dX3_init_60 : decode cX3_init 60 = .ok (.new 44, 3) := by decide +kernel
theorem dX3_init_63 : decode cX3_init 63 = .ok (.dup, 1) := by decide +kernel
theorem dX3_init_64 : decode cX3_init 64 = .ok (.invokespecial 46, 3) := by decide +kernel
theorem dX3_init_67 : decode cX3_init 67 = .ok (.putfield 47, 3) := by decide +kernel
theorem dX3_init_70 : decode cX3_init 70 = .ok (.return_, 1) := by decide +kernel
theorem dX3_copy_0 : decode cX3_copy 0 = .ok (.aload_n 0, 1) := by decide +kernel
theorem dX3_copy_1 : decode cX3_copy 1 = .ok (.getfield 10, 3) := by decide +kernel
theorem dX3_copy_4 : decode cX3_copy 4 = .ok (.aload_n 1, 1) := by decide +kernel
theorem dX3_copy_5 : decode cX3_copy 5 = .ok (.getfield 10, 3) := by decide +kernel
theorem dX3_copy_8 : decode cX3_copy 8 = .ok (.invokevirtual 51, 3) := by decide +kernel
theorem dX3_copy_11 : decode cX3_copy 11 = .ok (.aload_n 0, 1) := by decide +kernel
theorem dX3_copy_12 : decode cX3_copy 12 = .ok (.getfield 19, 3) := by decide +kernel
theorem dX3_copy_15 : decode cX3_copy 15 = .ok (.aload_n 1, 1) := by decide +kernel
theorem dX3_copy_16 : decode cX3_copy 16 = .ok (.getfield 19, 3) := by decide +kernel
theorem dX3_copy_19 : decode cX3_copy 19 = .ok (.invokevirtual 55, 3) := by decide +kernel
theorem dX3_copy_22 : decode cX3_copy 22 = .ok (.aload_n 0, 1) := by decide +kernel
theorem dX3_copy_23 : decode cX3_copy 23 = .ok (.getfield 26, 3) := by decide +kernel
theorem dX3_copy_26 : decode cX3_copy 26 = .ok (.aload_n 1, 1) := by decide +kernel
theorem dX3_copy_27 : decode cX3_copy 27 = .ok (.getfield 26, 3) := by decide +kernel
theorem dX3_copy_30 : decode cX3_copy 30 = .ok (.invokevirtual 58, 3) := by decide +kernel
theorem dX3_copy_33 : decode cX3_copy 33 = .ok (.aload_n 0, 1) := by decide +kernel
theorem dX3_copy_34 : decode cX3_copy 34 = .ok (.getfield 33, 3) := by decide +kernel
theorem dX3_copy_37 : decode cX3_copy 37 = .ok (.aload_n 1, 1) := by decide +kernel
theorem dX3_copy_38 : decode cX3_copy 38 = .ok (.getfield 33, 3) := by decide +kernel
theorem dX3_copy_41 : decode cX3_copy 41 = .ok (.invokevirtual 61, 3) := by decide +kernel
theorem dX3_copy_44 : decode cX3_copy 44 = .ok (.aload_n 0, 1) := by decide +kernel
theorem dX3_copy_45 : decode cX3_copy 45 = .ok (.getfield 40, 3) := by decide +kernel
theorem dX3_copy_48 : decode cX3_copy 48 = .ok (.aload_n 1, 1) := by decide +kernel
theorem dX3_copy_49 : decode cX3_copy 49 = .ok (.getfield 40, 3) := by decide +kernel
theorem dX3_copy_52 : decode cX3_copy 52 = .ok (.invokevirtual 64, 3) := by decide +kernel
theorem dX3_copy_55 : decode cX3_copy 55 = .ok (.aload_n 0, 1) := by decide +kernel
theorem dX3_copy_56 : decode cX3_copy 56 = .ok (.getfield 47, 3) := by decide +kernel
theorem dX3_copy_59 : decode cX3_copy 59 = .ok (.aload_n 1, 1) := by decide +kernel
theorem dX3_copy_60 : decode cX3_copy 60 = .ok (.getfield 47, 3) := by decide +kernel
theorem dX3_copy_63 : decode cX3_copy 63 = .ok (.invokevirtual 67, 3) := by decide +kernel
theorem dX3_copy_66 : decode cX3_copy 66 = .ok (.return_, 1) := by decide +kernel
theorem dX4_init_0 : decode cX4_init 0 = .ok (.aload_n 0, 1) := by decide +kernel
theorem dX4_init_1 : decode cX4_init 1 = .ok (.invokespecial 5, 3) := by decide +kernel
theorem dX4_init_4 : decode cX4_init 4 = .ok (.aload_n 0, 1) := by decide +kernel
theorem dX4_init_5 : decode cX4_init 5 = .ok (.bipush 79, 2) := by decide +kernel
theorem dX4_init_7 : decode cX4_init 7 = .ok (.newarray .long, 2) := by decide +kernel
theorem dX4_init_9 : decode cX4_init 9 = .ok (.putfield 11, 3) := by decide +kernel
theorem dX4_init_12 : decode cX4_init 12 = .ok (.aload_n 0, 1) := by decide +kernel
theorem dX4_init_13 : decode cX4_init 13 = .ok (.bipush 79, 2) := by decide +kernel
theorem dX4_init_15 : decode cX4_init 15 = .ok (.newarray .long, 2) := by decide +kernel
theorem dX4_init_17 : decode cX4_init 17 = .ok (.putfield 15, 3) := by decide +kernel
theorem dX4_init_20 : decode cX4_init 20 = .ok (.aload_n 0, 1) := by decide +kernel
theorem dX4_init_21 : decode cX4_init 21 = .ok (.aload_n 1, 1) := by decide +kernel
theorem dX4_init_22 : decode cX4_init 22 = .ok (.putfield 18, 3) := by decide +kernel
theorem dX4_init_25 : decode cX4_init 25 = .ok (.aload_n 0, 1) := by decide +kernel
theorem dX4_init_26 : decode cX4_init 26 = .ok (.aload_n 2, 1) := by decide +kernel
theorem dX4_init_27 : decode cX4_init 27 = .ok (.putfield 22, 3) := by decide +kernel
theorem dX4_init_30 : decode cX4_init 30 = .ok (.return_, 1) := by decide +kernel
theorem dX4_markHolidays_0 : decode cX4_markHolidays 0 = .ok (.aload_n 0, 1) := by decide +kernel
theorem dX4_markHolidays_1 : decode cX4_markHolidays 1 = .ok (.getfield 11, 3) := by decide +kernel
theorem dX4_markHolidays_4 : decode cX4_markHolidays 4 = .ok (.invokestatic 26, 3) := by decide +kernel
theorem dX4_markHolidays_7 : decode cX4_markHolidays 7 = .ok (.iconst 0, 1) := by decide +kernel
theorem dX4_markHolidays_8 : decode cX4_markHolidays 8 = .ok (.istore_n 1, 1) := by decide +kernel
theorem dX4_markHolidays_9 : decode cX4_markHolidays 9 = .ok (.iload_n 1, 1) := by decide +kernel
theorem dX4_markHolidays_10 : decode cX4_markHolidays 10 = .ok (.aload_n 0, 1) := by decide +kernel
theorem dX4_markHolidays_11 : decode cX4_markHolidays 11 = .ok (.getfield 18, 3) := by decide +kernel
theorem dX4_markHolidays_14 : decode cX4_markHolidays 14 = .ok (.getfield 30, 3) := by decide +kernel
theorem dX4_markHolidays_17 : decode cX4_markHolidays 17 = .ok (.if_icmp .ge 34, 3) := by decide +kernel
theorem dX4_markHolidays_20 : decode cX4_markHolidays 20 = .ok (.aload_n 0, 1) := by decide +kernel
theorem dX4_markHolidays_21 : decode cX4_markHolidays 21 = .ok (.getfield 11, 3) := by decide +kernel
theorem dX4_markHolidays_24 : decode cX4_markHolidays 24 = .ok (.aload_n 0, 1) := by decide +kernel
theorem dX4_markHolidays_25 : decode cX4_markHolidays 25 = .ok (.getfield 18, 3) := by decide +kernel
theorem dX4_markHolidays_28 : decode cX4_markHolidays 28 = .ok (.getfield 36, 3) := by decide +kernel
theorem dX4_markHolidays_31 : decode cX4_markHolidays 31 = .ok (.iload_n 1, 1) := by decide +kernel
theorem dX4_markHolidays_32 : decode cX4_markHolidays 32 = .ok (.iaload, 1) := by decide +kernel
theorem dX4_markHolidays_33 : decode cX4_markHolidays 33 = .ok (.aload_n 0, 1) := by decide +kernel
theorem dX4_markHolidays_34 : decode cX4_markHolidays 34 = .ok (.getfield 18, 3) := by decide +kernel
theorem dX4_markHolidays_37 : decode cX4_markHolidays 37 = .ok (.getfield 36, 3) := by decide +kernel
theorem dX4_markHolidays_40 : decode cX4_markHolidays 40 = .ok (.iload_n 1, 1) := by decide +kernel
theorem dX4_markHolidays_41 : decode cX4_markHolidays 41 = .ok (.iaload, 1) := by decide +kernel
theorem dX4_markHolidays_42 : decode cX4_markHolidays 42 = .ok (.invokestatic 39, 3) := by decide +kernel
theorem dX4_markHolidays_45 : decode cX4_markHolidays 45 = .ok (.iinc 1 1, 3) := by decide +kernel
theorem dX4_markHolidays_48 : decode cX4_markHolidays 48 = .ok (.goto (-39), 3) := by decide +kernel
theorem dX4_markHolidays_51 : decode cX4_markHolidays 51 = .ok (.return_, 1) := by decide +kernel
theorem dX4_markStays_0 : decode cX4_markStays 0 = .ok (.aload_n 0, 1) := by decide +kernel
theorem dX4_markStays_1 : decode cX4_markStays 1 = .ok (.getfield 15, 3) := by decide +kernel
theorem dX4_markStays_4 : decode cX4_markStays 4 = .ok (.invokestatic 26, 3) := by decide +kernel
theorem dX4_markStays_7 : decode cX4_markStays 7 = .ok (.iconst 0, 1) := by decide +kernel
theorem dX4_markStays_8 : decode cX4_markStays 8 = .ok (.istore_n 3, 1) := by decide +kernel
theorem dX4_markStays_9 : decode cX4_markStays 9 = .ok (.iload_n 3, 1) := by decide +kernel
theorem dX4_markStays_10 : decode cX4_markStays 10 = .ok (.aload_n 0, 1) := by decide +kernel
theorem dX4_markStays_11 : decode cX4_markStays 11 = .ok (.getfield 22, 3) := by decide +kernel
theorem dX4_markStays_14 : decode cX4_markStays 14 = .ok (.getfield 43, 3) := by decide +kernel
theorem dX4_markStays_17 : decode cX4_markStays 17 = .ok (.if_icmp .ge 59, 3) := by decide +kernel
theorem dX4_markStays_20 : decode cX4_markStays 20 = .ok (.aload_n 0, 1) := by decide +kernel
theorem dX4_markStays_21 : decode cX4_markStays 21 = .ok (.getfield 22, 3) := by decide +kernel
theorem dX4_markStays_24 : decode cX4_markStays 24 = .ok (.iload_n 3, 1) := by decide +kernel
theorem dX4_markStays_25 : decode cX4_markStays 25 = .ok (.aload_n 1, 1) := by decide +kernel
theorem dX4_markStays_26 : decode cX4_markStays 26 = .ok (.getfield 48, 3) := by decide +kernel
theorem dX4_markStays_29 : decode cX4_markStays 29 = .ok (.iload_n 2, 1) := by decide +kernel
theorem dX4_markStays_30 : decode cX4_markStays 30 = .ok (.iaload, 1) := by decide +kernel
theorem dX4_markStays_31 : decode cX4_markStays 31 = .ok (.aload_n 1, 1) := by decide +kernel
theorem dX4_markStays_32 : decode cX4_markStays 32 = .ok (.getfield 53, 3) := by decide +kernel
theorem dX4_markStays_35 : decode cX4_markStays 35 = .ok (.iload_n 2, 1) := by decide +kernel
theorem dX4_markStays_36 : decode cX4_markStays 36 = .ok (.iaload, 1) := by decide +kernel
theorem dX4_markStays_37 : decode cX4_markStays 37 = .ok (.invokevirtual 56, 3) := by decide +kernel
theorem dX4_markStays_40 : decode cX4_markStays 40 = .ok (.ifCond .eq 30, 3) := by decide +kernel
theorem dX4_markStays_43 : decode cX4_markStays 43 = .ok (.aload_n 0, 1) := by decide +kernel
theorem dX4_markStays_44 : decode cX4_markStays 44 = .ok (.getfield 15, 3) := by decide +kernel
theorem dX4_markStays_47 : decode cX4_markStays 47 = .ok (.aload_n 0, 1) := by decide +kernel
theorem dX4_markStays_48 : decode cX4_markStays 48 = .ok (.getfield 22, 3) := by decide +kernel
theorem dX4_markStays_51 : decode cX4_markStays 51 = .ok (.getfield 60, 3) := by decide +kernel
theorem dX4_markStays_54 : decode cX4_markStays 54 = .ok (.iload_n 3, 1) := by decide +kernel
theorem dX4_markStays_55 : decode cX4_markStays 55 = .ok (.iaload, 1) := by decide +kernel
theorem dX4_markStays_56 : decode cX4_markStays 56 = .ok (.iconst 1, 1) := by decide +kernel
theorem dX4_markStays_57 : decode cX4_markStays 57 = .ok (.iadd, 1) := by decide +kernel
theorem dX4_markStays_58 : decode cX4_markStays 58 = .ok (.aload_n 0, 1) := by decide +kernel
theorem dX4_markStays_59 : decode cX4_markStays 59 = .ok (.getfield 22, 3) := by decide +kernel
theorem dX4_markStays_62 : decode cX4_markStays 62 = .ok (.getfield 63, 3) := by decide +kernel
theorem dX4_markStays_65 : decode cX4_markStays 65 = .ok (.iload_n 3, 1) := by decide +kernel
theorem dX4_markStays_66 : decode cX4_markStays 66 = .ok (.iaload, 1) := by decide +kernel
theorem dX4_markStays_67 : decode cX4_markStays 67 = .ok (.invokestatic 39, 3) := by decide +kernel
theorem dX4_markStays_70 : decode cX4_markStays 70 = .ok (.iinc 3 1, 3) := by decide +kernel
theorem dX4_markStays_73 : decode cX4_markStays 73 = .ok (.goto (-64), 3) := by decide +kernel
theorem dX4_markStays_76 : decode cX4_markStays 76 = .ok (.return_, 1) := by decide +kernel
theorem dX4_clear_0 : decode cX4_clear 0 = .ok (.iconst 0, 1) := by decide +kernel
theorem dX4_clear_1 : decode cX4_clear 1 = .ok (.istore_n 1, 1) := by decide +kernel
theorem dX4_clear_2 : decode cX4_clear 2 = .ok (.iload_n 1, 1) := by decide +kernel
theorem dX4_clear_3 : decode cX4_clear 3 = .ok (.bipush 79, 2) := by decide +kernel
theorem dX4_clear_5 : decode cX4_clear 5 = .ok (.if_icmp .ge 13, 3) := by decide +kernel
theorem dX4_clear_8 : decode cX4_clear 8 = .ok (.aload_n 0, 1) := by decide +kernel
theorem dX4_clear_9 : decode cX4_clear 9 = .ok (.iload_n 1, 1) := by decide +kernel
theorem dX4_clear_10 : decode cX4_clear 10 = .ok (.lconst 0, 1) := by decide +kernel
theorem dX4_clear_11 : decode cX4_clear 11 = .ok (.lastore, 1) := by decide +kernel
theorem dX4_clear_12 : decode cX4_clear 12 = .ok (.iinc 1 1, 3) := by decide +kernel
theorem dX4_clear_15 : decode cX4_clear 15 = .ok (.goto (-13), 3) := by decide +kernel
theorem dX4_clear_18 : decode cX4_clear 18 = .ok (.return_, 1) := by decide +kernel
theorem dX4_mark_0 : decode cX4_mark 0 = .ok (.iload_n 1, 1) := by decide +kernel
theorem dX4_mark_1 : decode cX4_mark 1 = .ok (.ifCond .lt 10, 3) := by decide +kernel
theorem dX4_mark_4 : decode cX4_mark 4 = .ok (.iload_n 2, 1) := by decide +kernel
theorem dX4_mark_5 : decode cX4_mark 5 = .ok (.sipush 4999, 3) := by decide +kernel
theorem dX4_mark_8 : decode cX4_mark 8 = .ok (.if_icmp .le 4, 3) := by decide +kernel
theorem dX4_mark_11 : decode cX4_mark 11 = .ok (.return_, 1) := by decide +kernel
theorem dX4_mark_12 : decode cX4_mark 12 = .ok (.iload_n 1, 1) := by decide +kernel
theorem dX4_mark_13 : decode cX4_mark 13 = .ok (.istore_n 3, 1) := by decide +kernel
theorem dX4_mark_14 : decode cX4_mark 14 = .ok (.iload_n 3, 1) := by decide +kernel
theorem dX4_mark_15 : decode cX4_mark 15 = .ok (.iload_n 2, 1) := by decide +kernel
theorem dX4_mark_16 : decode cX4_mark 16 = .ok (.if_icmp .gt 70, 3) := by decide +kernel
theorem dX4_mark_19 : decode cX4_mark 19 = .ok (.iload_n 3, 1) := by decide +kernel
theorem dX4_mark_20 : decode cX4_mark 20 = .ok (.bipush 64, 2) := by decide +kernel
theorem dX4_mark_22 : decode cX4_mark 22 = .ok (.irem, 1) := by decide +kernel
theorem dX4_mark_23 : decode cX4_mark 23 = .ok (.ifCond .ne 17, 3) := by decide +kernel
theorem dX4_mark_26 : decode cX4_mark 26 = .ok (.iload_n 3, 1) := by decide +kernel
theorem dX4_mark_27 : decode cX4_mark 27 = .ok (.bipush 64, 2) := by decide +kernel
theorem dX4_mark_29 : decode cX4_mark 29 = .ok (.iadd, 1) := by decide +kernel
theorem dX4_mark_30 : decode cX4_mark 30 = .ok (.iconst 1, 1) := by decide +kernel
theorem dX4_mark_31 : decode cX4_mark 31 = .ok (.isub, 1) := by decide +kernel
theorem dX4_mark_32 : decode cX4_mark 32 = .ok (.iload_n 2, 1) := by decide +kernel
theorem dX4_mark_33 : decode cX4_mark 33 = .ok (.if_icmp .gt 7, 3) := by decide +kernel
theorem dX4_mark_36 : decode cX4_mark 36 = .ok (.iconst 1, 1) := by decide +kernel
theorem dX4_mark_37 : decode cX4_mark 37 = .ok (.goto 4, 3) := by decide +kernel
theorem dX4_mark_40 : decode cX4_mark 40 = .ok (.iconst 0, 1) := by decide +kernel
theorem dX4_mark_41 : decode cX4_mark 41 = .ok (.istore 4, 2) := by decide +kernel
theorem dX4_mark_43 : decode cX4_mark 43 = .ok (.aload_n 0, 1) := by decide +kernel
theorem dX4_mark_44 : decode cX4_mark 44 = .ok (.iload_n 3, 1) := by decide +kernel
theorem dX4_mark_45 : decode cX4_mark 45 = .ok (.bipush 64, 2) := by decide +kernel
theorem dX4_mark_47 : decode cX4_mark 47 = .ok (.idiv, 1) := by decide +kernel
theorem dX4_mark_48 : decode cX4_mark 48 = .ok (.dup2, 1) := by decide +kernel
theorem dX4_mark_49 : decode cX4_mark 49 = .ok (.laload, 1) := by decide +kernel
theorem dX4_mark_50 : decode cX4_mark 50 = .ok (.iload 4, 2) := by decide +kernel
theorem dX4_mark_52 : decode cX4_mark 52 = .ok (.ifCond .eq 9, 3) := by decide +kernel
theorem dX4_mark_55 : decode cX4_mark 55 = .ok (.ldc2_w 66, 3) := by decide +kernel
theorem dX4_mark_58 : decode cX4_mark 58 = .ok (.goto 9, 3) := by decide +kernel
theorem dX4_mark_61 : decode cX4_mark 61 = .ok (.lconst 1, 1) := by decide +kernel
theorem dX4_mark_62 : decode cX4_mark 62 = .ok (.iload_n 3, 1) := by decide +kernel
theorem dX4_mark_63 : decode cX4_mark 63 = .ok (.bipush 64, 2) := by decide +kernel
theorem dX4_mark_65 : decode cX4_mark 65 = .ok (.irem, 1) := by decide +kernel
theorem dX4_mark_66 : decode cX4_mark 66 = .ok (.lshl, 1) := by decide +kernel
theorem dX4_mark_67 : decode cX4_mark 67 = .ok (.lor, 1) := by decide +kernel
theorem dX4_mark_68 : decode cX4_mark 68 = .ok (.lastore, 1) := by decide +kernel
theorem dX4_mark_69 : decode cX4_mark 69 = .ok (.iload_n 3, 1) := by decide +kernel
theorem dX4_mark_70 : decode cX4_mark 70 = .ok (.iload 4, 2) := by decide +kernel
theorem dX4_mark_72 : decode cX4_mark 72 = .ok (.ifCond .eq 8, 3) := by decide +kernel
theorem dX4_mark_75 : decode cX4_mark 75 = .ok (.bipush 64, 2) := by decide +kernel
theorem dX4_mark_77 : decode cX4_mark 77 = .ok (.goto 4, 3) := by decide +kernel
theorem dX4_mark_80 : decode cX4_mark 80 = .ok (.iconst 1, 1) := by decide +kernel
theorem dX4_mark_81 : decode cX4_mark 81 = .ok (.iadd, 1) := by decide +kernel
theorem dX4_mark_82 : decode cX4_mark 82 = .ok (.istore_n 3, 1) := by decide +kernel
theorem dX4_mark_83 : decode cX4_mark 83 = .ok (.goto (-69), 3) := by decide +kernel
theorem dX4_mark_86 : decode cX4_mark 86 = .ok (.return_, 1) := by decide +kernel
theorem dX4_isMarked_0 : decode cX4_isMarked 0 = .ok (.iload_n 1, 1) := by decide +kernel
theorem dX4_isMarked_1 : decode cX4_isMarked 1 = .ok (.invokestatic 68, 3) := by decide +kernel
theorem dX4_isMarked_4 : decode cX4_isMarked 4 = .ok (.ifCond .eq 25, 3) := by decide +kernel
theorem dX4_isMarked_7 : decode cX4_isMarked 7 = .ok (.aload_n 0, 1) := by decide +kernel
theorem dX4_isMarked_8 : decode cX4_isMarked 8 = .ok (.iload_n 1, 1) := by decide +kernel
theorem dX4_isMarked_9 : decode cX4_isMarked 9 = .ok (.bipush 64, 2) := by decide +kernel
theorem dX4_isMarked_11 : decode cX4_isMarked 11 = .ok (.idiv, 1) := by decide +kernel
theorem dX4_isMarked_12 : decode cX4_isMarked 12 = .ok (.laload, 1) := by decide +kernel
theorem dX4_isMarked_13 : decode cX4_isMarked 13 = .ok (.iload_n 1, 1) := by decide +kernel
theorem dX4_isMarked_14 : decode cX4_isMarked 14 = .ok (.bipush 64, 2) := by decide +kernel
theorem dX4_isMarked_16 : decode cX4_isMarked 16 = .ok (.irem, 1) := by decide +kernel
theorem dX4_isMarked_17 : decode cX4_isMarked 17 = .ok (.lushr, 1) := by decide +kernel
theorem dX4_isMarked_18 : decode cX4_isMarked 18 = .ok (.lconst 1, 1) := by decide +kernel
theorem dX4_isMarked_19 : decode cX4_isMarked 19 = .ok (.land, 1) := by decide +kernel
theorem dX4_isMarked_20 : decode cX4_isMarked 20 = .ok (.lconst 1, 1) := by decide +kernel
theorem dX4_isMarked_21 : decode cX4_isMarked 21 = .ok (.lcmp, 1) := by decide +kernel
theorem dX4_isMarked_22 : decode cX4_isMarked 22 = .ok (.ifCond .ne 7, 3) := by decide +kernel
theorem dX4_isMarked_25 : decode cX4_isMarked 25 = .ok (.iconst 1, 1) := by decide +kernel
theorem dX4_isMarked_26 : decode cX4_isMarked 26 = .ok (.goto 4, 3) := by decide +kernel
theorem dX4_isMarked_29 : decode cX4_isMarked 29 = .ok (.iconst 0, 1) := by decide +kernel
theorem dX4_isMarked_30 : decode cX4_isMarked 30 = .ok (.ireturn, 1) := by decide +kernel
theorem dX4_isCourt_0 : decode cX4_isCourt 0 = .ok (.iload_n 1, 1) := by decide +kernel
theorem dX4_isCourt_1 : decode cX4_isCourt 1 = .ok (.bipush 7, 2) := by decide +kernel
theorem dX4_isCourt_3 : decode cX4_isCourt 3 = .ok (.irem, 1) := by decide +kernel
theorem dX4_isCourt_4 : decode cX4_isCourt 4 = .ok (.iconst 5, 1) := by decide +kernel
theorem dX4_isCourt_5 : decode cX4_isCourt 5 = .ok (.if_icmp .ge 18, 3) := by decide +kernel
theorem dX4_isCourt_8 : decode cX4_isCourt 8 = .ok (.aload_n 0, 1) := by decide +kernel
theorem dX4_isCourt_9 : decode cX4_isCourt 9 = .ok (.getfield 11, 3) := by decide +kernel
theorem dX4_isCourt_12 : decode cX4_isCourt 12 = .ok (.iload_n 1, 1) := by decide +kernel
theorem dX4_isCourt_13 : decode cX4_isCourt 13 = .ok (.invokestatic 72, 3) := by decide +kernel
theorem dX4_isCourt_16 : decode cX4_isCourt 16 = .ok (.ifCond .ne 7, 3) := by decide +kernel
theorem dX4_isCourt_19 : decode cX4_isCourt 19 = .ok (.iconst 1, 1) := by decide +kernel
theorem dX4_isCourt_20 : decode cX4_isCourt 20 = .ok (.goto 4, 3) := by decide +kernel
theorem dX4_isCourt_23 : decode cX4_isCourt 23 = .ok (.iconst 0, 1) := by decide +kernel
theorem dX4_isCourt_24 : decode cX4_isCourt 24 = .ok (.ireturn, 1) := by decide +kernel
theorem dX4_countCourt_0 : decode cX4_countCourt 0 = .ok (.aload_n 0, 1) := by decide +kernel
theorem dX4_countCourt_1 : decode cX4_countCourt 1 = .ok (.invokevirtual 76, 3) := by decide +kernel
theorem dX4_countCourt_4 : decode cX4_countCourt 4 = .ok (.iconst 0, 1) := by decide +kernel
theorem dX4_countCourt_5 : decode cX4_countCourt 5 = .ok (.istore_n 3, 1) := by decide +kernel
theorem dX4_countCourt_6 : decode cX4_countCourt 6 = .ok (.iload_n 1, 1) := by decide +kernel
theorem dX4_countCourt_7 : decode cX4_countCourt 7 = .ok (.istore 4, 2) := by decide +kernel
theorem dX4_countCourt_9 : decode cX4_countCourt 9 = .ok (.iload 4, 2) := by decide +kernel
theorem dX4_countCourt_11 : decode cX4_countCourt 11 = .ok (.iload_n 2, 1) := by decide +kernel
theorem dX4_countCourt_12 : decode cX4_countCourt 12 = .ok (.if_icmp .gt 26, 3) := by decide +kernel
theorem dX4_countCourt_15 : decode cX4_countCourt 15 = .ok (.iload_n 3, 1) := by decide +kernel
theorem dX4_countCourt_16 : decode cX4_countCourt 16 = .ok (.aload_n 0, 1) := by decide +kernel
theorem dX4_countCourt_17 : decode cX4_countCourt 17 = .ok (.iload 4, 2) := by decide +kernel
theorem dX4_countCourt_19 : decode cX4_countCourt 19 = .ok (.invokevirtual 79, 3) := by decide +kernel
theorem dX4_countCourt_22 : decode cX4_countCourt 22 = .ok (.ifCond .eq 7, 3) := by decide +kernel
theorem dX4_countCourt_25 : decode cX4_countCourt 25 = .ok (.iconst 1, 1) := by decide +kernel
theorem dX4_countCourt_26 : decode cX4_countCourt 26 = .ok (.goto 4, 3) := by decide +kernel
theorem dX4_countCourt_29 : decode cX4_countCourt 29 = .ok (.iconst 0, 1) := by decide +kernel
theorem dX4_countCourt_30 : decode cX4_countCourt 30 = .ok (.iadd, 1) := by decide +kernel
theorem dX4_countCourt_31 : decode cX4_countCourt 31 = .ok (.istore_n 3, 1) := by decide +kernel
theorem dX4_countCourt_32 : decode cX4_countCourt 32 = .ok (.iinc 4 1, 3) := by decide +kernel
theorem dX4_countCourt_35 : decode cX4_countCourt 35 = .ok (.goto (-26), 3) := by decide +kernel
theorem dX4_countCourt_38 : decode cX4_countCourt 38 = .ok (.iload_n 3, 1) := by decide +kernel
theorem dX4_countCourt_39 : decode cX4_countCourt 39 = .ok (.ireturn, 1) := by decide +kernel
theorem dX4_countStopped_0 : decode cX4_countStopped 0 = .ok (.aload_n 0, 1) := by decide +kernel
theorem dX4_countStopped_1 : decode cX4_countStopped 1 = .ok (.aload_n 1, 1) := by decide +kernel
theorem dX4_countStopped_2 : decode cX4_countStopped 2 = .ok (.iload_n 2, 1) := by decide +kernel
theorem dX4_countStopped_3 : decode cX4_countStopped 3 = .ok (.invokevirtual 82, 3) := by decide +kernel
theorem dX4_countStopped_6 : decode cX4_countStopped 6 = .ok (.iconst 0, 1) := by decide +kernel
theorem dX4_countStopped_7 : decode cX4_countStopped 7 = .ok (.istore 5, 2) := by decide +kernel
theorem dX4_countStopped_9 : decode cX4_countStopped 9 = .ok (.iload_n 3, 1) := by decide +kernel
theorem dX4_countStopped_10 : decode cX4_countStopped 10 = .ok (.istore 6, 2) := by decide +kernel
theorem dX4_countStopped_12 : decode cX4_countStopped 12 = .ok (.iload 6, 2) := by decide +kernel
theorem dX4_countStopped_14 : decode cX4_countStopped 14 = .ok (.iload 4, 2) := by decide +kernel
theorem dX4_countStopped_16 : decode cX4_countStopped 16 = .ok (.if_icmp .gt 31, 3) := by decide +kernel
theorem dX4_countStopped_19 : decode cX4_countStopped 19 = .ok (.iload 5, 2) := by decide +kernel
theorem dX4_countStopped_21 : decode cX4_countStopped 21 = .ok (.aload_n 0, 1) := by decide +kernel
theorem dX4_countStopped_22 : decode cX4_countStopped 22 = .ok (.getfield 15, 3) := by decide +kernel
theorem dX4_countStopped_25 : decode cX4_countStopped 25 = .ok (.iload 6, 2) := by decide +kernel
theorem dX4_countStopped_27 : decode cX4_countStopped 27 = .ok (.invokestatic 72, 3) := by decide +kernel
theorem dX4_countStopped_30 : decode cX4_countStopped 30 = .ok (.ifCond .eq 7, 3) := by decide +kernel
theorem dX4_countStopped_33 : decode cX4_countStopped 33 = .ok (.iconst 1, 1) := by decide +kernel
theorem dX4_countStopped_34 : decode cX4_countStopped 34 = .ok (.goto 4, 3) := by decide +kernel
theorem dX4_countStopped_37 : decode cX4_countStopped 37 = .ok (.iconst 0, 1) := by decide +kernel
theorem dX4_countStopped_38 : decode cX4_countStopped 38 = .ok (.iadd, 1) := by decide +kernel
theorem dX4_countStopped_39 : decode cX4_countStopped 39 = .ok (.istore 5, 2) := by decide +kernel
theorem dX4_countStopped_41 : decode cX4_countStopped 41 = .ok (.iinc 6 1, 3) := by decide +kernel
theorem dX4_countStopped_44 : decode cX4_countStopped 44 = .ok (.goto (-32), 3) := by decide +kernel
theorem dX4_countStopped_47 : decode cX4_countStopped 47 = .ok (.iload 5, 2) := by decide +kernel
theorem dX4_countStopped_49 : decode cX4_countStopped 49 = .ok (.ireturn, 1) := by decide +kernel
theorem dX4_endOf_0 : decode cX4_endOf 0 = .ok (.aload_n 0, 1) := by decide +kernel
theorem dX4_endOf_1 : decode cX4_endOf 1 = .ok (.aload_n 1, 1) := by decide +kernel
theorem dX4_endOf_2 : decode cX4_endOf 2 = .ok (.iload_n 2, 1) := by decide +kernel
theorem dX4_endOf_3 : decode cX4_endOf 3 = .ok (.sipush 4999, 3) := by decide +kernel
theorem dX4_endOf_6 : decode cX4_endOf 6 = .ok (.invokevirtual 86, 3) := by decide +kernel
theorem dX4_endOf_9 : decode cX4_endOf 9 = .ok (.aload_n 0, 1) := by decide +kernel
theorem dX4_endOf_10 : decode cX4_endOf 10 = .ok (.getfield 90, 3) := by decide +kernel
theorem dX4_endOf_13 : decode cX4_endOf 13 = .ok (.ireturn, 1) := by decide +kernel
theorem dX4_countedUntil_0 : decode cX4_countedUntil 0 = .ok (.aload_n 0, 1) := by decide +kernel
theorem dX4_countedUntil_1 : decode cX4_countedUntil 1 = .ok (.aload_n 1, 1) := by decide +kernel
theorem dX4_countedUntil_2 : decode cX4_countedUntil 2 = .ok (.iload_n 2, 1) := by decide +kernel
theorem dX4_countedUntil_3 : decode cX4_countedUntil 3 = .ok (.iload_n 3, 1) := by decide +kernel
theorem dX4_countedUntil_4 : decode cX4_countedUntil 4 = .ok (.invokevirtual 86, 3) := by decide +kernel
theorem dX4_countedUntil_7 : decode cX4_countedUntil 7 = .ok (.aload_n 0, 1) := by decide +kernel
theorem dX4_countedUntil_8 : decode cX4_countedUntil 8 = .ok (.getfield 93, 3) := by decide +kernel
theorem dX4_countedUntil_11 : decode cX4_countedUntil 11 = .ok (.ireturn, 1) := by decide +kernel
theorem dX4_walk_0 : decode cX4_walk 0 = .ok (.aload_n 0, 1) := by decide +kernel
theorem dX4_walk_1 : decode cX4_walk 1 = .ok (.invokevirtual 76, 3) := by decide +kernel
theorem dX4_walk_4 : decode cX4_walk 4 = .ok (.aload_n 0, 1) := by decide +kernel
theorem dX4_walk_5 : decode cX4_walk 5 = .ok (.aload_n 1, 1) := by decide +kernel
theorem dX4_walk_6 : decode cX4_walk 6 = .ok (.iload_n 2, 1) := by decide +kernel
theorem dX4_walk_7 : decode cX4_walk 7 = .ok (.invokevirtual 82, 3) := by decide +kernel
theorem dX4_walk_10 : decode cX4_walk 10 = .ok (.aload_n 1, 1) := by decide +kernel
theorem dX4_walk_11 : decode cX4_walk 11 = .ok (.getfield 96, 3) := by decide +kernel
theorem dX4_walk_14 : decode cX4_walk 14 = .ok (.iload_n 2, 1) := by decide +kernel
theorem dX4_walk_15 : decode cX4_walk 15 = .ok (.iaload, 1) := by decide +kernel
theorem dX4_walk_16 : decode cX4_walk 16 = .ok (.istore 4, 2) := by decide +kernel
theorem dX4_walk_18 : decode cX4_walk 18 = .ok (.iconst 0, 1) := by decide +kernel
theorem dX4_walk_19 : decode cX4_walk 19 = .ok (.istore 5, 2) := by decide +kernel
theorem dX4_walk_21 : decode cX4_walk 21 = .ok (.iconst 0, 1) := by decide +kernel
theorem dX4_walk_22 : decode cX4_walk 22 = .ok (.istore 6, 2) := by decide +kernel
theorem dX4_walk_24 : decode cX4_walk 24 = .ok (.aload_n 0, 1) := by decide +kernel
theorem dX4_walk_25 : decode cX4_walk 25 = .ok (.iconst 0, 1) := by decide +kernel
theorem dX4_walk_26 : decode cX4_walk 26 = .ok (.putfield 93, 3) := by decide +kernel
theorem dX4_walk_29 : decode cX4_walk 29 = .ok (.aload_n 0, 1) := by decide +kernel
theorem dX4_walk_30 : decode cX4_walk 30 = .ok (.sipush 5000, 3) := by decide +kernel
theorem dX4_walk_33 : decode cX4_walk 33 = .ok (.putfield 90, 3) := by decide +kernel
theorem dX4_walk_36 : decode cX4_walk 36 = .ok (.aload_n 1, 1) := by decide +kernel
theorem dX4_walk_37 : decode cX4_walk 37 = .ok (.getfield 99, 3) := by decide +kernel
theorem dX4_walk_40 : decode cX4_walk 40 = .ok (.iload_n 2, 1) := by decide +kernel
theorem dX4_walk_41 : decode cX4_walk 41 = .ok (.iaload, 1) := by decide +kernel
theorem dX4_walk_42 : decode cX4_walk 42 = .ok (.iconst 1, 1) := by decide +kernel
theorem dX4_walk_43 : decode cX4_walk 43 = .ok (.iadd, 1) := by decide +kernel
theorem dX4_walk_44 : decode cX4_walk 44 = .ok (.istore 7, 2) := by decide +kernel
theorem dX4_walk_46 : decode cX4_walk 46 = .ok (.iload 7, 2) := by decide +kernel
theorem dX4_walk_48 : decode cX4_walk 48 = .ok (.iload_n 3, 1) := by decide +kernel
theorem dX4_walk_49 : decode cX4_walk 49 = .ok (.if_icmp .gt 120, 3) := by decide +kernel
theorem dX4_walk_52 : decode cX4_walk 52 = .ok (.iload 5, 2) := by decide +kernel
theorem dX4_walk_54 : decode cX4_walk 54 = .ok (.iload 4, 2) := by decide +kernel
theorem dX4_walk_56 : decode cX4_walk 56 = .ok (.if_icmp .ge 113, 3) := by decide +kernel
theorem dX4_walk_59 : decode cX4_walk 59 = .ok (.aload_n 0, 1) := by decide +kernel
theorem dX4_walk_60 : decode cX4_walk 60 = .ok (.getfield 15, 3) := by decide +kernel
theorem dX4_walk_63 : decode cX4_walk 63 = .ok (.iload 7, 2) := by decide +kernel
theorem dX4_walk_65 : decode cX4_walk 65 = .ok (.invokestatic 72, 3) := by decide +kernel
theorem dX4_walk_68 : decode cX4_walk 68 = .ok (.ifCond .eq 6, 3) := by decide +kernel
theorem dX4_walk_71 : decode cX4_walk 71 = .ok (.goto 92, 3) := by decide +kernel
theorem dX4_walk_74 : decode cX4_walk 74 = .ok (.aload_n 0, 1) := by decide +kernel
theorem dX4_walk_75 : decode cX4_walk 75 = .ok (.iload 7, 2) := by decide +kernel
theorem dX4_walk_77 : decode cX4_walk 77 = .ok (.invokevirtual 79, 3) := by decide +kernel
theorem dX4_walk_80 : decode cX4_walk 80 = .ok (.istore 8, 2) := by decide +kernel
theorem dX4_walk_82 : decode cX4_walk 82 = .ok (.aload_n 1, 1) := by decide +kernel
theorem dX4_walk_83 : decode cX4_walk 83 = .ok (.iload_n 2, 1) := by decide +kernel
theorem dX4_walk_84 : decode cX4_walk 84 = .ok (.iload 5, 2) := by decide +kernel
theorem dX4_walk_86 : decode cX4_walk 86 = .ok (.invokevirtual 102, 3) := by decide +kernel
theorem dX4_walk_89 : decode cX4_walk 89 = .ok (.istore 9, 2) := by decide +kernel
theorem dX4_walk_91 : decode cX4_walk 91 = .ok (.iload 6, 2) := by decide +kernel
theorem dX4_walk_93 : decode cX4_walk 93 = .ok (.iload 9, 2) := by decide +kernel
theorem dX4_walk_95 : decode cX4_walk 95 = .ok (.if_icmp .ge 31, 3) := by decide +kernel
theorem dX4_walk_98 : decode cX4_walk 98 = .ok (.iload 8, 2) := by decide +kernel
theorem dX4_walk_100 : decode cX4_walk 100 = .ok (.ifCond .ne 13, 3) := by decide +kernel
theorem dX4_walk_103 : decode cX4_walk 103 = .ok (.aload_n 1, 1) := by decide +kernel
theorem dX4_walk_104 : decode cX4_walk 104 = .ok (.iload_n 2, 1) := by decide +kernel
theorem dX4_walk_105 : decode cX4_walk 105 = .ok (.iload 5, 2) := by decide +kernel
theorem dX4_walk_107 : decode cX4_walk 107 = .ok (.invokevirtual 106, 3) := by decide +kernel
theorem dX4_walk_110 : decode cX4_walk 110 = .ok (.ifCond .ne 16, 3) := by decide +kernel
theorem dX4_walk_113 : decode cX4_walk 113 = .ok (.iinc 6 1, 3) := by decide +kernel
theorem dX4_walk_116 : decode cX4_walk 116 = .ok (.aload_n 0, 1) := by decide +kernel
theorem dX4_walk_117 : decode cX4_walk 117 = .ok (.dup, 1) := by decide +kernel
theorem dX4_walk_118 : decode cX4_walk 118 = .ok (.getfield 93, 3) := by decide +kernel
theorem dX4_walk_121 : decode cX4_walk 121 = .ok (.iconst 1, 1) := by decide +kernel
theorem dX4_walk_122 : decode cX4_walk 122 = .ok (.iadd, 1) := by decide +kernel
theorem dX4_walk_123 : decode cX4_walk 123 = .ok (.putfield 93, 3) := by decide +kernel
theorem dX4_walk_126 : decode cX4_walk 126 = .ok (.iload 6, 2) := by decide +kernel
theorem dX4_walk_128 : decode cX4_walk 128 = .ok (.iload 9, 2) := by decide +kernel
theorem dX4_walk_130 : decode cX4_walk 130 = .ok (.if_icmp .ne 33, 3) := by decide +kernel
theorem dX4_walk_133 : decode cX4_walk 133 = .ok (.iload 8, 2) := by decide +kernel
theorem dX4_walk_135 : decode cX4_walk 135 = .ok (.ifCond .eq 28, 3) := by decide +kernel
theorem dX4_walk_138 : decode cX4_walk 138 = .ok (.iinc 5 1, 3) := by decide +kernel
theorem dX4_walk_141 : decode cX4_walk 141 = .ok (.iconst 0, 1) := by decide +kernel
theorem dX4_walk_142 : decode cX4_walk 142 = .ok (.istore 6, 2) := by decide +kernel
theorem dX4_walk_144 : decode cX4_walk 144 = .ok (.aload_n 0, 1) := by decide +kernel
theorem dX4_walk_145 : decode cX4_walk 145 = .ok (.iload 5, 2) := by decide +kernel
theorem dX4_walk_147 : decode cX4_walk 147 = .ok (.iload 4, 2) := by decide +kernel
theorem dX4_walk_149 : decode cX4_walk 149 = .ok (.if_icmp .ne 8, 3) := by decide +kernel
theorem dX4_walk_152 : decode cX4_walk 152 = .ok (.iload 7, 2) := by decide +kernel
theorem dX4_walk_154 : decode cX4_walk 154 = .ok (.goto 6, 3) := by decide +kernel
theorem dX4_walk_157 : decode cX4_walk 157 = .ok (.sipush 5000, 3) := by decide +kernel
theorem dX4_walk_160 : decode cX4_walk 160 = .ok (.putfield 90, 3) := by decide +kernel
theorem dX4_walk_163 : decode cX4_walk 163 = .ok (.iinc 7 1, 3) := by decide +kernel
theorem dX4_walk_166 : decode cX4_walk 166 = .ok (.goto (-120), 3) := by decide +kernel
theorem dX4_walk_169 : decode cX4_walk 169 = .ok (.return_, 1) := by decide +kernel
theorem dX4_countBack_0 : decode cX4_countBack 0 = .ok (.aload_n 0, 1) := by decide +kernel
theorem dX4_countBack_1 : decode cX4_countBack 1 = .ok (.invokevirtual 76, 3) := by decide +kernel
theorem dX4_countBack_4 : decode cX4_countBack 4 = .ok (.iconst 0, 1) := by decide +kernel
theorem dX4_countBack_5 : decode cX4_countBack 5 = .ok (.istore 4, 2) := by decide +kernel
theorem dX4_countBack_7 : decode cX4_countBack 7 = .ok (.iload_n 1, 1) := by decide +kernel
theorem dX4_countBack_8 : decode cX4_countBack 8 = .ok (.iconst 1, 1) := by decide +kernel
theorem dX4_countBack_9 : decode cX4_countBack 9 = .ok (.isub, 1) := by decide +kernel
theorem dX4_countBack_10 : decode cX4_countBack 10 = .ok (.istore 5, 2) := by decide +kernel
theorem dX4_countBack_12 : decode cX4_countBack 12 = .ok (.iload 5, 2) := by decide +kernel
theorem dX4_countBack_14 : decode cX4_countBack 14 = .ok (.ifCond .lt 50, 3) := by decide +kernel
theorem dX4_countBack_17 : decode cX4_countBack 17 = .ok (.aload_n 0, 1) := by decide +kernel
theorem dX4_countBack_18 : decode cX4_countBack 18 = .ok (.iload 5, 2) := by decide +kernel
theorem dX4_countBack_20 : decode cX4_countBack 20 = .ok (.invokevirtual 79, 3) := by decide +kernel
theorem dX4_countBack_23 : decode cX4_countBack 23 = .ok (.istore 6, 2) := by decide +kernel
theorem dX4_countBack_25 : decode cX4_countBack 25 = .ok (.iload 4, 2) := by decide +kernel
theorem dX4_countBack_27 : decode cX4_countBack 27 = .ok (.iload 6, 2) := by decide +kernel
theorem dX4_countBack_29 : decode cX4_countBack 29 = .ok (.ifCond .ne 7, 3) := by decide +kernel
theorem dX4_countBack_32 : decode cX4_countBack 32 = .ok (.iload_n 3, 1) := by decide +kernel
theorem dX4_countBack_33 : decode cX4_countBack 33 = .ok (.ifCond .ne 7, 3) := by decide +kernel
theorem dX4_countBack_36 : decode cX4_countBack 36 = .ok (.iconst 1, 1) := by decide +kernel
theorem dX4_countBack_37 : decode cX4_countBack 37 = .ok (.goto 4, 3) := by decide +kernel
theorem dX4_countBack_40 : decode cX4_countBack 40 = .ok (.iconst 0, 1) := by decide +kernel
theorem dX4_countBack_41 : decode cX4_countBack 41 = .ok (.iadd, 1) := by decide +kernel
theorem dX4_countBack_42 : decode cX4_countBack 42 = .ok (.istore 4, 2) := by decide +kernel
theorem dX4_countBack_44 : decode cX4_countBack 44 = .ok (.iload 4, 2) := by decide +kernel
theorem dX4_countBack_46 : decode cX4_countBack 46 = .ok (.iload_n 2, 1) := by decide +kernel
theorem dX4_countBack_47 : decode cX4_countBack 47 = .ok (.if_icmp .lt 11, 3) := by decide +kernel
theorem dX4_countBack_50 : decode cX4_countBack 50 = .ok (.iload 6, 2) := by decide +kernel
theorem dX4_countBack_52 : decode cX4_countBack 52 = .ok (.ifCond .eq 6, 3) := by decide +kernel
theorem dX4_countBack_55 : decode cX4_countBack 55 = .ok (.iload 5, 2) := by decide +kernel
theorem dX4_countBack_57 : decode cX4_countBack 57 = .ok (.ireturn, 1) := by decide +kernel
theorem dX4_countBack_58 : decode cX4_countBack 58 = .ok (.iinc 5 (-1), 3) := by decide +kernel
theorem dX4_countBack_61 : decode cX4_countBack 61 = .ok (.goto (-49), 3) := by decide +kernel
theorem dX4_countBack_64 : decode cX4_countBack 64 = .ok (.iconst (-1), 1) := by decide +kernel
theorem dX4_countBack_65 : decode cX4_countBack 65 = .ok (.ireturn, 1) := by decide +kernel
theorem dX5_init_0 : decode cX5_init 0 = .ok (.aload_n 0, 1) := by decide +kernel
theorem dX5_init_1 : decode cX5_init 1 = .ok (.invokespecial 3, 3) := by decide +kernel
theorem dX5_init_4 : decode cX5_init 4 = .ok (.aload_n 0, 1) := by decide +kernel
theorem dX5_init_5 : decode cX5_init 5 = .ok (.bipush 64, 2) := by decide +kernel
theorem dX5_init_7 : decode cX5_init 7 = .ok (.newarray .int, 2) := by decide +kernel
theorem dX5_init_9 : decode cX5_init 9 = .ok (.putfield 9, 3) := by decide +kernel
theorem dX5_init_12 : decode cX5_init 12 = .ok (.aload_n 0, 1) := by decide +kernel
theorem dX5_init_13 : decode cX5_init 13 = .ok (.bipush 8, 2) := by decide +kernel
theorem dX5_init_15 : decode cX5_init 15 = .ok (.newarray .int, 2) := by decide +kernel
theorem dX5_init_17 : decode cX5_init 17 = .ok (.putfield 15, 3) := by decide +kernel
theorem dX5_init_20 : decode cX5_init 20 = .ok (.return_, 1) := by decide +kernel
theorem dX5_copy_0 : decode cX5_copy 0 = .ok (.aload_n 1, 1) := by decide +kernel
theorem dX5_copy_1 : decode cX5_copy 1 = .ok (.getfield 9, 3) := by decide +kernel
theorem dX5_copy_4 : decode cX5_copy 4 = .ok (.iconst 0, 1) := by decide +kernel
theorem dX5_copy_5 : decode cX5_copy 5 = .ok (.aload_n 0, 1) := by decide +kernel
theorem dX5_copy_6 : decode cX5_copy 6 = .ok (.getfield 9, 3) := by decide +kernel
theorem dX5_copy_9 : decode cX5_copy 9 = .ok (.iconst 0, 1) := by decide +kernel
theorem dX5_copy_10 : decode cX5_copy 10 = .ok (.aload_n 0, 1) := by decide +kernel
theorem dX5_copy_11 : decode cX5_copy 11 = .ok (.getfield 9, 3) := by decide +kernel
theorem dX5_copy_14 : decode cX5_copy 14 = .ok (.arraylength, 1) := by decide +kernel
theorem dX5_copy_15 : decode cX5_copy 15 = .ok (.invokestatic 18, 3) := by decide +kernel
theorem dX5_copy_18 : decode cX5_copy 18 = .ok (.aload_n 1, 1) := by decide +kernel
theorem dX5_copy_19 : decode cX5_copy 19 = .ok (.getfield 15, 3) := by decide +kernel
theorem dX5_copy_22 : decode cX5_copy 22 = .ok (.iconst 0, 1) := by decide +kernel
theorem dX5_copy_23 : decode cX5_copy 23 = .ok (.aload_n 0, 1) := by decide +kernel
theorem dX5_copy_24 : decode cX5_copy 24 = .ok (.getfield 15, 3) := by decide +kernel
theorem dX5_copy_27 : decode cX5_copy 27 = .ok (.iconst 0, 1) := by decide +kernel
theorem dX5_copy_28 : decode cX5_copy 28 = .ok (.aload_n 0, 1) := by decide +kernel
theorem dX5_copy_29 : decode cX5_copy 29 = .ok (.getfield 15, 3) := by decide +kernel
theorem dX5_copy_32 : decode cX5_copy 32 = .ok (.arraylength, 1) := by decide +kernel
theorem dX5_copy_33 : decode cX5_copy 33 = .ok (.invokestatic 18, 3) := by decide +kernel
theorem dX5_copy_36 : decode cX5_copy 36 = .ok (.aload_n 0, 1) := by decide +kernel
theorem dX5_copy_37 : decode cX5_copy 37 = .ok (.aload_n 1, 1) := by decide +kernel
theorem dX5_copy_38 : decode cX5_copy 38 = .ok (.getfield 24, 3) := by decide +kernel
theorem dX5_copy_41 : decode cX5_copy 41 = .ok (.putfield 24, 3) := by decide +kernel
theorem dX5_copy_44 : decode cX5_copy 44 = .ok (.return_, 1) := by decide +kernel
theorem dX5_has_0 : decode cX5_has 0 = .ok (.iload_n 1, 1) := by decide +kernel
theorem dX5_has_1 : decode cX5_has 1 = .ok (.ifCond .lt 15, 3) := by decide +kernel
theorem dX5_has_4 : decode cX5_has 4 = .ok (.iload_n 1, 1) := by decide +kernel
theorem dX5_has_5 : decode cX5_has 5 = .ok (.aload_n 0, 1) := by decide +kernel
theorem dX5_has_6 : decode cX5_has 6 = .ok (.getfield 24, 3) := by decide +kernel
theorem dX5_has_9 : decode cX5_has 9 = .ok (.if_icmp .ge 7, 3) := by decide +kernel
theorem dX5_has_12 : decode cX5_has 12 = .ok (.iconst 1, 1) := by decide +kernel
theorem dX5_has_13 : decode cX5_has 13 = .ok (.goto 4, 3) := by decide +kernel
theorem dX5_has_16 : decode cX5_has 16 = .ok (.iconst 0, 1) := by decide +kernel
theorem dX5_has_17 : decode cX5_has 17 = .ok (.ireturn, 1) := by decide +kernel
theorem dX5_add_0 : decode cX5_add 0 = .ok (.aload_n 0, 1) := by decide +kernel
theorem dX5_add_1 : decode cX5_add 1 = .ok (.getfield 24, 3) := by decide +kernel
theorem dX5_add_4 : decode cX5_add 4 = .ok (.bipush 8, 2) := by decide +kernel
theorem dX5_add_6 : decode cX5_add 6 = .ok (.if_icmp .lt 6, 3) := by decide +kernel
theorem dX5_add_9 : decode cX5_add 9 = .ok (.bipush (-3), 2) := by decide +kernel
theorem dX5_add_11 : decode cX5_add 11 = .ok (.ireturn, 1) := by decide +kernel
theorem dX5_add_12 : decode cX5_add 12 = .ok (.aload_n 1, 1) := by decide +kernel
theorem dX5_add_13 : decode cX5_add 13 = .ok (.iconst 0, 1) := by decide +kernel
theorem dX5_add_14 : decode cX5_add 14 = .ok (.aload_n 0, 1) := by decide +kernel
theorem dX5_add_15 : decode cX5_add 15 = .ok (.getfield 9, 3) := by decide +kernel
theorem dX5_add_18 : decode cX5_add 18 = .ok (.aload_n 0, 1) := by decide +kernel
theorem dX5_add_19 : decode cX5_add 19 = .ok (.getfield 24, 3) := by decide +kernel
theorem dX5_add_22 : decode cX5_add 22 = .ok (.bipush 8, 2) := by decide +kernel
theorem dX5_add_24 : decode cX5_add 24 = .ok (.imul, 1) := by decide +kernel
theorem dX5_add_25 : decode cX5_add 25 = .ok (.aload_n 1, 1) := by decide +kernel
theorem dX5_add_26 : decode cX5_add 26 = .ok (.arraylength, 1) := by decide +kernel
theorem dX5_add_27 : decode cX5_add 27 = .ok (.invokestatic 18, 3) := by decide +kernel
theorem dX5_add_30 : decode cX5_add 30 = .ok (.aload_n 0, 1) := by decide +kernel
theorem dX5_add_31 : decode cX5_add 31 = .ok (.getfield 15, 3) := by decide +kernel
theorem dX5_add_34 : decode cX5_add 34 = .ok (.aload_n 0, 1) := by decide +kernel
theorem dX5_add_35 : decode cX5_add 35 = .ok (.getfield 24, 3) := by decide +kernel
theorem dX5_add_38 : decode cX5_add 38 = .ok (.iload_n 2, 1) := by decide +kernel
theorem dX5_add_39 : decode cX5_add 39 = .ok (.iastore, 1) := by decide +kernel
theorem dX5_add_40 : decode cX5_add 40 = .ok (.aload_n 0, 1) := by decide +kernel
theorem dX5_add_41 : decode cX5_add 41 = .ok (.dup, 1) := by decide +kernel
theorem dX5_add_42 : decode cX5_add 42 = .ok (.getfield 24, 3) := by decide +kernel
theorem dX5_add_45 : decode cX5_add 45 = .ok (.iconst 1, 1) := by decide +kernel
theorem dX5_add_46 : decode cX5_add 46 = .ok (.iadd, 1) := by decide +kernel
theorem dX5_add_47 : decode cX5_add 47 = .ok (.putfield 24, 3) := by decide +kernel
theorem dX5_add_50 : decode cX5_add 50 = .ok (.aload_n 0, 1) := by decide +kernel
theorem dX5_add_51 : decode cX5_add 51 = .ok (.getfield 24, 3) := by decide +kernel
theorem dX5_add_54 : decode cX5_add 54 = .ok (.iconst 1, 1) := by decide +kernel
theorem dX5_add_55 : decode cX5_add 55 = .ok (.isub, 1) := by decide +kernel
theorem dX5_add_56 : decode cX5_add 56 = .ok (.ireturn, 1) := by decide +kernel
theorem dX5_find_0 : decode cX5_find 0 = .ok (.iconst 0, 1) := by decide +kernel
theorem dX5_find_1 : decode cX5_find 1 = .ok (.istore_n 3, 1) := by decide +kernel
theorem dX5_find_2 : decode cX5_find 2 = .ok (.iload_n 3, 1) := by decide +kernel
theorem dX5_find_3 : decode cX5_find 3 = .ok (.aload_n 0, 1) := by decide +kernel
theorem dX5_find_4 : decode cX5_find 4 = .ok (.getfield 24, 3) := by decide +kernel
theorem dX5_find_7 : decode cX5_find 7 = .ok (.if_icmp .ge 21, 3) := by decide +kernel
theorem dX5_find_10 : decode cX5_find 10 = .ok (.aload_n 0, 1) := by decide +kernel
theorem dX5_find_11 : decode cX5_find 11 = .ok (.iload_n 3, 1) := by decide +kernel
theorem dX5_find_12 : decode cX5_find 12 = .ok (.aload_n 1, 1) := by decide +kernel
theorem dX5_find_13 : decode cX5_find 13 = .ok (.iload_n 2, 1) := by decide +kernel
theorem dX5_find_14 : decode cX5_find 14 = .ok (.invokevirtual 28, 3) := by decide +kernel
theorem dX5_find_17 : decode cX5_find 17 = .ok (.ifCond .eq 5, 3) := by decide +kernel
theorem dX5_find_20 : decode cX5_find 20 = .ok (.iload_n 3, 1) := by decide +kernel
theorem dX5_find_21 : decode cX5_find 21 = .ok (.ireturn, 1) := by decide +kernel
theorem dX5_find_22 : decode cX5_find 22 = .ok (.iinc 3 1, 3) := by decide +kernel
theorem dX5_find_25 : decode cX5_find 25 = .ok (.goto (-23), 3) := by decide +kernel
theorem dX5_find_28 : decode cX5_find 28 = .ok (.iconst (-1), 1) := by decide +kernel
theorem dX5_find_29 : decode cX5_find 29 = .ok (.ireturn, 1) := by decide +kernel
theorem dX5_isNamed_0 : decode cX5_isNamed 0 = .ok (.aload_n 0, 1) := by decide +kernel
theorem dX5_isNamed_1 : decode cX5_isNamed 1 = .ok (.getfield 15, 3) := by decide +kernel
theorem dX5_isNamed_4 : decode cX5_isNamed 4 = .ok (.iload_n 1, 1) := by decide +kernel
theorem dX5_isNamed_5 : decode cX5_isNamed 5 = .ok (.iaload, 1) := by decide +kernel
theorem dX5_isNamed_6 : decode cX5_isNamed 6 = .ok (.iload_n 3, 1) := by decide +kernel
theorem dX5_isNamed_7 : decode cX5_isNamed 7 = .ok (.if_icmp .eq 5, 3) := by decide +kernel
theorem dX5_isNamed_10 : decode cX5_isNamed 10 = .ok (.iconst 0, 1) := by decide +kernel
theorem dX5_isNamed_11 : decode cX5_isNamed 11 = .ok (.ireturn, 1) := by decide +kernel
theorem dX5_isNamed_12 : decode cX5_isNamed 12 = .ok (.iconst 0, 1) := by decide +kernel
theorem dX5_isNamed_13 : decode cX5_isNamed 13 = .ok (.istore 4, 2) := by decide +kernel
theorem dX5_isNamed_15 : decode cX5_isNamed 15 = .ok (.iload 4, 2) := by decide +kernel
theorem dX5_isNamed_17 : decode cX5_isNamed 17 = .ok (.iload_n 3, 1) := by decide +kernel
theorem dX5_isNamed_18 : decode cX5_isNamed 18 = .ok (.if_icmp .ge 30, 3) := by decide +kernel
theorem dX5_isNamed_21 : decode cX5_isNamed 21 = .ok (.aload_n 0, 1) := by decide +kernel
theorem dX5_isNamed_22 : decode cX5_isNamed 22 = .ok (.getfield 9, 3) := by decide +kernel
theorem dX5_isNamed_25 : decode cX5_isNamed 25 = .ok (.iload_n 1, 1) := by decide +kernel
theorem dX5_isNamed_26 : decode cX5_isNamed 26 = .ok (.bipush 8, 2) := by decide +kernel
theorem dX5_isNamed_28 : decode cX5_isNamed 28 = .ok (.imul, 1) := by decide +kernel
theorem dX5_isNamed_29 : decode cX5_isNamed 29 = .ok (.iload 4, 2) := by decide +kernel
theorem dX5_isNamed_31 : decode cX5_isNamed 31 = .ok (.iadd, 1) := by decide +kernel
theorem dX5_isNamed_32 : decode cX5_isNamed 32 = .ok (.iaload, 1) := by decide +kernel
theorem dX5_isNamed_33 : decode cX5_isNamed 33 = .ok (.aload_n 2, 1) := by decide +kernel
theorem dX5_isNamed_34 : decode cX5_isNamed 34 = .ok (.iload 4, 2) := by decide +kernel
theorem dX5_isNamed_36 : decode cX5_isNamed 36 = .ok (.iaload, 1) := by decide +kernel
theorem dX5_isNamed_37 : decode cX5_isNamed 37 = .ok (.if_icmp .eq 5, 3) := by decide +kernel
theorem dX5_isNamed_40 : decode cX5_isNamed 40 = .ok (.iconst 0, 1) := by decide +kernel
theorem dX5_isNamed_41 : decode cX5_isNamed 41 = .ok (.ireturn, 1) := by decide +kernel
theorem dX5_isNamed_42 : decode cX5_isNamed 42 = .ok (.iinc 4 1, 3) := by decide +kernel
theorem dX5_isNamed_45 : decode cX5_isNamed 45 = .ok (.goto (-30), 3) := by decide +kernel
theorem dX5_isNamed_48 : decode cX5_isNamed 48 = .ok (.iconst 1, 1) := by decide +kernel
theorem dX5_isNamed_49 : decode cX5_isNamed 49 = .ok (.ireturn, 1) := by decide +kernel
theorem dX6_init_0 : decode cX6_init 0 = .ok (.aload_n 0, 1) := by decide +kernel
theorem dX6_init_1 : decode cX6_init 1 = .ok (.invokespecial 3, 3) := by decide +kernel
theorem dX6_init_4 : decode cX6_init 4 = .ok (.aload_n 0, 1) := by decide +kernel
theorem dX6_init_5 : decode cX6_init 5 = .ok (.bipush 16, 2) := by decide +kernel
theorem dX6_init_7 : decode cX6_init 7 = .ok (.newarray .int, 2) := by decide +kernel
theorem dX6_init_9 : decode cX6_init 9 = .ok (.putfield 9, 3) := by decide +kernel
theorem dX6_init_12 : decode cX6_init 12 = .ok (.aload_n 0, 1) := by decide +kernel
theorem dX6_init_13 : decode cX6_init 13 = .ok (.bipush 16, 2) := by decide +kernel
theorem dX6_init_15 : decode cX6_init 15 = .ok (.newarray .int, 2) := by decide +kernel
theorem dX6_init_17 : decode cX6_init 17 = .ok (.putfield 15, 3) := by decide +kernel
theorem dX6_init_20 : decode cX6_init 20 = .ok (.aload_n 0, 1) := by decide +kernel
theorem dX6_init_21 : decode cX6_init 21 = .ok (.bipush 16, 2) := by decide +kernel
theorem dX6_init_23 : decode cX6_init 23 = .ok (.newarray .int, 2) := by decide +kernel
theorem dX6_init_25 : decode cX6_init 25 = .ok (.putfield 18, 3) := by decide +kernel
theorem dX6_init_28 : decode cX6_init 28 = .ok (.aload_n 0, 1) := by decide +kernel
theorem dX6_init_29 : decode cX6_init 29 = .ok (.bipush 16, 2) := by decide +kernel
theorem dX6_init_31 : decode cX6_init 31 = .ok (.newarray .char, 2) := by decide +kernel
theorem dX6_init_33 : decode cX6_init 33 = .ok (.putfield 21, 3) := by decide +kernel
theorem dX6_init_36 : decode cX6_init 36 = .ok (.return_, 1) := by decide +kernel
theorem dX7_init_0 : decode cX7_init 0 = .ok (.aload_n 0, 1) := by decide +kernel
theorem dX7_init_1 : decode cX7_init 1 = .ok (.invokespecial 3, 3) := by decide +kernel
theorem dX7_init_4 : decode cX7_init 4 = .ok (.aload_n 0, 1) := by decide +kernel
theorem dX7_init_5 : decode cX7_init 5 = .ok (.bipush 8, 2) := by decide +kernel
theorem dX7_init_7 : decode cX7_init 7 = .ok (.newarray .int, 2) := by decide +kernel
theorem dX7_init_9 : decode cX7_init 9 = .ok (.putfield 9, 3) := by decide +kernel
theorem dX7_init_12 : decode cX7_init 12 = .ok (.aload_n 0, 1) := by decide +kernel
theorem dX7_init_13 : decode cX7_init 13 = .ok (.bipush 8, 2) := by decide +kernel
theorem dX7_init_15 : decode cX7_init 15 = .ok (.newarray .boolean, 2) := by decide +kernel
theorem dX7_init_17 : decode cX7_init 17 = .ok (.putfield 15, 3) := by decide +kernel
theorem dX7_init_20 : decode cX7_init 20 = .ok (.aload_n 0, 1) := by decide +kernel
theorem dX7_init_21 : decode cX7_init 21 = .ok (.iconst 4, 1) := by decide +kernel
theorem dX7_init_22 : decode cX7_init 22 = .ok (.newarray .int, 2) := by decide +kernel
theorem dX7_init_24 : decode cX7_init 24 = .ok (.dup, 1) := by decide +kernel
theorem dX7_init_25 : decode cX7_init 25 = .ok (.iconst 0, 1) := by decide +kernel
theorem dX7_init_26 : decode cX7_init 26 = .ok (.iconst 0, 1) := by decide +kernel
theorem dX7_init_27 : decode cX7_init 27 = .ok (.iastore, 1) := by decide +kernel
theorem dX7_init_28 : decode cX7_init 28 = .ok (.dup, 1) := by decide +kernel
theorem dX7_init_29 : decode cX7_init 29 = .ok (.iconst 1, 1) := by decide +kernel
theorem dX7_init_30 : decode cX7_init 30 = .ok (.iconst 1, 1) := by decide +kernel
theorem dX7_init_31 : decode cX7_init 31 = .ok (.iastore, 1) := by decide +kernel
theorem dX7_init_32 : decode cX7_init 32 = .ok (.dup, 1) := by decide +kernel
theorem dX7_init_33 : decode cX7_init 33 = .ok (.iconst 2, 1) := by decide +kernel
theorem dX7_init_34 : decode cX7_init 34 = .ok (.iconst 3, 1) := by decide +kernel
theorem dX7_init_35 : decode cX7_init 35 = .ok (.iastore, 1) := by decide +kernel
theorem dX7_init_36 : decode cX7_init 36 = .ok (.dup, 1) := by decide +kernel
theorem dX7_init_37 : decode cX7_init 37 = .ok (.iconst 3, 1) := by decide +kernel
theorem dX7_init_38 : decode cX7_init 38 = .ok (.bipush 14, 2) := by decide +kernel
theorem dX7_init_40 : decode cX7_init 40 = .ok (.iastore, 1) := by decide +kernel
theorem dX7_init_41 : decode cX7_init 41 = .ok (.putfield 19, 3) := by decide +kernel
theorem dX7_init_44 : decode cX7_init 44 = .ok (.iconst 0, 1) := by decide +kernel
theorem dX7_init_45 : decode cX7_init 45 = .ok (.istore_n 1, 1) := by decide +kernel
theorem dX7_init_46 : decode cX7_init 46 = .ok (.iload_n 1, 1) := by decide +kernel
theorem dX7_init_47 : decode cX7_init 47 = .ok (.bipush 8, 2) := by decide +kernel
theorem dX7_init_49 : decode cX7_init 49 = .ok (.if_icmp .ge 40, 3) := by decide +kernel
theorem dX7_init_52 : decode cX7_init 52 = .ok (.aload_n 0, 1) := by decide +kernel
theorem dX7_init_53 : decode cX7_init 53 = .ok (.getfield 9, 3) := by decide +kernel
theorem dX7_init_56 : decode cX7_init 56 = .ok (.iload_n 1, 1) := by decide +kernel
theorem dX7_init_57 : decode cX7_init 57 = .ok (.bipush 10, 2) := by decide +kernel
theorem dX7_init_59 : decode cX7_init 59 = .ok (.bipush 10, 2) := by decide +kernel
theorem dX7_init_61 : decode cX7_init 61 = .ok (.iload_n 1, 1) := by decide +kernel
theorem dX7_init_62 : decode cX7_init 62 = .ok (.imul, 1) := by decide +kernel
theorem dX7_init_63 : decode cX7_init 63 = .ok (.iadd, 1) := by decide +kernel
theorem dX7_init_64 : decode cX7_init 64 = .ok (.iastore, 1) := by decide +kernel
theorem dX7_init_65 : decode cX7_init 65 = .ok (.aload_n 0, 1) := by decide +kernel
theorem dX7_init_66 : decode cX7_init 66 = .ok (.getfield 15, 3) := by decide +kernel
theorem dX7_init_69 : decode cX7_init 69 = .ok (.iload_n 1, 1) := by decide +kernel
theorem dX7_init_70 : decode cX7_init 70 = .ok (.iload_n 1, 1) := by decide +kernel
theorem dX7_init_71 : decode cX7_init 71 = .ok (.iconst 2, 1) := by decide +kernel
theorem dX7_init_72 : decode cX7_init 72 = .ok (.irem, 1) := by decide +kernel
theorem dX7_init_73 : decode cX7_init 73 = .ok (.iconst 1, 1) := by decide +kernel
theorem dX7_init_74 : decode cX7_init 74 = .ok (.if_icmp .ne 7, 3) := by decide +kernel
theorem dX7_init_77 : decode cX7_init 77 = .ok (.iconst 1, 1) := by decide +kernel
theorem dX7_init_78 : decode cX7_init 78 = .ok (.goto 4, 3) := by decide +kernel
theorem dX7_init_81 : decode cX7_init 81 = .ok (.iconst 0, 1) := by decide +kernel
theorem dX7_init_82 : decode cX7_init 82 = .ok (.bastore, 1) := by decide +kernel
theorem dX7_init_83 : decode cX7_init 83 = .ok (.iinc 1 1, 3) := by decide +kernel
theorem dX7_init_86 : decode cX7_init 86 = .ok (.goto (-40), 3) := by decide +kernel
theorem dX7_init_89 : decode cX7_init 89 = .ok (.return_, 1) := by decide +kernel
theorem dX7_copy_0 : decode cX7_copy 0 = .ok (.aload_n 1, 1) := by decide +kernel
theorem dX7_copy_1 : decode cX7_copy 1 = .ok (.getfield 9, 3) := by decide +kernel
theorem dX7_copy_4 : decode cX7_copy 4 = .ok (.iconst 0, 1) := by decide +kernel
theorem dX7_copy_5 : decode cX7_copy 5 = .ok (.aload_n 0, 1) := by decide +kernel
theorem dX7_copy_6 : decode cX7_copy 6 = .ok (.getfield 9, 3) := by decide +kernel
theorem dX7_copy_9 : decode cX7_copy 9 = .ok (.iconst 0, 1) := by decide +kernel
theorem dX7_copy_10 : decode cX7_copy 10 = .ok (.aload_n 0, 1) := by decide +kernel
theorem dX7_copy_11 : decode cX7_copy 11 = .ok (.getfield 9, 3) := by decide +kernel
theorem dX7_copy_14 : decode cX7_copy 14 = .ok (.arraylength, 1) := by decide +kernel
theorem dX7_copy_15 : decode cX7_copy 15 = .ok (.invokestatic 22, 3) := by decide +kernel
theorem dX7_copy_18 : decode cX7_copy 18 = .ok (.aload_n 1, 1) := by decide +kernel
theorem dX7_copy_19 : decode cX7_copy 19 = .ok (.getfield 15, 3) := by decide +kernel
theorem dX7_copy_22 : decode cX7_copy 22 = .ok (.iconst 0, 1) := by decide +kernel
theorem dX7_copy_23 : decode cX7_copy 23 = .ok (.aload_n 0, 1) := by decide +kernel
theorem dX7_copy_24 : decode cX7_copy 24 = .ok (.getfield 15, 3) := by decide +kernel
theorem dX7_copy_27 : decode cX7_copy 27 = .ok (.iconst 0, 1) := by decide +kernel
theorem dX7_copy_28 : decode cX7_copy 28 = .ok (.aload_n 0, 1) := by decide +kernel
theorem dX7_copy_29 : decode cX7_copy 29 = .ok (.getfield 15, 3) := by decide +kernel
theorem dX7_copy_32 : decode cX7_copy 32 = .ok (.arraylength, 1) := by decide +kernel
theorem dX7_copy_33 : decode cX7_copy 33 = .ok (.invokestatic 22, 3) := by decide +kernel
theorem dX7_copy_36 : decode cX7_copy 36 = .ok (.aload_n 1, 1) := by decide +kernel
theorem dX7_copy_37 : decode cX7_copy 37 = .ok (.getfield 19, 3) := by decide +kernel
theorem dX7_copy_40 : decode cX7_copy 40 = .ok (.iconst 0, 1) := by decide +kernel
theorem dX7_copy_41 : decode cX7_copy 41 = .ok (.aload_n 0, 1) := by decide +kernel
theorem dX7_copy_42 : decode cX7_copy 42 = .ok (.getfield 19, 3) := by decide +kernel
theorem dX7_copy_45 : decode cX7_copy 45 = .ok (.iconst 0, 1) := by decide +kernel
theorem dX7_copy_46 : decode cX7_copy 46 = .ok (.aload_n 0, 1) := by decide +kernel
theorem dX7_copy_47 : decode cX7_copy 47 = .ok (.getfield 19, 3) := by decide +kernel
theorem dX7_copy_50 : decode cX7_copy 50 = .ok (.arraylength, 1) := by decide +kernel
theorem dX7_copy_51 : decode cX7_copy 51 = .ok (.invokestatic 22, 3) := by decide +kernel
theorem dX7_copy_54 : decode cX7_copy 54 = .ok (.return_, 1) := by decide +kernel
theorem dX7_placeOfWay_0 : decode cX7_placeOfWay 0 = .ok (.iload_n 0, 1) := by decide +kernel
theorem dX7_placeOfWay_1 : decode cX7_placeOfWay 1 = .ok (.lookupswitch 51 #[(97, 49), (101, 45), (109, 47), (112, 43)], 43) := by decide +kernel
theorem dX7_placeOfWay_44 : decode cX7_placeOfWay 44 = .ok (.iconst 0, 1) := by decide +kernel
theorem dX7_placeOfWay_45 : decode cX7_placeOfWay 45 = .ok (.ireturn, 1) := by decide +kernel
theorem dX7_placeOfWay_46 : decode cX7_placeOfWay 46 = .ok (.iconst 1, 1) := by decide +kernel
theorem dX7_placeOfWay_47 : decode cX7_placeOfWay 47 = .ok (.ireturn, 1) := by decide +kernel
theorem dX7_placeOfWay_48 : decode cX7_placeOfWay 48 = .ok (.iconst 2, 1) := by decide +kernel
theorem dX7_placeOfWay_49 : decode cX7_placeOfWay 49 = .ok (.ireturn, 1) := by decide +kernel
theorem dX7_placeOfWay_50 : decode cX7_placeOfWay 50 = .ok (.iconst 3, 1) := by decide +kernel
theorem dX7_placeOfWay_51 : decode cX7_placeOfWay 51 = .ok (.ireturn, 1) := by decide +kernel
theorem dX7_placeOfWay_52 : decode cX7_placeOfWay 52 = .ok (.iconst (-1), 1) := by decide +kernel
theorem dX7_placeOfWay_53 : decode cX7_placeOfWay 53 = .ok (.ireturn, 1) := by decide +kernel
theorem dX8_init_0 : decode cX8_init 0 = .ok (.aload_n 0, 1) := by decide +kernel
theorem dX8_init_1 : decode cX8_init 1 = .ok (.invokespecial 3, 3) := by decide +kernel
theorem dX8_init_4 : decode cX8_init 4 = .ok (.aload_n 0, 1) := by decide +kernel
theorem dX8_init_5 : decode cX8_init 5 = .ok (.bipush 12, 2) := by decide +kernel
theorem dX8_init_7 : decode cX8_init 7 = .ok (.newarray .int, 2) := by decide +kernel
theorem dX8_init_9 : decode cX8_init 9 = .ok (.putfield 9, 3) := by decide +kernel
theorem dX8_init_12 : decode cX8_init 12 = .ok (.aload_n 0, 1) := by decide +kernel
theorem dX8_init_13 : decode cX8_init 13 = .ok (.bipush 12, 2) := by decide +kernel
theorem dX8_init_15 : decode cX8_init 15 = .ok (.newarray .int, 2) := by decide +kernel
theorem dX8_init_17 : decode cX8_init 17 = .ok (.putfield 15, 3) := by decide +kernel
theorem dX8_init_20 : decode cX8_init 20 = .ok (.aload_n 0, 1) := by decide +kernel
theorem dX8_init_21 : decode cX8_init 21 = .ok (.bipush 12, 2) := by decide +kernel
theorem dX8_init_23 : decode cX8_init 23 = .ok (.newarray .int, 2) := by decide +kernel
theorem dX8_init_25 : decode cX8_init 25 = .ok (.putfield 18, 3) := by decide +kernel
theorem dX8_init_28 : decode cX8_init 28 = .ok (.aload_n 0, 1) := by decide +kernel
theorem dX8_init_29 : decode cX8_init 29 = .ok (.bipush 12, 2) := by decide +kernel
theorem dX8_init_31 : decode cX8_init 31 = .ok (.newarray .int, 2) := by decide +kernel
theorem dX8_init_33 : decode cX8_init 33 = .ok (.putfield 21, 3) := by decide +kernel
theorem dX8_init_36 : decode cX8_init 36 = .ok (.return_, 1) := by decide +kernel
theorem dX8_copy_0 : decode cX8_copy 0 = .ok (.aload_n 1, 1) := by decide +kernel
theorem dX8_copy_1 : decode cX8_copy 1 = .ok (.getfield 9, 3) := by decide +kernel
theorem dX8_copy_4 : decode cX8_copy 4 = .ok (.iconst 0, 1) := by decide +kernel
theorem dX8_copy_5 : decode cX8_copy 5 = .ok (.aload_n 0, 1) := by decide +kernel
theorem dX8_copy_6 : decode cX8_copy 6 = .ok (.getfield 9, 3) := by decide +kernel
theorem dX8_copy_9 : decode cX8_copy 9 = .ok (.iconst 0, 1) := by decide +kernel
theorem dX8_copy_10 : decode cX8_copy 10 = .ok (.aload_n 0, 1) := by decide +kernel
theorem dX8_copy_11 : decode cX8_copy 11 = .ok (.getfield 9, 3) := by decide +kernel
theorem dX8_copy_14 : decode cX8_copy 14 = .ok (.arraylength, 1) := by decide +kernel
theorem dX8_copy_15 : decode cX8_copy 15 = .ok (.invokestatic 24, 3) := by decide +kernel
theorem dX8_copy_18 : decode cX8_copy 18 = .ok (.aload_n 1, 1) := by decide +kernel
theorem dX8_copy_19 : decode cX8_copy 19 = .ok (.getfield 15, 3) := by decide +kernel
theorem dX8_copy_22 : decode cX8_copy 22 = .ok (.iconst 0, 1) := by decide +kernel
theorem dX8_copy_23 : decode cX8_copy 23 = .ok (.aload_n 0, 1) := by decide +kernel
theorem dX8_copy_24 : decode cX8_copy 24 = .ok (.getfield 15, 3) := by decide +kernel
theorem dX8_copy_27 : decode cX8_copy 27 = .ok (.iconst 0, 1) := by decide +kernel
theorem dX8_copy_28 : decode cX8_copy 28 = .ok (.aload_n 0, 1) := by decide +kernel
theorem dX8_copy_29 : decode cX8_copy 29 = .ok (.getfield 15, 3) := by decide +kernel
theorem dX8_copy_32 : decode cX8_copy 32 = .ok (.arraylength, 1) := by decide +kernel
theorem dX8_copy_33 : decode cX8_copy 33 = .ok (.invokestatic 24, 3) := by decide +kernel
theorem dX8_copy_36 : decode cX8_copy 36 = .ok (.aload_n 1, 1) := by decide +kernel
theorem dX8_copy_37 : decode cX8_copy 37 = .ok (.getfield 18, 3) := by decide +kernel
theorem dX8_copy_40 : decode cX8_copy 40 = .ok (.iconst 0, 1) := by decide +kernel
theorem dX8_copy_41 : decode cX8_copy 41 = .ok (.aload_n 0, 1) := by decide +kernel
theorem dX8_copy_42 : decode cX8_copy 42 = .ok (.getfield 18, 3) := by decide +kernel
theorem dX8_copy_45 : decode cX8_copy 45 = .ok (.iconst 0, 1) := by decide +kernel
theorem dX8_copy_46 : decode cX8_copy 46 = .ok (.aload_n 0, 1) := by decide +kernel
theorem dX8_copy_47 : decode cX8_copy 47 = .ok (.getfield 18, 3) := by decide +kernel
theorem dX8_copy_50 : decode cX8_copy 50 = .ok (.arraylength, 1) := by decide +kernel
theorem dX8_copy_51 : decode cX8_copy 51 = .ok (.invokestatic 24, 3) := by decide +kernel
theorem dX8_copy_54 : decode cX8_copy 54 = .ok (.aload_n 1, 1) := by decide +kernel
theorem dX8_copy_55 : decode cX8_copy 55 = .ok (.getfield 21, 3) := by decide +kernel
theorem dX8_copy_58 : decode cX8_copy 58 = .ok (.iconst 0, 1) := by decide +kernel
theorem dX8_copy_59 : decode cX8_copy 59 = .ok (.aload_n 0, 1) := by decide +kernel
theorem dX8_copy_60 : decode cX8_copy 60 = .ok (.getfield 21, 3) := by decide +kernel
theorem dX8_copy_63 : decode cX8_copy 63 = .ok (.iconst 0, 1) := by decide +kernel
theorem dX8_copy_64 : decode cX8_copy 64 = .ok (.aload_n 0, 1) := by decide +kernel
theorem dX8_copy_65 : decode cX8_copy 65 = .ok (.getfield 21, 3) := by decide +kernel
theorem dX8_copy_68 : decode cX8_copy 68 = .ok (.arraylength, 1) := by decide +kernel
theorem dX8_copy_69 : decode cX8_copy 69 = .ok (.invokestatic 24, 3) := by decide +kernel
theorem dX8_copy_72 : decode cX8_copy 72 = .ok (.aload_n 0, 1) := by decide +kernel
theorem dX8_copy_73 : decode cX8_copy 73 = .ok (.aload_n 1, 1) := by decide +kernel
theorem dX8_copy_74 : decode cX8_copy 74 = .ok (.getfield 30, 3) := by decide +kernel
theorem dX8_copy_77 : decode cX8_copy 77 = .ok (.putfield 30, 3) := by decide +kernel
theorem dX8_copy_80 : decode cX8_copy 80 = .ok (.return_, 1) := by decide +kernel
theorem dX8_has_0 : decode cX8_has 0 = .ok (.iload_n 1, 1) := by decide +kernel
theorem dX8_has_1 : decode cX8_has 1 = .ok (.ifCond .lt 15, 3) := by decide +kernel
theorem dX8_has_4 : decode cX8_has 4 = .ok (.iload_n 1, 1) := by decide +kernel
theorem dX8_has_5 : decode cX8_has 5 = .ok (.aload_n 0, 1) := by decide +kernel
theorem dX8_has_6 : decode cX8_has 6 = .ok (.getfield 30, 3) := by decide +kernel
theorem dX8_has_9 : decode cX8_has 9 = .ok (.if_icmp .ge 7, 3) := by decide +kernel
theorem dX8_has_12 : decode cX8_has 12 = .ok (.iconst 1, 1) := by decide +kernel
theorem dX8_has_13 : decode cX8_has 13 = .ok (.goto 4, 3) := by decide +kernel
theorem dX8_has_16 : decode cX8_has 16 = .ok (.iconst 0, 1) := by decide +kernel
theorem dX8_has_17 : decode cX8_has 17 = .ok (.ireturn, 1) := by decide +kernel
theorem dX8_add_0 : decode cX8_add 0 = .ok (.aload_n 0, 1) := by decide +kernel
theorem dX8_add_1 : decode cX8_add 1 = .ok (.getfield 30, 3) := by decide +kernel
theorem dX8_add_4 : decode cX8_add 4 = .ok (.bipush 12, 2) := by decide +kernel
theorem dX8_add_6 : decode cX8_add 6 = .ok (.if_icmp .lt 6, 3) := by decide +kernel
theorem dX8_add_9 : decode cX8_add 9 = .ok (.bipush (-3), 2) := by decide +kernel
theorem dX8_add_11 : decode cX8_add 11 = .ok (.ireturn, 1) := by decide +kernel
theorem dX8_add_12 : decode cX8_add 12 = .ok (.aload_n 0, 1) := by decide +kernel
theorem dX8_add_13 : decode cX8_add 13 = .ok (.getfield 9, 3) := by decide +kernel
theorem dX8_add_16 : decode cX8_add 16 = .ok (.aload_n 0, 1) := by decide +kernel
theorem dX8_add_17 : decode cX8_add 17 = .ok (.getfield 30, 3) := by decide +kernel
theorem dX8_add_20 : decode cX8_add 20 = .ok (.iload_n 1, 1) := by decide +kernel
theorem dX8_add_21 : decode cX8_add 21 = .ok (.iastore, 1) := by decide +kernel
theorem dX8_add_22 : decode cX8_add 22 = .ok (.aload_n 0, 1) := by decide +kernel
theorem dX8_add_23 : decode cX8_add 23 = .ok (.getfield 15, 3) := by decide +kernel
theorem dX8_add_26 : decode cX8_add 26 = .ok (.aload_n 0, 1) := by decide +kernel
theorem dX8_add_27 : decode cX8_add 27 = .ok (.getfield 30, 3) := by decide +kernel
theorem dX8_add_30 : decode cX8_add 30 = .ok (.iload_n 2, 1) := by decide +kernel
theorem dX8_add_31 : decode cX8_add 31 = .ok (.iastore, 1) := by decide +kernel
theorem dX8_add_32 : decode cX8_add 32 = .ok (.aload_n 0, 1) := by decide +kernel
theorem dX8_add_33 : decode cX8_add 33 = .ok (.getfield 18, 3) := by decide +kernel
theorem dX8_add_36 : decode cX8_add 36 = .ok (.aload_n 0, 1) := by decide +kernel
theorem dX8_add_37 : decode cX8_add 37 = .ok (.getfield 30, 3) := by decide +kernel
theorem dX8_add_40 : decode cX8_add 40 = .ok (.iload_n 3, 1) := by decide +kernel
theorem dX8_add_41 : decode cX8_add 41 = .ok (.iastore, 1) := by decide +kernel
theorem dX8_add_42 : decode cX8_add 42 = .ok (.aload_n 0, 1) := by decide +kernel
theorem dX8_add_43 : decode cX8_add 43 = .ok (.getfield 21, 3) := by decide +kernel
theorem dX8_add_46 : decode cX8_add 46 = .ok (.aload_n 0, 1) := by decide +kernel
theorem dX8_add_47 : decode cX8_add 47 = .ok (.getfield 30, 3) := by decide +kernel
theorem dX8_add_50 : decode cX8_add 50 = .ok (.sipush 4999, 3) := by decide +kernel
theorem dX8_add_53 : decode cX8_add 53 = .ok (.iastore, 1) := by decide +kernel
theorem dX8_add_54 : decode cX8_add 54 = .ok (.aload_n 0, 1) := by decide +kernel
theorem dX8_add_55 : decode cX8_add 55 = .ok (.dup, 1) := by decide +kernel
theorem dX8_add_56 : decode cX8_add 56 = .ok (.getfield 30, 3) := by decide +kernel
theorem dX8_add_59 : decode cX8_add 59 = .ok (.iconst 1, 1) := by decide +kernel
theorem dX8_add_60 : decode cX8_add 60 = .ok (.iadd, 1) := by decide +kernel
theorem dX8_add_61 : decode cX8_add 61 = .ok (.putfield 30, 3) := by decide +kernel
theorem dX8_add_64 : decode cX8_add 64 = .ok (.aload_n 0, 1) := by decide +kernel
theorem dX8_add_65 : decode cX8_add 65 = .ok (.getfield 30, 3) := by decide +kernel
theorem dX8_add_68 : decode cX8_add 68 = .ok (.iconst 1, 1) := by decide +kernel
theorem dX8_add_69 : decode cX8_add 69 = .ok (.isub, 1) := by decide +kernel
theorem dX8_add_70 : decode cX8_add 70 = .ok (.ireturn, 1) := by decide +kernel
theorem dX8_isInForce_0 : decode cX8_isInForce 0 = .ok (.aload_n 0, 1) := by decide +kernel
theorem dX8_isInForce_1 : decode cX8_isInForce 1 = .ok (.getfield 21, 3) := by decide +kernel
theorem dX8_isInForce_4 : decode cX8_isInForce 4 = .ok (.iload_n 1, 1) := by decide +kernel
theorem dX8_isInForce_5 : decode cX8_isInForce 5 = .ok (.iaload, 1) := by decide +kernel
theorem dX8_isInForce_6 : decode cX8_isInForce 6 = .ok (.sipush 4999, 3) := by decide +kernel
theorem dX8_isInForce_9 : decode cX8_isInForce 9 = .ok (.if_icmp .ne 7, 3) := by decide +kernel
theorem dX8_isInForce_12 : decode cX8_isInForce 12 = .ok (.iconst 1, 1) := by decide +kernel
theorem dX8_isInForce_13 : decode cX8_isInForce 13 = .ok (.goto 4, 3) := by decide +kernel
theorem dX8_isInForce_16 : decode cX8_isInForce 16 = .ok (.iconst 0, 1) := by decide +kernel
theorem dX8_isInForce_17 : decode cX8_isInForce 17 = .ok (.ireturn, 1) := by decide +kernel
theorem dX8_countInForce_0 : decode cX8_countInForce 0 = .ok (.iconst 0, 1) := by decide +kernel
theorem dX8_countInForce_1 : decode cX8_countInForce 1 = .ok (.istore_n 1, 1) := by decide +kernel
theorem dX8_countInForce_2 : decode cX8_countInForce 2 = .ok (.iconst 0, 1) := by decide +kernel
theorem dX8_countInForce_3 : decode cX8_countInForce 3 = .ok (.istore_n 2, 1) := by decide +kernel
theorem dX8_countInForce_4 : decode cX8_countInForce 4 = .ok (.iload_n 2, 1) := by decide +kernel
theorem dX8_countInForce_5 : decode cX8_countInForce 5 = .ok (.aload_n 0, 1) := by decide +kernel
theorem dX8_countInForce_6 : decode cX8_countInForce 6 = .ok (.getfield 30, 3) := by decide +kernel
theorem dX8_countInForce_9 : decode cX8_countInForce 9 = .ok (.if_icmp .ge 25, 3) := by decide +kernel
theorem dX8_countInForce_12 : decode cX8_countInForce 12 = .ok (.iload_n 1, 1) := by decide +kernel
theorem dX8_countInForce_13 : decode cX8_countInForce 13 = .ok (.aload_n 0, 1) := by decide +kernel
theorem dX8_countInForce_14 : decode cX8_countInForce 14 = .ok (.iload_n 2, 1) := by decide +kernel
theorem dX8_countInForce_15 : decode cX8_countInForce 15 = .ok (.invokevirtual 34, 3) := by decide +kernel
theorem dX8_countInForce_18 : decode cX8_countInForce 18 = .ok (.ifCond .eq 7, 3) := by decide +kernel
theorem dX8_countInForce_21 : decode cX8_countInForce 21 = .ok (.iconst 1, 1) := by decide +kernel
theorem dX8_countInForce_22 : decode cX8_countInForce 22 = .ok (.goto 4, 3) := by decide +kernel
theorem dX8_countInForce_25 : decode cX8_countInForce 25 = .ok (.iconst 0, 1) := by decide +kernel
theorem dX8_countInForce_26 : decode cX8_countInForce 26 = .ok (.iadd, 1) := by decide +kernel
theorem dX8_countInForce_27 : decode cX8_countInForce 27 = .ok (.istore_n 1, 1) := by decide +kernel
theorem dX8_countInForce_28 : decode cX8_countInForce 28 = .ok (.iinc 2 1, 3) := by decide +kernel
theorem dX8_countInForce_31 : decode cX8_countInForce 31 = .ok (.goto (-27), 3) := by decide +kernel
theorem dX8_countInForce_34 : decode cX8_countInForce 34 = .ok (.iload_n 1, 1) := by decide +kernel
theorem dX8_countInForce_35 : decode cX8_countInForce 35 = .ok (.ireturn, 1) := by decide +kernel
theorem dX8_concerns_0 : decode cX8_concerns 0 = .ok (.aload_n 0, 1) := by decide +kernel
theorem dX8_concerns_1 : decode cX8_concerns 1 = .ok (.getfield 9, 3) := by decide +kernel
theorem dX8_concerns_4 : decode cX8_concerns 4 = .ok (.iload_n 1, 1) := by decide +kernel
theorem dX8_concerns_5 : decode cX8_concerns 5 = .ok (.iaload, 1) := by decide +kernel
theorem dX8_concerns_6 : decode cX8_concerns 6 = .ok (.iconst (-1), 1) := by decide +kernel
theorem dX8_concerns_7 : decode cX8_concerns 7 = .ok (.if_icmp .eq 13, 3) := by decide +kernel
theorem dX8_concerns_10 : decode cX8_concerns 10 = .ok (.aload_n 0, 1) := by decide +kernel
theorem dX8_concerns_11 : decode cX8_concerns 11 = .ok (.getfield 9, 3) := by decide +kernel
theorem dX8_concerns_14 : decode cX8_concerns 14 = .ok (.iload_n 1, 1) := by decide +kernel
theorem dX8_concerns_15 : decode cX8_concerns 15 = .ok (.iaload, 1) := by decide +kernel
theorem dX8_concerns_16 : decode cX8_concerns 16 = .ok (.iload_n 2, 1) := by decide +kernel
theorem dX8_concerns_17 : decode cX8_concerns 17 = .ok (.if_icmp .ne 7, 3) := by decide +kernel
theorem dX8_concerns_20 : decode cX8_concerns 20 = .ok (.iconst 1, 1) := by decide +kernel
theorem dX8_concerns_21 : decode cX8_concerns 21 = .ok (.goto 4, 3) := by decide +kernel
theorem dX8_concerns_24 : decode cX8_concerns 24 = .ok (.iconst 0, 1) := by decide +kernel
theorem dX8_concerns_25 : decode cX8_concerns 25 = .ok (.istore 4, 2) := by decide +kernel
theorem dX8_concerns_27 : decode cX8_concerns 27 = .ok (.iload 4, 2) := by decide +kernel
theorem dX8_concerns_29 : decode cX8_concerns 29 = .ok (.ifCond .eq 21, 3) := by decide +kernel
theorem dX8_concerns_32 : decode cX8_concerns 32 = .ok (.aload_n 0, 1) := by decide +kernel
theorem dX8_concerns_33 : decode cX8_concerns 33 = .ok (.getfield 15, 3) := by decide +kernel
theorem dX8_concerns_36 : decode cX8_concerns 36 = .ok (.iload_n 1, 1) := by decide +kernel
theorem dX8_concerns_37 : decode cX8_concerns 37 = .ok (.iaload, 1) := by decide +kernel
theorem dX8_concerns_38 : decode cX8_concerns 38 = .ok (.iload_n 3, 1) := by decide +kernel
theorem dX8_concerns_39 : decode cX8_concerns 39 = .ok (.ishr, 1) := by decide +kernel
theorem dX8_concerns_40 : decode cX8_concerns 40 = .ok (.iconst 1, 1) := by decide +kernel
theorem dX8_concerns_41 : decode cX8_concerns 41 = .ok (.iand, 1) := by decide +kernel
theorem dX8_concerns_42 : decode cX8_concerns 42 = .ok (.iconst 1, 1) := by decide +kernel
theorem dX8_concerns_43 : decode cX8_concerns 43 = .ok (.if_icmp .ne 7, 3) := by decide +kernel
theorem dX8_concerns_46 : decode cX8_concerns 46 = .ok (.iconst 1, 1) := by decide +kernel
theorem dX8_concerns_47 : decode cX8_concerns 47 = .ok (.goto 4, 3) := by decide +kernel
theorem dX8_concerns_50 : decode cX8_concerns 50 = .ok (.iconst 0, 1) := by decide +kernel
theorem dX8_concerns_51 : decode cX8_concerns 51 = .ok (.ireturn, 1) := by decide +kernel
theorem dX9_init_0 : decode cX9_init 0 = .ok (.aload_n 0, 1) := by decide +kernel
theorem dX9_init_1 : decode cX9_init 1 = .ok (.invokespecial 3, 3) := by decide +kernel
theorem dX9_init_4 : decode cX9_init 4 = .ok (.aload_n 0, 1) := by decide +kernel
theorem dX9_init_5 : decode cX9_init 5 = .ok (.bipush 60, 2) := by decide +kernel
theorem dX9_init_7 : decode cX9_init 7 = .ok (.newarray .char, 2) := by decide +kernel
theorem dX9_init_9 : decode cX9_init 9 = .ok (.putfield 9, 3) := by decide +kernel
theorem dX9_init_12 : decode cX9_init 12 = .ok (.return_, 1) := by decide +kernel
theorem dX9_clear_0 : decode cX9_clear 0 = .ok (.aload_n 0, 1) := by decide +kernel
theorem dX9_clear_1 : decode cX9_clear 1 = .ok (.iconst 0, 1) := by decide +kernel
theorem dX9_clear_2 : decode cX9_clear 2 = .ok (.putfield 15, 3) := by decide +kernel
theorem dX9_clear_5 : decode cX9_clear 5 = .ok (.return_, 1) := by decide +kernel
theorem dX9_append_0 : decode cX9_append 0 = .ok (.aload_n 0, 1) := by decide +kernel
theorem dX9_append_1 : decode cX9_append 1 = .ok (.getfield 15, 3) := by decide +kernel
theorem dX9_append_4 : decode cX9_append 4 = .ok (.bipush 60, 2) := by decide +kernel
theorem dX9_append_6 : decode cX9_append 6 = .ok (.if_icmp .ge 23, 3) := by decide +kernel
theorem dX9_append_9 : decode cX9_append 9 = .ok (.aload_n 0, 1) := by decide +kernel
theorem dX9_append_10 : decode cX9_append 10 = .ok (.getfield 9, 3) := by decide +kernel
theorem dX9_append_13 : decode cX9_append 13 = .ok (.aload_n 0, 1) := by decide +kernel
theorem dX9_append_14 : decode cX9_append 14 = .ok (.getfield 15, 3) := by decide +kernel
theorem dX9_append_17 : decode cX9_append 17 = .ok (.iload_n 1, 1) := by decide +kernel
theorem dX9_append_18 : decode cX9_append 18 = .ok (.castore, 1) := by decide +kernel
theorem dX9_append_19 : decode cX9_append 19 = .ok (.aload_n 0, 1) := by decide +kernel
theorem dX9_append_20 : decode cX9_append 20 = .ok (.dup, 1) := by decide +kernel
theorem dX9_append_21 : decode cX9_append 21 = .ok (.getfield 15, 3) := by decide +kernel
theorem dX9_append_24 : decode cX9_append 24 = .ok (.iconst 1, 1) := by decide +kernel
theorem dX9_append_25 : decode cX9_append 25 = .ok (.iadd, 1) := by decide +kernel
theorem dX9_append_26 : decode cX9_append 26 = .ok (.putfield 15, 3) := by decide +kernel
theorem dX9_append_29 : decode cX9_append 29 = .ok (.return_, 1) := by decide +kernel
theorem dX9_signAt_0 : decode cX9_signAt 0 = .ok (.iload_n 1, 1) := by decide +kernel
theorem dX9_signAt_1 : decode cX9_signAt 1 = .ok (.ifCond .lt 20, 3) := by decide +kernel
theorem dX9_signAt_4 : decode cX9_signAt 4 = .ok (.iload_n 1, 1) := by decide +kernel
theorem dX9_signAt_5 : decode cX9_signAt 5 = .ok (.aload_n 0, 1) := by decide +kernel
theorem dX9_signAt_6 : decode cX9_signAt 6 = .ok (.getfield 15, 3) := by decide +kernel
theorem dX9_signAt_9 : decode cX9_signAt 9 = .ok (.if_icmp .ge 12, 3) := by decide +kernel
theorem dX9_signAt_12 : decode cX9_signAt 12 = .ok (.aload_n 0, 1) := by decide +kernel
theorem dX9_signAt_13 : decode cX9_signAt 13 = .ok (.getfield 9, 3) := by decide +kernel
theorem dX9_signAt_16 : decode cX9_signAt 16 = .ok (.iload_n 1, 1) := by decide +kernel
theorem dX9_signAt_17 : decode cX9_signAt 17 = .ok (.caload, 1) := by decide +kernel
theorem dX9_signAt_18 : decode cX9_signAt 18 = .ok (.goto 4, 3) := by decide +kernel
theorem dX9_signAt_21 : decode cX9_signAt 21 = .ok (.iconst 0, 1) := by decide +kernel
theorem dX9_signAt_22 : decode cX9_signAt 22 = .ok (.ireturn, 1) := by decide +kernel
theorem dX9_readName_0 : decode cX9_readName 0 = .ok (.iconst 0, 1) := by decide +kernel
theorem dX9_readName_1 : decode cX9_readName 1 = .ok (.istore_n 2, 1) := by decide +kernel
theorem dX9_readName_2 : decode cX9_readName 2 = .ok (.iconst 0, 1) := by decide +kernel
theorem dX9_readName_3 : decode cX9_readName 3 = .ok (.istore_n 3, 1) := by decide +kernel
theorem dX9_readName_4 : decode cX9_readName 4 = .ok (.iload_n 3, 1) := by decide +kernel
theorem dX9_readName_5 : decode cX9_readName 5 = .ok (.aload_n 0, 1) := by decide +kernel
theorem dX9_readName_6 : decode cX9_readName 6 = .ok (.getfield 15, 3) := by decide +kernel
theorem dX9_readName_9 : decode cX9_readName 9 = .ok (.if_icmp .ge 112, 3) := by decide +kernel
theorem dX9_readName_12 : decode cX9_readName 12 = .ok (.aload_n 0, 1) := by decide +kernel
theorem dX9_readName_13 : decode cX9_readName 13 = .ok (.getfield 9, 3) := by decide +kernel
theorem dX9_readName_16 : decode cX9_readName 16 = .ok (.iload_n 3, 1) := by decide +kernel
theorem dX9_readName_17 : decode cX9_readName 17 = .ok (.caload, 1) := by decide +kernel
theorem dX9_readName_18 : decode cX9_readName 18 = .ok (.istore 4, 2) := by decide +kernel
theorem dX9_readName_20 : decode cX9_readName 20 = .ok (.iload 4, 2) := by decide +kernel
theorem dX9_readName_22 : decode cX9_readName 22 = .ok (.invokestatic 26, 3) := by decide +kernel
theorem dX9_readName_25 : decode cX9_readName 25 = .ok (.ifCond .eq 20, 3) := by decide +kernel
theorem dX9_readName_28 : decode cX9_readName 28 = .ok (.aload_n 0, 1) := by decide +kernel
theorem dX9_readName_29 : decode cX9_readName 29 = .ok (.iload_n 3, 1) := by decide +kernel
theorem dX9_readName_30 : decode cX9_readName 30 = .ok (.iconst 1, 1) := by decide +kernel
theorem dX9_readName_31 : decode cX9_readName 31 = .ok (.iadd, 1) := by decide +kernel
theorem dX9_readName_32 : decode cX9_readName 32 = .ok (.invokevirtual 30, 3) := by decide +kernel
theorem dX9_readName_35 : decode cX9_readName 35 = .ok (.invokestatic 34, 3) := by decide +kernel
theorem dX9_readName_38 : decode cX9_readName 38 = .ok (.ifCond .eq 7, 3) := by decide +kernel
theorem dX9_readName_41 : decode cX9_readName 41 = .ok (.iconst 1, 1) := by decide +kernel
theorem dX9_readName_42 : decode cX9_readName 42 = .ok (.goto 4, 3) := by decide +kernel
theorem dX9_readName_45 : decode cX9_readName 45 = .ok (.iconst 0, 1) := by decide +kernel
theorem dX9_readName_46 : decode cX9_readName 46 = .ok (.istore 5, 2) := by decide +kernel
theorem dX9_readName_48 : decode cX9_readName 48 = .ok (.iload_n 2, 1) := by decide +kernel
theorem dX9_readName_49 : decode cX9_readName 49 = .ok (.aload_n 1, 1) := by decide +kernel
theorem dX9_readName_50 : decode cX9_readName 50 = .ok (.arraylength, 1) := by decide +kernel
theorem dX9_readName_51 : decode cX9_readName 51 = .ok (.if_icmp .ge 24, 3) := by decide +kernel
theorem dX9_readName_54 : decode cX9_readName 54 = .ok (.iload 5, 2) := by decide +kernel
theorem dX9_readName_56 : decode cX9_readName 56 = .ok (.ifCond .ne 21, 3) := by decide +kernel
theorem dX9_readName_59 : decode cX9_readName 59 = .ok (.iload 4, 2) := by decide +kernel
theorem dX9_readName_61 : decode cX9_readName 61 = .ok (.invokestatic 26, 3) := by decide +kernel
theorem dX9_readName_64 : decode cX9_readName 64 = .ok (.ifCond .ne 11, 3) := by decide +kernel
theorem dX9_readName_67 : decode cX9_readName 67 = .ok (.iload 4, 2) := by decide +kernel
theorem dX9_readName_69 : decode cX9_readName 69 = .ok (.invokestatic 34, 3) := by decide +kernel
theorem dX9_readName_72 : decode cX9_readName 72 = .ok (.ifCond .eq 5, 3) := by decide +kernel
theorem dX9_readName_75 : decode cX9_readName 75 = .ok (.iconst 0, 1) := by decide +kernel
theorem dX9_readName_76 : decode cX9_readName 76 = .ok (.ireturn, 1) := by decide +kernel
theorem dX9_readName_77 : decode cX9_readName 77 = .ok (.aload_n 1, 1) := by decide +kernel
theorem dX9_readName_78 : decode cX9_readName 78 = .ok (.iload_n 2, 1) := by decide +kernel
theorem dX9_readName_79 : decode cX9_readName 79 = .ok (.iload 5, 2) := by decide +kernel
theorem dX9_readName_81 : decode cX9_readName 81 = .ok (.ifCond .eq 18, 3) := by decide +kernel
theorem dX9_readName_84 : decode cX9_readName 84 = .ok (.iload 4, 2) := by decide +kernel
theorem dX9_readName_86 : decode cX9_readName 86 = .ok (.aload_n 0, 1) := by decide +kernel
theorem dX9_readName_87 : decode cX9_readName 87 = .ok (.iload_n 3, 1) := by decide +kernel
theorem dX9_readName_88 : decode cX9_readName 88 = .ok (.iconst 1, 1) := by decide +kernel
theorem dX9_readName_89 : decode cX9_readName 89 = .ok (.iadd, 1) := by decide +kernel
theorem dX9_readName_90 : decode cX9_readName 90 = .ok (.invokevirtual 30, 3) := by decide +kernel
theorem dX9_readName_93 : decode cX9_readName 93 = .ok (.invokestatic 37, 3) := by decide +kernel
theorem dX9_readName_96 : decode cX9_readName 96 = .ok (.goto 5, 3) := by decide +kernel
theorem dX9_readName_99 : decode cX9_readName 99 = .ok (.iload 4, 2) := by decide +kernel
theorem dX9_readName_101 : decode cX9_readName 101 = .ok (.iastore, 1) := by decide +kernel
theorem dX9_readName_102 : decode cX9_readName 102 = .ok (.iinc 2 1, 3) := by decide +kernel
theorem dX9_readName_105 : decode cX9_readName 105 = .ok (.iload_n 3, 1) := by decide +kernel
theorem dX9_readName_106 : decode cX9_readName 106 = .ok (.iload 5, 2) := by decide +kernel
theorem dX9_readName_108 : decode cX9_readName 108 = .ok (.ifCond .eq 7, 3) := by decide +kernel
theorem dX9_readName_111 : decode cX9_readName 111 = .ok (.iconst 2, 1) := by decide +kernel
theorem dX9_readName_112 : decode cX9_readName 112 = .ok (.goto 4, 3) := by decide +kernel
theorem dX9_readName_115 : decode cX9_readName 115 = .ok (.iconst 1, 1) := by decide +kernel
theorem dX9_readName_116 : decode cX9_readName 116 = .ok (.iadd, 1) := by decide +kernel
theorem dX9_readName_117 : decode cX9_readName 117 = .ok (.istore_n 3, 1) := by decide +kernel
theorem dX9_readName_118 : decode cX9_readName 118 = .ok (.goto (-114), 3) := by decide +kernel
theorem dX9_readName_121 : decode cX9_readName 121 = .ok (.iload_n 2, 1) := by decide +kernel
theorem dX9_readName_122 : decode cX9_readName 122 = .ok (.ireturn, 1) := by decide +kernel
theorem dX9_isHigh_0 : decode cX9_isHigh 0 = .ok (.iload_n 0, 1) := by decide +kernel
theorem dX9_isHigh_1 : decode cX9_isHigh 1 = .ok (.ldc 24, 2) := by decide +kernel
theorem dX9_isHigh_3 : decode cX9_isHigh 3 = .ok (.if_icmp .lt 13, 3) := by decide +kernel
theorem dX9_isHigh_6 : decode cX9_isHigh 6 = .ok (.iload_n 0, 1) := by decide +kernel
theorem dX9_isHigh_7 : decode cX9_isHigh 7 = .ok (.ldc 41, 2) := by decide +kernel
theorem dX9_isHigh_9 : decode cX9_isHigh 9 = .ok (.if_icmp .gt 7, 3) := by decide +kernel
theorem dX9_isHigh_12 : decode cX9_isHigh 12 = .ok (.iconst 1, 1) := by decide +kernel
theorem dX9_isHigh_13 : decode cX9_isHigh 13 = .ok (.goto 4, 3) := by decide +kernel
theorem dX9_isHigh_16 : decode cX9_isHigh 16 = .ok (.iconst 0, 1) := by decide +kernel
theorem dX9_isHigh_17 : decode cX9_isHigh 17 = .ok (.ireturn, 1) := by decide +kernel
theorem dX9_isLow_0 : decode cX9_isLow 0 = .ok (.iload_n 0, 1) := by decide +kernel
theorem dX9_isLow_1 : decode cX9_isLow 1 = .ok (.ldc 25, 2) := by decide +kernel
theorem dX9_isLow_3 : decode cX9_isLow 3 = .ok (.if_icmp .lt 13, 3) := by decide +kernel
theorem dX9_isLow_6 : decode cX9_isLow 6 = .ok (.iload_n 0, 1) := by decide +kernel
theorem dX9_isLow_7 : decode cX9_isLow 7 = .ok (.ldc 42, 2) := by decide +kernel
theorem dX9_isLow_9 : decode cX9_isLow 9 = .ok (.if_icmp .gt 7, 3) := by decide +kernel
theorem dX9_isLow_12 : decode cX9_isLow 12 = .ok (.iconst 1, 1) := by decide +kernel
theorem dX9_isLow_13 : decode cX9_isLow 13 = .ok (.goto 4, 3) := by decide +kernel
theorem dX9_isLow_16 : decode cX9_isLow 16 = .ok (.iconst 0, 1) := by decide +kernel
theorem dX9_isLow_17 : decode cX9_isLow 17 = .ok (.ireturn, 1) := by decide +kernel
theorem dX9_joinPair_0 : decode cX9_joinPair 0 = .ok (.ldc 19, 2) := by decide +kernel
theorem dX9_joinPair_2 : decode cX9_joinPair 2 = .ok (.iload_n 0, 1) := by decide +kernel
theorem dX9_joinPair_3 : decode cX9_joinPair 3 = .ok (.ldc 24, 2) := by decide +kernel
theorem dX9_joinPair_5 : decode cX9_joinPair 5 = .ok (.isub, 1) := by decide +kernel
theorem dX9_joinPair_6 : decode cX9_joinPair 6 = .ok (.bipush 10, 2) := by decide +kernel
theorem dX9_joinPair_8 : decode cX9_joinPair 8 = .ok (.ishl, 1) := by decide +kernel
theorem dX9_joinPair_9 : decode cX9_joinPair 9 = .ok (.iadd, 1) := by decide +kernel
theorem dX9_joinPair_10 : decode cX9_joinPair 10 = .ok (.iload_n 1, 1) := by decide +kernel
theorem dX9_joinPair_11 : decode cX9_joinPair 11 = .ok (.ldc 25, 2) := by decide +kernel
theorem dX9_joinPair_13 : decode cX9_joinPair 13 = .ok (.isub, 1) := by decide +kernel
theorem dX9_joinPair_14 : decode cX9_joinPair 14 = .ok (.iadd, 1) := by decide +kernel
theorem dX9_joinPair_15 : decode cX9_joinPair 15 = .ok (.ireturn, 1) := by decide +kernel
theorem dX10_init_0 : decode cX10_init 0 = .ok (.aload_n 0, 1) := by decide +kernel
theorem dX10_init_1 : decode cX10_init 1 = .ok (.invokespecial 3, 3) := by decide +kernel
theorem dX10_init_4 : decode cX10_init 4 = .ok (.aload_n 0, 1) := by decide +kernel
theorem dX10_init_5 : decode cX10_init 5 = .ok (.bipush 12, 2) := by decide +kernel
theorem dX10_init_7 : decode cX10_init 7 = .ok (.newarray .int, 2) := by decide +kernel
theorem dX10_init_9 : decode cX10_init 9 = .ok (.putfield 9, 3) := by decide +kernel
theorem dX10_init_12 : decode cX10_init 12 = .ok (.aload_n 0, 1) := by decide +kernel
theorem dX10_init_13 : decode cX10_init 13 = .ok (.bipush 12, 2) := by decide +kernel
theorem dX10_init_15 : decode cX10_init 15 = .ok (.newarray .int, 2) := by decide +kernel
theorem dX10_init_17 : decode cX10_init 17 = .ok (.putfield 15, 3) := by decide +kernel
theorem dX10_init_20 : decode cX10_init 20 = .ok (.aload_n 0, 1) := by decide +kernel
theorem dX10_init_21 : decode cX10_init 21 = .ok (.aload_n 1, 1) := by decide +kernel
theorem dX10_init_22 : decode cX10_init 22 = .ok (.putfield 18, 3) := by decide +kernel
theorem dX10_init_25 : decode cX10_init 25 = .ok (.aload_n 0, 1) := by decide +kernel
theorem dX10_init_26 : decode cX10_init 26 = .ok (.aload_n 2, 1) := by decide +kernel
theorem dX10_init_27 : decode cX10_init 27 = .ok (.putfield 22, 3) := by decide +kernel
theorem dX10_init_30 : decode cX10_init 30 = .ok (.return_, 1) := by decide +kernel
theorem dX10_takeStays_0 : decode cX10_takeStays 0 = .ok (.aload_n 0, 1) := by decide +kernel
theorem dX10_takeStays_1 : decode cX10_takeStays 1 = .ok (.iconst 0, 1) := by decide +kernel
theorem dX10_takeStays_2 : decode cX10_takeStays 2 = .ok (.putfield 26, 3) := by decide +kernel
theorem dX10_takeStays_5 : decode cX10_takeStays 5 = .ok (.iconst 0, 1) := by decide +kernel
theorem dX10_takeStays_6 : decode cX10_takeStays 6 = .ok (.istore_n 3, 1) := by decide +kernel
theorem dX10_takeStays_7 : decode cX10_takeStays 7 = .ok (.iload_n 3, 1) := by decide +kernel
theorem dX10_takeStays_8 : decode cX10_takeStays 8 = .ok (.aload_n 0, 1) := by decide +kernel
theorem dX10_takeStays_9 : decode cX10_takeStays 9 = .ok (.getfield 22, 3) := by decide +kernel
theorem dX10_takeStays_12 : decode cX10_takeStays 12 = .ok (.getfield 30, 3) := by decide +kernel
theorem dX10_takeStays_15 : decode cX10_takeStays 15 = .ok (.if_icmp .ge 56, 3) := by decide +kernel
theorem dX10_takeStays_18 : decode cX10_takeStays 18 = .ok (.aload_n 0, 1) := by decide +kernel
theorem dX10_takeStays_19 : decode cX10_takeStays 19 = .ok (.getfield 22, 3) := by decide +kernel
theorem dX10_takeStays_22 : decode cX10_takeStays 22 = .ok (.iload_n 3, 1) := by decide +kernel
theorem dX10_takeStays_23 : decode cX10_takeStays 23 = .ok (.aload_n 1, 1) := by decide +kernel
theorem dX10_takeStays_24 : decode cX10_takeStays 24 = .ok (.getfield 35, 3) := by decide +kernel
theorem dX10_takeStays_27 : decode cX10_takeStays 27 = .ok (.iload_n 2, 1) := by decide +kernel
theorem dX10_takeStays_28 : decode cX10_takeStays 28 = .ok (.iaload, 1) := by decide +kernel
theorem dX10_takeStays_29 : decode cX10_takeStays 29 = .ok (.aload_n 1, 1) := by decide +kernel
theorem dX10_takeStays_30 : decode cX10_takeStays 30 = .ok (.getfield 40, 3) := by decide +kernel
theorem dX10_takeStays_33 : decode cX10_takeStays 33 = .ok (.iload_n 2, 1) := by decide +kernel
theorem dX10_takeStays_34 : decode cX10_takeStays 34 = .ok (.iaload, 1) := by decide +kernel
theorem dX10_takeStays_35 : decode cX10_takeStays 35 = .ok (.invokevirtual 43, 3) := by decide +kernel
theorem dX10_takeStays_38 : decode cX10_takeStays 38 = .ok (.ifCond .eq 27, 3) := by decide +kernel
theorem dX10_takeStays_41 : decode cX10_takeStays 41 = .ok (.aload_n 0, 1) := by decide +kernel
theorem dX10_takeStays_42 : decode cX10_takeStays 42 = .ok (.aload_n 0, 1) := by decide +kernel
theorem dX10_takeStays_43 : decode cX10_takeStays 43 = .ok (.getfield 22, 3) := by decide +kernel
theorem dX10_takeStays_46 : decode cX10_takeStays 46 = .ok (.getfield 47, 3) := by decide +kernel
theorem dX10_takeStays_49 : decode cX10_takeStays 49 = .ok (.iload_n 3, 1) := by decide +kernel
theorem dX10_takeStays_50 : decode cX10_takeStays 50 = .ok (.iaload, 1) := by decide +kernel
theorem dX10_takeStays_51 : decode cX10_takeStays 51 = .ok (.iconst 1, 1) := by decide +kernel
theorem dX10_takeStays_52 : decode cX10_takeStays 52 = .ok (.iadd, 1) := by decide +kernel
theorem dX10_takeStays_53 : decode cX10_takeStays 53 = .ok (.aload_n 0, 1) := by decide +kernel
theorem dX10_takeStays_54 : decode cX10_takeStays 54 = .ok (.getfield 22, 3) := by decide +kernel
theorem dX10_takeStays_57 : decode cX10_takeStays 57 = .ok (.getfield 50, 3) := by decide +kernel
theorem dX10_takeStays_60 : decode cX10_takeStays 60 = .ok (.iload_n 3, 1) := by decide +kernel
theorem dX10_takeStays_61 : decode cX10_takeStays 61 = .ok (.iaload, 1) := by decide +kernel
theorem dX10_takeStays_62 : decode cX10_takeStays 62 = .ok (.invokevirtual 53, 3) := by decide +kernel
theorem dX10_takeStays_65 : decode cX10_takeStays 65 = .ok (.iinc 3 1, 3) := by decide +kernel
theorem dX10_takeStays_68 : decode cX10_takeStays 68 = .ok (.goto (-61), 3) := by decide +kernel
theorem dX10_takeStays_71 : decode cX10_takeStays 71 = .ok (.return_, 1) := by decide +kernel
theorem dX10_joinRange_0 : decode cX10_joinRange 0 = .ok (.iload_n 2, 1) := by decide +kernel
theorem dX10_joinRange_1 : decode cX10_joinRange 1 = .ok (.iload_n 1, 1) := by decide +kernel
theorem dX10_joinRange_2 : decode cX10_joinRange 2 = .ok (.if_icmp .ge 4, 3) := by decide +kernel
theorem dX10_joinRange_5 : decode cX10_joinRange 5 = .ok (.return_, 1) := by decide +kernel
theorem dX10_joinRange_6 : decode cX10_joinRange 6 = .ok (.aload_n 0, 1) := by decide +kernel
theorem dX10_joinRange_7 : decode cX10_joinRange 7 = .ok (.getfield 26, 3) := by decide +kernel
theorem dX10_joinRange_10 : decode cX10_joinRange 10 = .ok (.ifCond .le 49, 3) := by decide +kernel
theorem dX10_joinRange_13 : decode cX10_joinRange 13 = .ok (.iload_n 1, 1) := by decide +kernel
theorem dX10_joinRange_14 : decode cX10_joinRange 14 = .ok (.aload_n 0, 1) := by decide +kernel
theorem dX10_joinRange_15 : decode cX10_joinRange 15 = .ok (.getfield 15, 3) := by decide +kernel
theorem dX10_joinRange_18 : decode cX10_joinRange 18 = .ok (.aload_n 0, 1) := by decide +kernel
theorem dX10_joinRange_19 : decode cX10_joinRange 19 = .ok (.getfield 26, 3) := by decide +kernel
theorem dX10_joinRange_22 : decode cX10_joinRange 22 = .ok (.iconst 1, 1) := by decide +kernel
theorem dX10_joinRange_23 : decode cX10_joinRange 23 = .ok (.isub, 1) := by decide +kernel
theorem dX10_joinRange_24 : decode cX10_joinRange 24 = .ok (.iaload, 1) := by decide +kernel
theorem dX10_joinRange_25 : decode cX10_joinRange 25 = .ok (.iconst 1, 1) := by decide +kernel
theorem dX10_joinRange_26 : decode cX10_joinRange 26 = .ok (.iadd, 1) := by decide +kernel
theorem dX10_joinRange_27 : decode cX10_joinRange 27 = .ok (.if_icmp .gt 32, 3) := by decide +kernel
theorem dX10_joinRange_30 : decode cX10_joinRange 30 = .ok (.aload_n 0, 1) := by decide +kernel
theorem dX10_joinRange_31 : decode cX10_joinRange 31 = .ok (.getfield 15, 3) := by decide +kernel
theorem dX10_joinRange_34 : decode cX10_joinRange 34 = .ok (.aload_n 0, 1) := by decide +kernel
theorem dX10_joinRange_35 : decode cX10_joinRange 35 = .ok (.getfield 26, 3) := by decide +kernel
theorem dX10_joinRange_38 : decode cX10_joinRange 38 = .ok (.iconst 1, 1) := by decide +kernel
theorem dX10_joinRange_39 : decode cX10_joinRange 39 = .ok (.isub, 1) := by decide +kernel
theorem dX10_joinRange_40 : decode cX10_joinRange 40 = .ok (.aload_n 0, 1) := by decide +kernel
theorem dX10_joinRange_41 : decode cX10_joinRange 41 = .ok (.getfield 15, 3) := by decide +kernel
theorem dX10_joinRange_44 : decode cX10_joinRange 44 = .ok (.aload_n 0, 1) := by decide +kernel
theorem dX10_joinRange_45 : decode cX10_joinRange 45 = .ok (.getfield 26, 3) := by decide +kernel
theorem dX10_joinRange_48 : decode cX10_joinRange 48 = .ok (.iconst 1, 1) := by decide +kernel
theorem dX10_joinRange_49 : decode cX10_joinRange 49 = .ok (.isub, 1) := by decide +kernel
theorem dX10_joinRange_50 : decode cX10_joinRange 50 = .ok (.iaload, 1) := by decide +kernel
theorem dX10_joinRange_51 : decode cX10_joinRange 51 = .ok (.iload_n 2, 1) := by decide +kernel
theorem dX10_joinRange_52 : decode cX10_joinRange 52 = .ok (.invokestatic 57, 3) := by decide +kernel
theorem dX10_joinRange_55 : decode cX10_joinRange 55 = .ok (.iastore, 1) := by decide +kernel
theorem dX10_joinRange_56 : decode cX10_joinRange 56 = .ok (.goto 42, 3) := by decide +kernel
theorem dX10_joinRange_59 : decode cX10_joinRange 59 = .ok (.aload_n 0, 1) := by decide +kernel
theorem dX10_joinRange_60 : decode cX10_joinRange 60 = .ok (.getfield 26, 3) := by decide +kernel
theorem dX10_joinRange_63 : decode cX10_joinRange 63 = .ok (.bipush 12, 2) := by decide +kernel
theorem dX10_joinRange_65 : decode cX10_joinRange 65 = .ok (.if_icmp .ge 33, 3) := by decide +kernel
theorem dX10_joinRange_68 : decode cX10_joinRange 68 = .ok (.aload_n 0, 1) := by decide +kernel
theorem dX10_joinRange_69 : decode cX10_joinRange 69 = .ok (.getfield 9, 3) := by decide +kernel
theorem dX10_joinRange_72 : decode cX10_joinRange 72 = .ok (.aload_n 0, 1) := by decide +kernel
theorem dX10_joinRange_73 : decode cX10_joinRange 73 = .ok (.getfield 26, 3) := by decide +kernel
theorem dX10_joinRange_76 : decode cX10_joinRange 76 = .ok (.iload_n 1, 1) := by decide +kernel
theorem dX10_joinRange_77 : decode cX10_joinRange 77 = .ok (.iastore, 1) := by decide +kernel
theorem dX10_joinRange_78 : decode cX10_joinRange 78 = .ok (.aload_n 0, 1) := by decide +kernel
theorem dX10_joinRange_79 : decode cX10_joinRange 79 = .ok (.getfield 15, 3) := by decide +kernel
theorem dX10_joinRange_82 : decode cX10_joinRange 82 = .ok (.aload_n 0, 1) := by decide +kernel
theorem dX10_joinRange_83 : decode cX10_joinRange 83 = .ok (.getfield 26, 3) := by decide +kernel
theorem dX10_joinRange_86 : decode cX10_joinRange 86 = .ok (.iload_n 2, 1) := by decide +kernel
theorem dX10_joinRange_87 : decode cX10_joinRange 87 = .ok (.iastore, 1) := by decide +kernel
theorem dX10_joinRange_88 : decode cX10_joinRange 88 = .ok (.aload_n 0, 1) := by decide +kernel
theorem dX10_joinRange_89 : decode cX10_joinRange 89 = .ok (.dup, 1) := by decide +kernel
theorem dX10_joinRange_90 : decode cX10_joinRange 90 = .ok (.getfield 26, 3) := by decide +kernel
theorem dX10_joinRange_93 : decode cX10_joinRange 93 = .ok (.iconst 1, 1) := by decide +kernel
theorem dX10_joinRange_94 : decode cX10_joinRange 94 = .ok (.iadd, 1) := by decide +kernel
theorem dX10_joinRange_95 : decode cX10_joinRange 95 = .ok (.putfield 26, 3) := by decide +kernel
theorem dX10_joinRange_98 : decode cX10_joinRange 98 = .ok (.return_, 1) := by decide +kernel
theorem dX10_countStopped_0 : decode cX10_countStopped 0 = .ok (.aload_n 0, 1) := by decide +kernel
theorem dX10_countStopped_1 : decode cX10_countStopped 1 = .ok (.aload_n 1, 1) := by decide +kernel
theorem dX10_countStopped_2 : decode cX10_countStopped 2 = .ok (.iload_n 2, 1) := by decide +kernel
theorem dX10_countStopped_3 : decode cX10_countStopped 3 = .ok (.invokevirtual 63, 3) := by decide +kernel
theorem dX10_countStopped_6 : decode cX10_countStopped 6 = .ok (.iconst 0, 1) := by decide +kernel
theorem dX10_countStopped_7 : decode cX10_countStopped 7 = .ok (.istore 5, 2) := by decide +kernel
theorem dX10_countStopped_9 : decode cX10_countStopped 9 = .ok (.iconst 0, 1) := by decide +kernel
theorem dX10_countStopped_10 : decode cX10_countStopped 10 = .ok (.istore 6, 2) := by decide +kernel
theorem dX10_countStopped_12 : decode cX10_countStopped 12 = .ok (.iload 6, 2) := by decide +kernel
theorem dX10_countStopped_14 : decode cX10_countStopped 14 = .ok (.aload_n 0, 1) := by decide +kernel
theorem dX10_countStopped_15 : decode cX10_countStopped 15 = .ok (.getfield 26, 3) := by decide +kernel
theorem dX10_countStopped_18 : decode cX10_countStopped 18 = .ok (.if_icmp .ge 52, 3) := by decide +kernel
theorem dX10_countStopped_21 : decode cX10_countStopped 21 = .ok (.iload_n 3, 1) := by decide +kernel
theorem dX10_countStopped_22 : decode cX10_countStopped 22 = .ok (.aload_n 0, 1) := by decide +kernel
theorem dX10_countStopped_23 : decode cX10_countStopped 23 = .ok (.getfield 9, 3) := by decide +kernel
theorem dX10_countStopped_26 : decode cX10_countStopped 26 = .ok (.iload 6, 2) := by decide +kernel
theorem dX10_countStopped_28 : decode cX10_countStopped 28 = .ok (.iaload, 1) := by decide +kernel
theorem dX10_countStopped_29 : decode cX10_countStopped 29 = .ok (.invokestatic 57, 3) := by decide +kernel
theorem dX10_countStopped_32 : decode cX10_countStopped 32 = .ok (.istore 7, 2) := by decide +kernel
theorem dX10_countStopped_34 : decode cX10_countStopped 34 = .ok (.iload 4, 2) := by decide +kernel
theorem dX10_countStopped_36 : decode cX10_countStopped 36 = .ok (.aload_n 0, 1) := by decide +kernel
theorem dX10_countStopped_37 : decode cX10_countStopped 37 = .ok (.getfield 15, 3) := by decide +kernel
theorem dX10_countStopped_40 : decode cX10_countStopped 40 = .ok (.iload 6, 2) := by decide +kernel
theorem dX10_countStopped_42 : decode cX10_countStopped 42 = .ok (.iaload, 1) := by decide +kernel
theorem dX10_countStopped_43 : decode cX10_countStopped 43 = .ok (.invokestatic 67, 3) := by decide +kernel
theorem dX10_countStopped_46 : decode cX10_countStopped 46 = .ok (.istore 8, 2) := by decide +kernel
theorem dX10_countStopped_48 : decode cX10_countStopped 48 = .ok (.iload 5, 2) := by decide +kernel
theorem dX10_countStopped_50 : decode cX10_countStopped 50 = .ok (.iconst 0, 1) := by decide +kernel
theorem dX10_countStopped_51 : decode cX10_countStopped 51 = .ok (.iload 8, 2) := by decide +kernel
theorem dX10_countStopped_53 : decode cX10_countStopped 53 = .ok (.iload 7, 2) := by decide +kernel
theorem dX10_countStopped_55 : decode cX10_countStopped 55 = .ok (.isub, 1) := by decide +kernel
theorem dX10_countStopped_56 : decode cX10_countStopped 56 = .ok (.iconst 1, 1) := by decide +kernel
theorem dX10_countStopped_57 : decode cX10_countStopped 57 = .ok (.iadd, 1) := by decide +kernel
theorem dX10_countStopped_58 : decode cX10_countStopped 58 = .ok (.invokestatic 57, 3) := by decide +kernel
theorem dX10_countStopped_61 : decode cX10_countStopped 61 = .ok (.iadd, 1) := by decide +kernel
theorem dX10_countStopped_62 : decode cX10_countStopped 62 = .ok (.istore 5, 2) := by decide +kernel
theorem dX10_countStopped_64 : decode cX10_countStopped 64 = .ok (.iinc 6 1, 3) := by decide +kernel
theorem dX10_countStopped_67 : decode cX10_countStopped 67 = .ok (.goto (-55), 3) := by decide +kernel
theorem dX10_countStopped_70 : decode cX10_countStopped 70 = .ok (.iload 5, 2) := by decide +kernel
theorem dX10_countStopped_72 : decode cX10_countStopped 72 = .ok (.ireturn, 1) := by decide +kernel
theorem dX10_endOf_0 : decode cX10_endOf 0 = .ok (.aload_n 0, 1) := by decide +kernel
theorem dX10_endOf_1 : decode cX10_endOf 1 = .ok (.aload_n 1, 1) := by decide +kernel
theorem dX10_endOf_2 : decode cX10_endOf 2 = .ok (.iload_n 2, 1) := by decide +kernel
theorem dX10_endOf_3 : decode cX10_endOf 3 = .ok (.invokevirtual 63, 3) := by decide +kernel
theorem dX10_endOf_6 : decode cX10_endOf 6 = .ok (.aload_n 1, 1) := by decide +kernel
theorem dX10_endOf_7 : decode cX10_endOf 7 = .ok (.getfield 70, 3) := by decide +kernel
theorem dX10_endOf_10 : decode cX10_endOf 10 = .ok (.iload_n 2, 1) := by decide +kernel
theorem dX10_endOf_11 : decode cX10_endOf 11 = .ok (.iaload, 1) := by decide +kernel
theorem dX10_endOf_12 : decode cX10_endOf 12 = .ok (.istore_n 3, 1) := by decide +kernel
theorem dX10_endOf_13 : decode cX10_endOf 13 = .ok (.iconst 0, 1) := by decide +kernel
theorem dX10_endOf_14 : decode cX10_endOf 14 = .ok (.istore 4, 2) := by decide +kernel
theorem dX10_endOf_16 : decode cX10_endOf 16 = .ok (.iload 4, 2) := by decide +kernel
theorem dX10_endOf_18 : decode cX10_endOf 18 = .ok (.aload_n 1, 1) := by decide +kernel
theorem dX10_endOf_19 : decode cX10_endOf 19 = .ok (.getfield 73, 3) := by decide +kernel
theorem dX10_endOf_22 : decode cX10_endOf 22 = .ok (.iload_n 2, 1) := by decide +kernel
theorem dX10_endOf_23 : decode cX10_endOf 23 = .ok (.iaload, 1) := by decide +kernel
theorem dX10_endOf_24 : decode cX10_endOf 24 = .ok (.if_icmp .ge 46, 3) := by decide +kernel
theorem dX10_endOf_27 : decode cX10_endOf 27 = .ok (.iload_n 3, 1) := by decide +kernel
theorem dX10_endOf_28 : decode cX10_endOf 28 = .ok (.sipush 4999, 3) := by decide +kernel
theorem dX10_endOf_31 : decode cX10_endOf 31 = .ok (.if_icmp .gt 39, 3) := by decide +kernel
theorem dX10_endOf_34 : decode cX10_endOf 34 = .ok (.aload_n 1, 1) := by decide +kernel
theorem dX10_endOf_35 : decode cX10_endOf 35 = .ok (.iload_n 2, 1) := by decide +kernel
theorem dX10_endOf_36 : decode cX10_endOf 36 = .ok (.iload 4, 2) := by decide +kernel
theorem dX10_endOf_38 : decode cX10_endOf 38 = .ok (.invokevirtual 76, 3) := by decide +kernel
theorem dX10_endOf_41 : decode cX10_endOf 41 = .ok (.istore 5, 2) := by decide +kernel
theorem dX10_endOf_43 : decode cX10_endOf 43 = .ok (.aload_n 0, 1) := by decide +kernel
theorem dX10_endOf_44 : decode cX10_endOf 44 = .ok (.aload_n 0, 1) := by decide +kernel
theorem dX10_endOf_45 : decode cX10_endOf 45 = .ok (.iload_n 3, 1) := by decide +kernel
theorem dX10_endOf_46 : decode cX10_endOf 46 = .ok (.iconst 1, 1) := by decide +kernel
theorem dX10_endOf_47 : decode cX10_endOf 47 = .ok (.iadd, 1) := by decide +kernel
theorem dX10_endOf_48 : decode cX10_endOf 48 = .ok (.aload_n 1, 1) := by decide +kernel
theorem dX10_endOf_49 : decode cX10_endOf 49 = .ok (.iload_n 2, 1) := by decide +kernel
theorem dX10_endOf_50 : decode cX10_endOf 50 = .ok (.iload 4, 2) := by decide +kernel
theorem dX10_endOf_52 : decode cX10_endOf 52 = .ok (.invokevirtual 80, 3) := by decide +kernel
theorem dX10_endOf_55 : decode cX10_endOf 55 = .ok (.iload 5, 2) := by decide +kernel
theorem dX10_endOf_57 : decode cX10_endOf 57 = .ok (.invokevirtual 83, 3) := by decide +kernel
theorem dX10_endOf_60 : decode cX10_endOf 60 = .ok (.invokevirtual 87, 3) := by decide +kernel
theorem dX10_endOf_63 : decode cX10_endOf 63 = .ok (.istore_n 3, 1) := by decide +kernel
theorem dX10_endOf_64 : decode cX10_endOf 64 = .ok (.iinc 4 1, 3) := by decide +kernel
theorem dX10_endOf_67 : decode cX10_endOf 67 = .ok (.goto (-51), 3) := by decide +kernel
theorem dX10_endOf_70 : decode cX10_endOf 70 = .ok (.iload_n 3, 1) := by decide +kernel
theorem dX10_endOf_71 : decode cX10_endOf 71 = .ok (.ireturn, 1) := by decide +kernel
theorem dX10_countedUntil_0 : decode cX10_countedUntil 0 = .ok (.aload_n 0, 1) := by decide +kernel
theorem dX10_countedUntil_1 : decode cX10_countedUntil 1 = .ok (.aload_n 1, 1) := by decide +kernel
theorem dX10_countedUntil_2 : decode cX10_countedUntil 2 = .ok (.iload_n 2, 1) := by decide +kernel
theorem dX10_countedUntil_3 : decode cX10_countedUntil 3 = .ok (.invokevirtual 63, 3) := by decide +kernel
theorem dX10_countedUntil_6 : decode cX10_countedUntil 6 = .ok (.iconst 0, 1) := by decide +kernel
theorem dX10_countedUntil_7 : decode cX10_countedUntil 7 = .ok (.istore 4, 2) := by decide +kernel
theorem dX10_countedUntil_9 : decode cX10_countedUntil 9 = .ok (.aload_n 1, 1) := by decide +kernel
theorem dX10_countedUntil_10 : decode cX10_countedUntil 10 = .ok (.getfield 70, 3) := by decide +kernel
theorem dX10_countedUntil_13 : decode cX10_countedUntil 13 = .ok (.iload_n 2, 1) := by decide +kernel
theorem dX10_countedUntil_14 : decode cX10_countedUntil 14 = .ok (.iaload, 1) := by decide +kernel
theorem dX10_countedUntil_15 : decode cX10_countedUntil 15 = .ok (.iconst 1, 1) := by decide +kernel
theorem dX10_countedUntil_16 : decode cX10_countedUntil 16 = .ok (.iadd, 1) := by decide +kernel
theorem dX10_countedUntil_17 : decode cX10_countedUntil 17 = .ok (.istore 5, 2) := by decide +kernel
theorem dX10_countedUntil_19 : decode cX10_countedUntil 19 = .ok (.iconst 0, 1) := by decide +kernel
theorem dX10_countedUntil_20 : decode cX10_countedUntil 20 = .ok (.istore 6, 2) := by decide +kernel
theorem dX10_countedUntil_22 : decode cX10_countedUntil 22 = .ok (.iload 6, 2) := by decide +kernel
theorem dX10_countedUntil_24 : decode cX10_countedUntil 24 = .ok (.aload_n 1, 1) := by decide +kernel
theorem dX10_countedUntil_25 : decode cX10_countedUntil 25 = .ok (.getfield 73, 3) := by decide +kernel
theorem dX10_countedUntil_28 : decode cX10_countedUntil 28 = .ok (.iload_n 2, 1) := by decide +kernel
theorem dX10_countedUntil_29 : decode cX10_countedUntil 29 = .ok (.iaload, 1) := by decide +kernel
theorem dX10_countedUntil_30 : decode cX10_countedUntil 30 = .ok (.if_icmp .ge 80, 3) := by decide +kernel
theorem dX10_countedUntil_33 : decode cX10_countedUntil 33 = .ok (.iload 5, 2) := by decide +kernel
theorem dX10_countedUntil_35 : decode cX10_countedUntil 35 = .ok (.iload_n 3, 1) := by decide +kernel
theorem dX10_countedUntil_36 : decode cX10_countedUntil 36 = .ok (.if_icmp .gt 74, 3) := by decide +kernel
theorem dX10_countedUntil_39 : decode cX10_countedUntil 39 = .ok (.aload_n 1, 1) := by decide +kernel
theorem dX10_countedUntil_40 : decode cX10_countedUntil 40 = .ok (.iload_n 2, 1) := by decide +kernel
theorem dX10_countedUntil_41 : decode cX10_countedUntil 41 = .ok (.iload 6, 2) := by decide +kernel
theorem dX10_countedUntil_43 : decode cX10_countedUntil 43 = .ok (.invokevirtual 80, 3) := by decide +kernel
theorem dX10_countedUntil_46 : decode cX10_countedUntil 46 = .ok (.istore 7, 2) := by decide +kernel
theorem dX10_countedUntil_48 : decode cX10_countedUntil 48 = .ok (.aload_n 1, 1) := by decide +kernel
theorem dX10_countedUntil_49 : decode cX10_countedUntil 49 = .ok (.iload_n 2, 1) := by decide +kernel
theorem dX10_countedUntil_50 : decode cX10_countedUntil 50 = .ok (.iload 6, 2) := by decide +kernel
theorem dX10_countedUntil_52 : decode cX10_countedUntil 52 = .ok (.invokevirtual 76, 3) := by decide +kernel
theorem dX10_countedUntil_55 : decode cX10_countedUntil 55 = .ok (.istore 8, 2) := by decide +kernel
theorem dX10_countedUntil_57 : decode cX10_countedUntil 57 = .ok (.aload_n 0, 1) := by decide +kernel
theorem dX10_countedUntil_58 : decode cX10_countedUntil 58 = .ok (.iload 5, 2) := by decide +kernel
theorem dX10_countedUntil_60 : decode cX10_countedUntil 60 = .ok (.iload 7, 2) := by decide +kernel
theorem dX10_countedUntil_62 : decode cX10_countedUntil 62 = .ok (.iload 8, 2) := by decide +kernel
theorem dX10_countedUntil_64 : decode cX10_countedUntil 64 = .ok (.invokevirtual 83, 3) := by decide +kernel
theorem dX10_countedUntil_67 : decode cX10_countedUntil 67 = .ok (.istore 9, 2) := by decide +kernel
theorem dX10_countedUntil_69 : decode cX10_countedUntil 69 = .ok (.iload 4, 2) := by decide +kernel
theorem dX10_countedUntil_71 : decode cX10_countedUntil 71 = .ok (.iload 9, 2) := by decide +kernel
theorem dX10_countedUntil_73 : decode cX10_countedUntil 73 = .ok (.iload_n 3, 1) := by decide +kernel
theorem dX10_countedUntil_74 : decode cX10_countedUntil 74 = .ok (.if_icmp .gt 8, 3) := by decide +kernel
theorem dX10_countedUntil_77 : decode cX10_countedUntil 77 = .ok (.iload 7, 2) := by decide +kernel
theorem dX10_countedUntil_79 : decode cX10_countedUntil 79 = .ok (.goto 12, 3) := by decide +kernel
theorem dX10_countedUntil_82 : decode cX10_countedUntil 82 = .ok (.aload_n 0, 1) := by decide +kernel
theorem dX10_countedUntil_83 : decode cX10_countedUntil 83 = .ok (.iload 5, 2) := by decide +kernel
theorem dX10_countedUntil_85 : decode cX10_countedUntil 85 = .ok (.iload_n 3, 1) := by decide +kernel
theorem dX10_countedUntil_86 : decode cX10_countedUntil 86 = .ok (.iload 8, 2) := by decide +kernel
theorem dX10_countedUntil_88 : decode cX10_countedUntil 88 = .ok (.invokevirtual 91, 3) := by decide +kernel
theorem dX10_countedUntil_91 : decode cX10_countedUntil 91 = .ok (.iadd, 1) := by decide +kernel
theorem dX10_countedUntil_92 : decode cX10_countedUntil 92 = .ok (.istore 4, 2) := by decide +kernel
theorem dX10_countedUntil_94 : decode cX10_countedUntil 94 = .ok (.aload_n 0, 1) := by decide +kernel
theorem dX10_countedUntil_95 : decode cX10_countedUntil 95 = .ok (.iload 9, 2) := by decide +kernel
theorem dX10_countedUntil_97 : decode cX10_countedUntil 97 = .ok (.invokevirtual 87, 3) := by decide +kernel
theorem dX10_countedUntil_100 : decode cX10_countedUntil 100 = .ok (.iconst 1, 1) := by decide +kernel
theorem dX10_countedUntil_101 : decode cX10_countedUntil 101 = .ok (.iadd, 1) := by decide +kernel
theorem dX10_countedUntil_102 : decode cX10_countedUntil 102 = .ok (.istore 5, 2) := by decide +kernel
theorem dX10_countedUntil_104 : decode cX10_countedUntil 104 = .ok (.iinc 6 1, 3) := by decide +kernel
theorem dX10_countedUntil_107 : decode cX10_countedUntil 107 = .ok (.goto (-85), 3) := by decide +kernel
theorem dX10_countedUntil_110 : decode cX10_countedUntil 110 = .ok (.iload 4, 2) := by decide +kernel
theorem dX10_countedUntil_112 : decode cX10_countedUntil 112 = .ok (.ireturn, 1) := by decide +kernel
theorem dX10_dayOfCount_0 : decode cX10_dayOfCount 0 = .ok (.iload_n 1, 1) := by decide +kernel
theorem dX10_dayOfCount_1 : decode cX10_dayOfCount 1 = .ok (.istore 4, 2) := by decide +kernel
theorem dX10_dayOfCount_3 : decode cX10_dayOfCount 3 = .ok (.iload_n 2, 1) := by decide +kernel
theorem dX10_dayOfCount_4 : decode cX10_dayOfCount 4 = .ok (.istore 5, 2) := by decide +kernel
theorem dX10_dayOfCount_6 : decode cX10_dayOfCount 6 = .ok (.iconst 0, 1) := by decide +kernel
theorem dX10_dayOfCount_7 : decode cX10_dayOfCount 7 = .ok (.istore 6, 2) := by decide +kernel
theorem dX10_dayOfCount_9 : decode cX10_dayOfCount 9 = .ok (.iload 6, 2) := by decide +kernel
theorem dX10_dayOfCount_11 : decode cX10_dayOfCount 11 = .ok (.aload_n 0, 1) := by decide +kernel
theorem dX10_dayOfCount_12 : decode cX10_dayOfCount 12 = .ok (.getfield 26, 3) := by decide +kernel
theorem dX10_dayOfCount_15 : decode cX10_dayOfCount 15 = .ok (.if_icmp .gt 71, 3) := by decide +kernel
theorem dX10_dayOfCount_18 : decode cX10_dayOfCount 18 = .ok (.aload_n 0, 1) := by decide +kernel
theorem dX10_dayOfCount_19 : decode cX10_dayOfCount 19 = .ok (.iload 4, 2) := by decide +kernel
theorem dX10_dayOfCount_21 : decode cX10_dayOfCount 21 = .ok (.aload_n 0, 1) := by decide +kernel
theorem dX10_dayOfCount_22 : decode cX10_dayOfCount 22 = .ok (.iload 6, 2) := by decide +kernel
theorem dX10_dayOfCount_24 : decode cX10_dayOfCount 24 = .ok (.invokevirtual 94, 3) := by decide +kernel
theorem dX10_dayOfCount_27 : decode cX10_dayOfCount 27 = .ok (.iload_n 3, 1) := by decide +kernel
theorem dX10_dayOfCount_28 : decode cX10_dayOfCount 28 = .ok (.invokevirtual 97, 3) := by decide +kernel
theorem dX10_dayOfCount_31 : decode cX10_dayOfCount 31 = .ok (.istore 7, 2) := by decide +kernel
theorem dX10_dayOfCount_33 : decode cX10_dayOfCount 33 = .ok (.iload 7, 2) := by decide +kernel
theorem dX10_dayOfCount_35 : decode cX10_dayOfCount 35 = .ok (.iload 5, 2) := by decide +kernel
theorem dX10_dayOfCount_37 : decode cX10_dayOfCount 37 = .ok (.if_icmp .lt 26, 3) := by decide +kernel
theorem dX10_dayOfCount_40 : decode cX10_dayOfCount 40 = .ok (.iload_n 3, 1) := by decide +kernel
theorem dX10_dayOfCount_41 : decode cX10_dayOfCount 41 = .ok (.ifCond .eq 14, 3) := by decide +kernel
theorem dX10_dayOfCount_44 : decode cX10_dayOfCount 44 = .ok (.aload_n 0, 1) := by decide +kernel
theorem dX10_dayOfCount_45 : decode cX10_dayOfCount 45 = .ok (.iload 4, 2) := by decide +kernel
theorem dX10_dayOfCount_47 : decode cX10_dayOfCount 47 = .ok (.iload 5, 2) := by decide +kernel
theorem dX10_dayOfCount_49 : decode cX10_dayOfCount 49 = .ok (.invokevirtual 100, 3) := by decide +kernel
theorem dX10_dayOfCount_52 : decode cX10_dayOfCount 52 = .ok (.goto 10, 3) := by decide +kernel
theorem dX10_dayOfCount_55 : decode cX10_dayOfCount 55 = .ok (.iload 4, 2) := by decide +kernel
theorem dX10_dayOfCount_57 : decode cX10_dayOfCount 57 = .ok (.iload 5, 2) := by decide +kernel
theorem dX10_dayOfCount_59 : decode cX10_dayOfCount 59 = .ok (.iadd, 1) := by decide +kernel
theorem dX10_dayOfCount_60 : decode cX10_dayOfCount 60 = .ok (.iconst 1, 1) := by decide +kernel
theorem dX10_dayOfCount_61 : decode cX10_dayOfCount 61 = .ok (.isub, 1) := by decide +kernel
theorem dX10_dayOfCount_62 : decode cX10_dayOfCount 62 = .ok (.ireturn, 1) := by decide +kernel
theorem dX10_dayOfCount_63 : decode cX10_dayOfCount 63 = .ok (.iload 5, 2) := by decide +kernel
theorem dX10_dayOfCount_65 : decode cX10_dayOfCount 65 = .ok (.iload 7, 2) := by decide +kernel
theorem dX10_dayOfCount_67 : decode cX10_dayOfCount 67 = .ok (.isub, 1) := by decide +kernel
theorem dX10_dayOfCount_68 : decode cX10_dayOfCount 68 = .ok (.istore 5, 2) := by decide +kernel
theorem dX10_dayOfCount_70 : decode cX10_dayOfCount 70 = .ok (.aload_n 0, 1) := by decide +kernel
theorem dX10_dayOfCount_71 : decode cX10_dayOfCount 71 = .ok (.iload 6, 2) := by decide +kernel
theorem dX10_dayOfCount_73 : decode cX10_dayOfCount 73 = .ok (.iload 4, 2) := by decide +kernel
theorem dX10_dayOfCount_75 : decode cX10_dayOfCount 75 = .ok (.invokevirtual 103, 3) := by decide +kernel
theorem dX10_dayOfCount_78 : decode cX10_dayOfCount 78 = .ok (.istore 4, 2) := by decide +kernel
theorem dX10_dayOfCount_80 : decode cX10_dayOfCount 80 = .ok (.iinc 6 1, 3) := by decide +kernel
theorem dX10_dayOfCount_83 : decode cX10_dayOfCount 83 = .ok (.goto (-74), 3) := by decide +kernel
theorem dX10_dayOfCount_86 : decode cX10_dayOfCount 86 = .ok (.sipush 5000, 3) := by decide +kernel
theorem dX10_dayOfCount_89 : decode cX10_dayOfCount 89 = .ok (.ireturn, 1) := by decide +kernel
theorem dX10_countFree_0 : decode cX10_countFree 0 = .ok (.iconst 0, 1) := by decide +kernel
theorem dX10_countFree_1 : decode cX10_countFree 1 = .ok (.istore 4, 2) := by decide +kernel
theorem dX10_countFree_3 : decode cX10_countFree 3 = .ok (.iload_n 1, 1) := by decide +kernel
theorem dX10_countFree_4 : decode cX10_countFree 4 = .ok (.istore 5, 2) := by decide +kernel
theorem dX10_countFree_6 : decode cX10_countFree 6 = .ok (.iconst 0, 1) := by decide +kernel
theorem dX10_countFree_7 : decode cX10_countFree 7 = .ok (.istore 6, 2) := by decide +kernel
theorem dX10_countFree_9 : decode cX10_countFree 9 = .ok (.iload 6, 2) := by decide +kernel
theorem dX10_countFree_11 : decode cX10_countFree 11 = .ok (.aload_n 0, 1) := by decide +kernel
theorem dX10_countFree_12 : decode cX10_countFree 12 = .ok (.getfield 26, 3) := by decide +kernel
theorem dX10_countFree_15 : decode cX10_countFree 15 = .ok (.if_icmp .gt 41, 3) := by decide +kernel
theorem dX10_countFree_18 : decode cX10_countFree 18 = .ok (.iload 4, 2) := by decide +kernel
theorem dX10_countFree_20 : decode cX10_countFree 20 = .ok (.aload_n 0, 1) := by decide +kernel
theorem dX10_countFree_21 : decode cX10_countFree 21 = .ok (.iload 5, 2) := by decide +kernel
theorem dX10_countFree_23 : decode cX10_countFree 23 = .ok (.iload_n 2, 1) := by decide +kernel
theorem dX10_countFree_24 : decode cX10_countFree 24 = .ok (.aload_n 0, 1) := by decide +kernel
theorem dX10_countFree_25 : decode cX10_countFree 25 = .ok (.iload 6, 2) := by decide +kernel
theorem dX10_countFree_27 : decode cX10_countFree 27 = .ok (.invokevirtual 94, 3) := by decide +kernel
theorem dX10_countFree_30 : decode cX10_countFree 30 = .ok (.invokestatic 67, 3) := by decide +kernel
theorem dX10_countFree_33 : decode cX10_countFree 33 = .ok (.iload_n 3, 1) := by decide +kernel
theorem dX10_countFree_34 : decode cX10_countFree 34 = .ok (.invokevirtual 97, 3) := by decide +kernel
theorem dX10_countFree_37 : decode cX10_countFree 37 = .ok (.iadd, 1) := by decide +kernel
theorem dX10_countFree_38 : decode cX10_countFree 38 = .ok (.istore 4, 2) := by decide +kernel
theorem dX10_countFree_40 : decode cX10_countFree 40 = .ok (.aload_n 0, 1) := by decide +kernel
theorem dX10_countFree_41 : decode cX10_countFree 41 = .ok (.iload 6, 2) := by decide +kernel
theorem dX10_countFree_43 : decode cX10_countFree 43 = .ok (.iload 5, 2) := by decide +kernel
theorem dX10_countFree_45 : decode cX10_countFree 45 = .ok (.invokevirtual 103, 3) := by decide +kernel
theorem dX10_countFree_48 : decode cX10_countFree 48 = .ok (.istore 5, 2) := by decide +kernel
theorem dX10_countFree_50 : decode cX10_countFree 50 = .ok (.iinc 6 1, 3) := by decide +kernel
theorem dX10_countFree_53 : decode cX10_countFree 53 = .ok (.goto (-44), 3) := by decide +kernel
theorem dX10_countFree_56 : decode cX10_countFree 56 = .ok (.iload 4, 2) := by decide +kernel
theorem dX10_countFree_58 : decode cX10_countFree 58 = .ok (.ireturn, 1) := by decide +kernel
theorem dX10_lastDayOfGap_0 : decode cX10_lastDayOfGap 0 = .ok (.iload_n 1, 1) := by decide +kernel
theorem dX10_lastDayOfGap_1 : decode cX10_lastDayOfGap 1 = .ok (.aload_n 0, 1) := by decide +kernel
theorem dX10_lastDayOfGap_2 : decode cX10_lastDayOfGap 2 = .ok (.getfield 26, 3) := by decide +kernel
theorem dX10_lastDayOfGap_5 : decode cX10_lastDayOfGap 5 = .ok (.if_icmp .ge 14, 3) := by decide +kernel
theorem dX10_lastDayOfGap_8 : decode cX10_lastDayOfGap 8 = .ok (.aload_n 0, 1) := by decide +kernel
theorem dX10_lastDayOfGap_9 : decode cX10_lastDayOfGap 9 = .ok (.getfield 9, 3) := by decide +kernel
theorem dX10_lastDayOfGap_12 : decode cX10_lastDayOfGap 12 = .ok (.iload_n 1, 1) := by decide +kernel
theorem dX10_lastDayOfGap_13 : decode cX10_lastDayOfGap 13 = .ok (.iaload, 1) := by decide +kernel
theorem dX10_lastDayOfGap_14 : decode cX10_lastDayOfGap 14 = .ok (.iconst 1, 1) := by decide +kernel
theorem dX10_lastDayOfGap_15 : decode cX10_lastDayOfGap 15 = .ok (.isub, 1) := by decide +kernel
theorem dX10_lastDayOfGap_16 : decode cX10_lastDayOfGap 16 = .ok (.goto 6, 3) := by decide +kernel
theorem dX10_lastDayOfGap_19 : decode cX10_lastDayOfGap 19 = .ok (.sipush 4999, 3) := by decide +kernel
theorem dX10_lastDayOfGap_22 : decode cX10_lastDayOfGap 22 = .ok (.ireturn, 1) := by decide +kernel
theorem dX10_dayBehindRange_0 : decode cX10_dayBehindRange 0 = .ok (.iload_n 1, 1) := by decide +kernel
theorem dX10_dayBehindRange_1 : decode cX10_dayBehindRange 1 = .ok (.aload_n 0, 1) := by decide +kernel
theorem dX10_dayBehindRange_2 : decode cX10_dayBehindRange 2 = .ok (.getfield 26, 3) := by decide +kernel
theorem dX10_dayBehindRange_5 : decode cX10_dayBehindRange 5 = .ok (.if_icmp .ge 18, 3) := by decide +kernel
theorem dX10_dayBehindRange_8 : decode cX10_dayBehindRange 8 = .ok (.iload_n 2, 1) := by decide +kernel
theorem dX10_dayBehindRange_9 : decode cX10_dayBehindRange 9 = .ok (.aload_n 0, 1) := by decide +kernel
theorem dX10_dayBehindRange_10 : decode cX10_dayBehindRange 10 = .ok (.getfield 15, 3) := by decide +kernel
theorem dX10_dayBehindRange_13 : decode cX10_dayBehindRange 13 = .ok (.iload_n 1, 1) := by decide +kernel
theorem dX10_dayBehindRange_14 : decode cX10_dayBehindRange 14 = .ok (.iaload, 1) := by decide +kernel
theorem dX10_dayBehindRange_15 : decode cX10_dayBehindRange 15 = .ok (.iconst 1, 1) := by decide +kernel
theorem dX10_dayBehindRange_16 : decode cX10_dayBehindRange 16 = .ok (.iadd, 1) := by decide +kernel
theorem dX10_dayBehindRange_17 : decode cX10_dayBehindRange 17 = .ok (.invokestatic 57, 3) := by decide +kernel
theorem dX10_dayBehindRange_20 : decode cX10_dayBehindRange 20 = .ok (.goto 6, 3) := by decide +kernel
theorem dX10_dayBehindRange_23 : decode cX10_dayBehindRange 23 = .ok (.sipush 5000, 3) := by decide +kernel
theorem dX10_dayBehindRange_26 : decode cX10_dayBehindRange 26 = .ok (.ireturn, 1) := by decide +kernel
theorem dX10_countDays_0 : decode cX10_countDays 0 = .ok (.iload_n 3, 1) := by decide +kernel
theorem dX10_countDays_1 : decode cX10_countDays 1 = .ok (.ifCond .eq 15, 3) := by decide +kernel
theorem dX10_countDays_4 : decode cX10_countDays 4 = .ok (.aload_n 0, 1) := by decide +kernel
theorem dX10_countDays_5 : decode cX10_countDays 5 = .ok (.getfield 18, 3) := by decide +kernel
theorem dX10_countDays_8 : decode cX10_countDays 8 = .ok (.iload_n 1, 1) := by decide +kernel
theorem dX10_countDays_9 : decode cX10_countDays 9 = .ok (.iload_n 2, 1) := by decide +kernel
theorem dX10_countDays_10 : decode cX10_countDays 10 = .ok (.invokevirtual 106, 3) := by decide +kernel
theorem dX10_countDays_13 : decode cX10_countDays 13 = .ok (.goto 12, 3) := by decide +kernel
theorem dX10_countDays_16 : decode cX10_countDays 16 = .ok (.iconst 0, 1) := by decide +kernel
theorem dX10_countDays_17 : decode cX10_countDays 17 = .ok (.iload_n 2, 1) := by decide +kernel
theorem dX10_countDays_18 : decode cX10_countDays 18 = .ok (.iload_n 1, 1) := by decide +kernel
theorem dX10_countDays_19 : decode cX10_countDays 19 = .ok (.isub, 1) := by decide +kernel
theorem dX10_countDays_20 : decode cX10_countDays 20 = .ok (.iconst 1, 1) := by decide +kernel
theorem dX10_countDays_21 : decode cX10_countDays 21 = .ok (.iadd, 1) := by decide +kernel
theorem dX10_countDays_22 : decode cX10_countDays 22 = .ok (.invokestatic 57, 3) := by decide +kernel
theorem dX10_countDays_25 : decode cX10_countDays 25 = .ok (.ireturn, 1) := by decide +kernel
theorem dX10_courtDayOfCount_0 : decode cX10_courtDayOfCount 0 = .ok (.iload_n 1, 1) := by decide +kernel
theorem dX10_courtDayOfCount_1 : decode cX10_courtDayOfCount 1 = .ok (.istore_n 3, 1) := by decide +kernel
theorem dX10_courtDayOfCount_2 : decode cX10_courtDayOfCount 2 = .ok (.iload_n 2, 1) := by decide +kernel
theorem dX10_courtDayOfCount_3 : decode cX10_courtDayOfCount 3 = .ok (.istore 4, 2) := by decide +kernel
theorem dX10_courtDayOfCount_5 : decode cX10_courtDayOfCount 5 = .ok (.iload 4, 2) := by decide +kernel
theorem dX10_courtDayOfCount_7 : decode cX10_courtDayOfCount 7 = .ok (.iconst 5, 1) := by decide +kernel
theorem dX10_courtDayOfCount_8 : decode cX10_courtDayOfCount 8 = .ok (.if_icmp .le 62, 3) := by decide +kernel
theorem dX10_courtDayOfCount_11 : decode cX10_courtDayOfCount 11 = .ok (.iload_n 3, 1) := by decide +kernel
theorem dX10_courtDayOfCount_12 : decode cX10_courtDayOfCount 12 = .ok (.bipush 7, 2) := by decide +kernel
theorem dX10_courtDayOfCount_14 : decode cX10_courtDayOfCount 14 = .ok (.iadd, 1) := by decide +kernel
theorem dX10_courtDayOfCount_15 : decode cX10_courtDayOfCount 15 = .ok (.sipush 4999, 3) := by decide +kernel
theorem dX10_courtDayOfCount_18 : decode cX10_courtDayOfCount 18 = .ok (.if_icmp .gt 52, 3) := by decide +kernel
theorem dX10_courtDayOfCount_21 : decode cX10_courtDayOfCount 21 = .ok (.bipush 7, 2) := by decide +kernel
theorem dX10_courtDayOfCount_23 : decode cX10_courtDayOfCount 23 = .ok (.iload 4, 2) := by decide +kernel
theorem dX10_courtDayOfCount_25 : decode cX10_courtDayOfCount 25 = .ok (.iconst 1, 1) := by decide +kernel
theorem dX10_courtDayOfCount_26 : decode cX10_courtDayOfCount 26 = .ok (.isub, 1) := by decide +kernel
theorem dX10_courtDayOfCount_27 : decode cX10_courtDayOfCount 27 = .ok (.iconst 5, 1) := by decide +kernel
theorem dX10_courtDayOfCount_28 : decode cX10_courtDayOfCount 28 = .ok (.idiv, 1) := by decide +kernel
theorem dX10_courtDayOfCount_29 : decode cX10_courtDayOfCount 29 = .ok (.sipush 4999, 3) := by decide +kernel
theorem dX10_courtDayOfCount_32 : decode cX10_courtDayOfCount 32 = .ok (.iload_n 3, 1) := by decide +kernel
theorem dX10_courtDayOfCount_33 : decode cX10_courtDayOfCount 33 = .ok (.isub, 1) := by decide +kernel
theorem dX10_courtDayOfCount_34 : decode cX10_courtDayOfCount 34 = .ok (.bipush 7, 2) := by decide +kernel
theorem dX10_courtDayOfCount_36 : decode cX10_courtDayOfCount 36 = .ok (.idiv, 1) := by decide +kernel
theorem dX10_courtDayOfCount_37 : decode cX10_courtDayOfCount 37 = .ok (.invokestatic 67, 3) := by decide +kernel
theorem dX10_courtDayOfCount_40 : decode cX10_courtDayOfCount 40 = .ok (.imul, 1) := by decide +kernel
theorem dX10_courtDayOfCount_41 : decode cX10_courtDayOfCount 41 = .ok (.istore 5, 2) := by decide +kernel
theorem dX10_courtDayOfCount_43 : decode cX10_courtDayOfCount 43 = .ok (.iload 4, 2) := by decide +kernel
theorem dX10_courtDayOfCount_45 : decode cX10_courtDayOfCount 45 = .ok (.aload_n 0, 1) := by decide +kernel
theorem dX10_courtDayOfCount_46 : decode cX10_courtDayOfCount 46 = .ok (.getfield 18, 3) := by decide +kernel
theorem dX10_courtDayOfCount_49 : decode cX10_courtDayOfCount 49 = .ok (.iload_n 3, 1) := by decide +kernel
theorem dX10_courtDayOfCount_50 : decode cX10_courtDayOfCount 50 = .ok (.iload_n 3, 1) := by decide +kernel
theorem dX10_courtDayOfCount_51 : decode cX10_courtDayOfCount 51 = .ok (.iload 5, 2) := by decide +kernel
theorem dX10_courtDayOfCount_53 : decode cX10_courtDayOfCount 53 = .ok (.iadd, 1) := by decide +kernel
theorem dX10_courtDayOfCount_54 : decode cX10_courtDayOfCount 54 = .ok (.iconst 1, 1) := by decide +kernel
theorem dX10_courtDayOfCount_55 : decode cX10_courtDayOfCount 55 = .ok (.isub, 1) := by decide +kernel
theorem dX10_courtDayOfCount_56 : decode cX10_courtDayOfCount 56 = .ok (.invokevirtual 106, 3) := by decide +kernel
theorem dX10_courtDayOfCount_59 : decode cX10_courtDayOfCount 59 = .ok (.isub, 1) := by decide +kernel
theorem dX10_courtDayOfCount_60 : decode cX10_courtDayOfCount 60 = .ok (.istore 4, 2) := by decide +kernel
theorem dX10_courtDayOfCount_62 : decode cX10_courtDayOfCount 62 = .ok (.iload_n 3, 1) := by decide +kernel
theorem dX10_courtDayOfCount_63 : decode cX10_courtDayOfCount 63 = .ok (.iload 5, 2) := by decide +kernel
theorem dX10_courtDayOfCount_65 : decode cX10_courtDayOfCount 65 = .ok (.iadd, 1) := by decide +kernel
theorem dX10_courtDayOfCount_66 : decode cX10_courtDayOfCount 66 = .ok (.istore_n 3, 1) := by decide +kernel
theorem dX10_courtDayOfCount_67 : decode cX10_courtDayOfCount 67 = .ok (.goto (-62), 3) := by decide +kernel
theorem dX10_courtDayOfCount_70 : decode cX10_courtDayOfCount 70 = .ok (.iload_n 3, 1) := by decide +kernel
theorem dX10_courtDayOfCount_71 : decode cX10_courtDayOfCount 71 = .ok (.sipush 4999, 3) := by decide +kernel
theorem dX10_courtDayOfCount_74 : decode cX10_courtDayOfCount 74 = .ok (.if_icmp .gt 37, 3) := by decide +kernel
theorem dX10_courtDayOfCount_77 : decode cX10_courtDayOfCount 77 = .ok (.iload 4, 2) := by decide +kernel
theorem dX10_courtDayOfCount_79 : decode cX10_courtDayOfCount 79 = .ok (.aload_n 0, 1) := by decide +kernel
theorem dX10_courtDayOfCount_80 : decode cX10_courtDayOfCount 80 = .ok (.getfield 18, 3) := by decide +kernel
theorem dX10_courtDayOfCount_83 : decode cX10_courtDayOfCount 83 = .ok (.iload_n 3, 1) := by decide +kernel
theorem dX10_courtDayOfCount_84 : decode cX10_courtDayOfCount 84 = .ok (.invokevirtual 111, 3) := by decide +kernel
theorem dX10_courtDayOfCount_87 : decode cX10_courtDayOfCount 87 = .ok (.ifCond .eq 7, 3) := by decide +kernel
theorem dX10_courtDayOfCount_90 : decode cX10_courtDayOfCount 90 = .ok (.iconst 1, 1) := by decide +kernel
theorem dX10_courtDayOfCount_91 : decode cX10_courtDayOfCount 91 = .ok (.goto 4, 3) := by decide +kernel
theorem dX10_courtDayOfCount_94 : decode cX10_courtDayOfCount 94 = .ok (.iconst 0, 1) := by decide +kernel
theorem dX10_courtDayOfCount_95 : decode cX10_courtDayOfCount 95 = .ok (.isub, 1) := by decide +kernel
theorem dX10_courtDayOfCount_96 : decode cX10_courtDayOfCount 96 = .ok (.istore 4, 2) := by decide +kernel
theorem dX10_courtDayOfCount_98 : decode cX10_courtDayOfCount 98 = .ok (.iload 4, 2) := by decide +kernel
theorem dX10_courtDayOfCount_100 : decode cX10_courtDayOfCount 100 = .ok (.ifCond .ne 5, 3) := by decide +kernel
theorem dX10_courtDayOfCount_103 : decode cX10_courtDayOfCount 103 = .ok (.iload_n 3, 1) := by decide +kernel
theorem dX10_courtDayOfCount_104 : decode cX10_courtDayOfCount 104 = .ok (.ireturn, 1) := by decide +kernel
theorem dX10_courtDayOfCount_105 : decode cX10_courtDayOfCount 105 = .ok (.iinc 3 1, 3) := by decide +kernel
theorem dX10_courtDayOfCount_108 : decode cX10_courtDayOfCount 108 = .ok (.goto (-38), 3) := by decide +kernel
theorem dX10_courtDayOfCount_111 : decode cX10_courtDayOfCount 111 = .ok (.sipush 5000, 3) := by decide +kernel
theorem dX10_courtDayOfCount_114 : decode cX10_courtDayOfCount 114 = .ok (.ireturn, 1) := by decide +kernel
theorem dX10_moveEnd_0 : decode cX10_moveEnd 0 = .ok (.aload_n 0, 1) := by decide +kernel
theorem dX10_moveEnd_1 : decode cX10_moveEnd 1 = .ok (.iload_n 1, 1) := by decide +kernel
theorem dX10_moveEnd_2 : decode cX10_moveEnd 2 = .ok (.invokevirtual 115, 3) := by decide +kernel
theorem dX10_moveEnd_5 : decode cX10_moveEnd 5 = .ok (.istore_n 2, 1) := by decide +kernel
theorem dX10_moveEnd_6 : decode cX10_moveEnd 6 = .ok (.iconst 0, 1) := by decide +kernel
theorem dX10_moveEnd_7 : decode cX10_moveEnd 7 = .ok (.istore_n 3, 1) := by decide +kernel
theorem dX10_moveEnd_8 : decode cX10_moveEnd 8 = .ok (.iload_n 3, 1) := by decide +kernel
theorem dX10_moveEnd_9 : decode cX10_moveEnd 9 = .ok (.sipush 4999, 3) := by decide +kernel
theorem dX10_moveEnd_12 : decode cX10_moveEnd 12 = .ok (.if_icmp .gt 35, 3) := by decide +kernel
theorem dX10_moveEnd_15 : decode cX10_moveEnd 15 = .ok (.iload_n 2, 1) := by decide +kernel
theorem dX10_moveEnd_16 : decode cX10_moveEnd 16 = .ok (.sipush 4999, 3) := by decide +kernel
theorem dX10_moveEnd_19 : decode cX10_moveEnd 19 = .ok (.if_icmp .gt 28, 3) := by decide +kernel
theorem dX10_moveEnd_22 : decode cX10_moveEnd 22 = .ok (.aload_n 0, 1) := by decide +kernel
theorem dX10_moveEnd_23 : decode cX10_moveEnd 23 = .ok (.getfield 18, 3) := by decide +kernel
theorem dX10_moveEnd_26 : decode cX10_moveEnd 26 = .ok (.iload_n 2, 1) := by decide +kernel
theorem dX10_moveEnd_27 : decode cX10_moveEnd 27 = .ok (.invokevirtual 111, 3) := by decide +kernel
theorem dX10_moveEnd_30 : decode cX10_moveEnd 30 = .ok (.ifCond .ne 17, 3) := by decide +kernel
theorem dX10_moveEnd_33 : decode cX10_moveEnd 33 = .ok (.aload_n 0, 1) := by decide +kernel
theorem dX10_moveEnd_34 : decode cX10_moveEnd 34 = .ok (.iload_n 2, 1) := by decide +kernel
theorem dX10_moveEnd_35 : decode cX10_moveEnd 35 = .ok (.iconst 1, 1) := by decide +kernel
theorem dX10_moveEnd_36 : decode cX10_moveEnd 36 = .ok (.iadd, 1) := by decide +kernel
theorem dX10_moveEnd_37 : decode cX10_moveEnd 37 = .ok (.invokevirtual 115, 3) := by decide +kernel
theorem dX10_moveEnd_40 : decode cX10_moveEnd 40 = .ok (.istore_n 2, 1) := by decide +kernel
theorem dX10_moveEnd_41 : decode cX10_moveEnd 41 = .ok (.iinc 3 1, 3) := by decide +kernel
theorem dX10_moveEnd_44 : decode cX10_moveEnd 44 = .ok (.goto (-36), 3) := by decide +kernel
theorem dX10_moveEnd_47 : decode cX10_moveEnd 47 = .ok (.iload_n 2, 1) := by decide +kernel
theorem dX10_moveEnd_48 : decode cX10_moveEnd 48 = .ok (.ireturn, 1) := by decide +kernel
theorem dX10_skipRange_0 : decode cX10_skipRange 0 = .ok (.iconst 0, 1) := by decide +kernel
theorem dX10_skipRange_1 : decode cX10_skipRange 1 = .ok (.istore_n 2, 1) := by decide +kernel
theorem dX10_skipRange_2 : decode cX10_skipRange 2 = .ok (.iload_n 2, 1) := by decide +kernel
theorem dX10_skipRange_3 : decode cX10_skipRange 3 = .ok (.aload_n 0, 1) := by decide +kernel
theorem dX10_skipRange_4 : decode cX10_skipRange 4 = .ok (.getfield 26, 3) := by decide +kernel
theorem dX10_skipRange_7 : decode cX10_skipRange 7 = .ok (.if_icmp .ge 38, 3) := by decide +kernel
theorem dX10_skipRange_10 : decode cX10_skipRange 10 = .ok (.iload_n 1, 1) := by decide +kernel
theorem dX10_skipRange_11 : decode cX10_skipRange 11 = .ok (.aload_n 0, 1) := by decide +kernel
theorem dX10_skipRange_12 : decode cX10_skipRange 12 = .ok (.getfield 9, 3) := by decide +kernel
theorem dX10_skipRange_15 : decode cX10_skipRange 15 = .ok (.iload_n 2, 1) := by decide +kernel
theorem dX10_skipRange_16 : decode cX10_skipRange 16 = .ok (.iaload, 1) := by decide +kernel
theorem dX10_skipRange_17 : decode cX10_skipRange 17 = .ok (.if_icmp .lt 22, 3) := by decide +kernel
theorem dX10_skipRange_20 : decode cX10_skipRange 20 = .ok (.iload_n 1, 1) := by decide +kernel
theorem dX10_skipRange_21 : decode cX10_skipRange 21 = .ok (.aload_n 0, 1) := by decide +kernel
theorem dX10_skipRange_22 : decode cX10_skipRange 22 = .ok (.getfield 15, 3) := by decide +kernel
theorem dX10_skipRange_25 : decode cX10_skipRange 25 = .ok (.iload_n 2, 1) := by decide +kernel
theorem dX10_skipRange_26 : decode cX10_skipRange 26 = .ok (.iaload, 1) := by decide +kernel
theorem dX10_skipRange_27 : decode cX10_skipRange 27 = .ok (.if_icmp .gt 12, 3) := by decide +kernel
theorem dX10_skipRange_30 : decode cX10_skipRange 30 = .ok (.aload_n 0, 1) := by decide +kernel
theorem dX10_skipRange_31 : decode cX10_skipRange 31 = .ok (.getfield 15, 3) := by decide +kernel
theorem dX10_skipRange_34 : decode cX10_skipRange 34 = .ok (.iload_n 2, 1) := by decide +kernel
theorem dX10_skipRange_35 : decode cX10_skipRange 35 = .ok (.iaload, 1) := by decide +kernel
theorem dX10_skipRange_36 : decode cX10_skipRange 36 = .ok (.iconst 1, 1) := by decide +kernel
theorem dX10_skipRange_37 : decode cX10_skipRange 37 = .ok (.iadd, 1) := by decide +kernel
theorem dX10_skipRange_38 : decode cX10_skipRange 38 = .ok (.ireturn, 1) := by decide +kernel
theorem dX10_skipRange_39 : decode cX10_skipRange 39 = .ok (.iinc 2 1, 3) := by decide +kernel
theorem dX10_skipRange_42 : decode cX10_skipRange 42 = .ok (.goto (-40), 3) := by decide +kernel
theorem dX10_skipRange_45 : decode cX10_skipRange 45 = .ok (.iload_n 1, 1) := by decide +kernel
theorem dX10_skipRange_46 : decode cX10_skipRange 46 = .ok (.ireturn, 1) := by decide +kernel
theorem dX10_countBack_0 : decode cX10_countBack 0 = .ok (.iload_n 3, 1) := by decide +kernel
theorem dX10_countBack_1 : decode cX10_countBack 1 = .ok (.ifCond .eq 14, 3) := by decide +kernel
theorem dX10_countBack_4 : decode cX10_countBack 4 = .ok (.aload_n 0, 1) := by decide +kernel
theorem dX10_countBack_5 : decode cX10_countBack 5 = .ok (.iload_n 1, 1) := by decide +kernel
theorem dX10_countBack_6 : decode cX10_countBack 6 = .ok (.iconst 1, 1) := by decide +kernel
theorem dX10_countBack_7 : decode cX10_countBack 7 = .ok (.isub, 1) := by decide +kernel
theorem dX10_countBack_8 : decode cX10_countBack 8 = .ok (.iload_n 2, 1) := by decide +kernel
theorem dX10_countBack_9 : decode cX10_countBack 9 = .ok (.invokevirtual 118, 3) := by decide +kernel
theorem dX10_countBack_12 : decode cX10_countBack 12 = .ok (.goto 6, 3) := by decide +kernel
theorem dX10_countBack_15 : decode cX10_countBack 15 = .ok (.iload_n 1, 1) := by decide +kernel
theorem dX10_countBack_16 : decode cX10_countBack 16 = .ok (.iload_n 2, 1) := by decide +kernel
theorem dX10_countBack_17 : decode cX10_countBack 17 = .ok (.isub, 1) := by decide +kernel
theorem dX10_countBack_18 : decode cX10_countBack 18 = .ok (.istore 4, 2) := by decide +kernel
theorem dX10_countBack_20 : decode cX10_countBack 20 = .ok (.iload 4, 2) := by decide +kernel
theorem dX10_countBack_22 : decode cX10_countBack 22 = .ok (.ifCond .lt 21, 3) := by decide +kernel
theorem dX10_countBack_25 : decode cX10_countBack 25 = .ok (.aload_n 0, 1) := by decide +kernel
theorem dX10_countBack_26 : decode cX10_countBack 26 = .ok (.getfield 18, 3) := by decide +kernel
theorem dX10_countBack_29 : decode cX10_countBack 29 = .ok (.iload 4, 2) := by decide +kernel
theorem dX10_countBack_31 : decode cX10_countBack 31 = .ok (.invokevirtual 111, 3) := by decide +kernel
theorem dX10_countBack_34 : decode cX10_countBack 34 = .ok (.ifCond .ne 9, 3) := by decide +kernel
theorem dX10_countBack_37 : decode cX10_countBack 37 = .ok (.iinc 4 (-1), 3) := by decide +kernel
theorem dX10_countBack_40 : decode cX10_countBack 40 = .ok (.goto (-20), 3) := by decide +kernel
theorem dX10_countBack_43 : decode cX10_countBack 43 = .ok (.iload 4, 2) := by decide +kernel
theorem dX10_countBack_45 : decode cX10_countBack 45 = .ok (.ireturn, 1) := by decide +kernel
theorem dX10_dayOfCountBack_0 : decode cX10_dayOfCountBack 0 = .ok (.iload_n 1, 1) := by decide +kernel
theorem dX10_dayOfCountBack_1 : decode cX10_dayOfCountBack 1 = .ok (.istore_n 3, 1) := by decide +kernel
theorem dX10_dayOfCountBack_2 : decode cX10_dayOfCountBack 2 = .ok (.iload_n 2, 1) := by decide +kernel
theorem dX10_dayOfCountBack_3 : decode cX10_dayOfCountBack 3 = .ok (.istore 4, 2) := by decide +kernel
theorem dX10_dayOfCountBack_5 : decode cX10_dayOfCountBack 5 = .ok (.iload 4, 2) := by decide +kernel
theorem dX10_dayOfCountBack_7 : decode cX10_dayOfCountBack 7 = .ok (.iconst 5, 1) := by decide +kernel
theorem dX10_dayOfCountBack_8 : decode cX10_dayOfCountBack 8 = .ok (.if_icmp .le 54, 3) := by decide +kernel
theorem dX10_dayOfCountBack_11 : decode cX10_dayOfCountBack 11 = .ok (.iload_n 3, 1) := by decide +kernel
theorem dX10_dayOfCountBack_12 : decode cX10_dayOfCountBack 12 = .ok (.bipush 7, 2) := by decide +kernel
theorem dX10_dayOfCountBack_14 : decode cX10_dayOfCountBack 14 = .ok (.if_icmp .lt 48, 3) := by decide +kernel
theorem dX10_dayOfCountBack_17 : decode cX10_dayOfCountBack 17 = .ok (.bipush 7, 2) := by decide +kernel
theorem dX10_dayOfCountBack_19 : decode cX10_dayOfCountBack 19 = .ok (.iload 4, 2) := by decide +kernel
theorem dX10_dayOfCountBack_21 : decode cX10_dayOfCountBack 21 = .ok (.iconst 1, 1) := by decide +kernel
theorem dX10_dayOfCountBack_22 : decode cX10_dayOfCountBack 22 = .ok (.isub, 1) := by decide +kernel
theorem dX10_dayOfCountBack_23 : decode cX10_dayOfCountBack 23 = .ok (.iconst 5, 1) := by decide +kernel
theorem dX10_dayOfCountBack_24 : decode cX10_dayOfCountBack 24 = .ok (.idiv, 1) := by decide +kernel
theorem dX10_dayOfCountBack_25 : decode cX10_dayOfCountBack 25 = .ok (.iload_n 3, 1) := by decide +kernel
theorem dX10_dayOfCountBack_26 : decode cX10_dayOfCountBack 26 = .ok (.bipush 7, 2) := by decide +kernel
theorem dX10_dayOfCountBack_28 : decode cX10_dayOfCountBack 28 = .ok (.idiv, 1) := by decide +kernel
theorem dX10_dayOfCountBack_29 : decode cX10_dayOfCountBack 29 = .ok (.invokestatic 67, 3) := by decide +kernel
theorem dX10_dayOfCountBack_32 : decode cX10_dayOfCountBack 32 = .ok (.imul, 1) := by decide +kernel
theorem dX10_dayOfCountBack_33 : decode cX10_dayOfCountBack 33 = .ok (.istore 5, 2) := by decide +kernel
theorem dX10_dayOfCountBack_35 : decode cX10_dayOfCountBack 35 = .ok (.iload 4, 2) := by decide +kernel
theorem dX10_dayOfCountBack_37 : decode cX10_dayOfCountBack 37 = .ok (.aload_n 0, 1) := by decide +kernel
theorem dX10_dayOfCountBack_38 : decode cX10_dayOfCountBack 38 = .ok (.getfield 18, 3) := by decide +kernel
theorem dX10_dayOfCountBack_41 : decode cX10_dayOfCountBack 41 = .ok (.iload_n 3, 1) := by decide +kernel
theorem dX10_dayOfCountBack_42 : decode cX10_dayOfCountBack 42 = .ok (.iload 5, 2) := by decide +kernel
theorem dX10_dayOfCountBack_44 : decode cX10_dayOfCountBack 44 = .ok (.isub, 1) := by decide +kernel
theorem dX10_dayOfCountBack_45 : decode cX10_dayOfCountBack 45 = .ok (.iconst 1, 1) := by decide +kernel
theorem dX10_dayOfCountBack_46 : decode cX10_dayOfCountBack 46 = .ok (.iadd, 1) := by decide +kernel
theorem dX10_dayOfCountBack_47 : decode cX10_dayOfCountBack 47 = .ok (.iload_n 3, 1) := by decide +kernel
theorem dX10_dayOfCountBack_48 : decode cX10_dayOfCountBack 48 = .ok (.invokevirtual 106, 3) := by decide +kernel
theorem dX10_dayOfCountBack_51 : decode cX10_dayOfCountBack 51 = .ok (.isub, 1) := by decide +kernel
theorem dX10_dayOfCountBack_52 : decode cX10_dayOfCountBack 52 = .ok (.istore 4, 2) := by decide +kernel
theorem dX10_dayOfCountBack_54 : decode cX10_dayOfCountBack 54 = .ok (.iload_n 3, 1) := by decide +kernel
theorem dX10_dayOfCountBack_55 : decode cX10_dayOfCountBack 55 = .ok (.iload 5, 2) := by decide +kernel
theorem dX10_dayOfCountBack_57 : decode cX10_dayOfCountBack 57 = .ok (.isub, 1) := by decide +kernel
theorem dX10_dayOfCountBack_58 : decode cX10_dayOfCountBack 58 = .ok (.istore_n 3, 1) := by decide +kernel
theorem dX10_dayOfCountBack_59 : decode cX10_dayOfCountBack 59 = .ok (.goto (-54), 3) := by decide +kernel
theorem dX10_dayOfCountBack_62 : decode cX10_dayOfCountBack 62 = .ok (.iload_n 3, 1) := by decide +kernel
theorem dX10_dayOfCountBack_63 : decode cX10_dayOfCountBack 63 = .ok (.ifCond .lt 37, 3) := by decide +kernel
theorem dX10_dayOfCountBack_66 : decode cX10_dayOfCountBack 66 = .ok (.iload 4, 2) := by decide +kernel
theorem dX10_dayOfCountBack_68 : decode cX10_dayOfCountBack 68 = .ok (.aload_n 0, 1) := by decide +kernel
theorem dX10_dayOfCountBack_69 : decode cX10_dayOfCountBack 69 = .ok (.getfield 18, 3) := by decide +kernel
theorem dX10_dayOfCountBack_72 : decode cX10_dayOfCountBack 72 = .ok (.iload_n 3, 1) := by decide +kernel
theorem dX10_dayOfCountBack_73 : decode cX10_dayOfCountBack 73 = .ok (.invokevirtual 111, 3) := by decide +kernel
theorem dX10_dayOfCountBack_76 : decode cX10_dayOfCountBack 76 = .ok (.ifCond .eq 7, 3) := by decide +kernel
theorem dX10_dayOfCountBack_79 : decode cX10_dayOfCountBack 79 = .ok (.iconst 1, 1) := by decide +kernel
theorem dX10_dayOfCountBack_80 : decode cX10_dayOfCountBack 80 = .ok (.goto 4, 3) := by decide +kernel
theorem dX10_dayOfCountBack_83 : decode cX10_dayOfCountBack 83 = .ok (.iconst 0, 1) := by decide +kernel
theorem dX10_dayOfCountBack_84 : decode cX10_dayOfCountBack 84 = .ok (.isub, 1) := by decide +kernel
theorem dX10_dayOfCountBack_85 : decode cX10_dayOfCountBack 85 = .ok (.istore 4, 2) := by decide +kernel
theorem dX10_dayOfCountBack_87 : decode cX10_dayOfCountBack 87 = .ok (.iload 4, 2) := by decide +kernel
theorem dX10_dayOfCountBack_89 : decode cX10_dayOfCountBack 89 = .ok (.ifCond .ne 5, 3) := by decide +kernel
theorem dX10_dayOfCountBack_92 : decode cX10_dayOfCountBack 92 = .ok (.iload_n 3, 1) := by decide +kernel
theorem dX10_dayOfCountBack_93 : decode cX10_dayOfCountBack 93 = .ok (.ireturn, 1) := by decide +kernel
theorem dX10_dayOfCountBack_94 : decode cX10_dayOfCountBack 94 = .ok (.iinc 3 (-1), 3) := by decide +kernel
theorem dX10_dayOfCountBack_97 : decode cX10_dayOfCountBack 97 = .ok (.goto (-35), 3) := by decide +kernel
theorem dX10_dayOfCountBack_100 : decode cX10_dayOfCountBack 100 = .ok (.iconst (-1), 1) := by decide +kernel
theorem dX10_dayOfCountBack_101 : decode cX10_dayOfCountBack 101 = .ok (.ireturn, 1) := by decide +kernel
theorem dX11_init_0 : decode cX11_init 0 = .ok (.aload_n 0, 1) := by decide +kernel
theorem dX11_init_1 : decode cX11_init 1 = .ok (.invokespecial 3, 3) := by decide +kernel
theorem dX11_init_4 : decode cX11_init 4 = .ok (.aload_n 0, 1) := by decide +kernel
theorem dX11_init_5 : decode cX11_init 5 = .ok (.new 9, 3) := by decide +kernel
theorem dX11_init_8 : decode cX11_init 8 = .ok (.dup, 1) := by decide +kernel
theorem dX11_init_9 : decode cX11_init 9 = .ok (.invokespecial 11, 3) := by decide +kernel
theorem dX11_init_12 : decode cX11_init 12 = .ok (.putfield 12, 3) := by decide +kernel
theorem dX11_init_15 : decode cX11_init 15 = .ok (.aload_n 0, 1) := by decide +kernel
theorem dX11_init_16 : decode cX11_init 16 = .ok (.new 9, 3) := by decide +kernel
theorem dX11_init_19 : decode cX11_init 19 = .ok (.dup, 1) := by decide +kernel
theorem dX11_init_20 : decode cX11_init 20 = .ok (.invokespecial 11, 3) := by decide +kernel
theorem dX11_init_23 : decode cX11_init 23 = .ok (.putfield 16, 3) := by decide +kernel
theorem dX11_init_26 : decode cX11_init 26 = .ok (.aload_n 0, 1) := by decide +kernel
theorem dX11_init_27 : decode cX11_init 27 = .ok (.bipush 8, 2) := by decide +kernel
theorem dX11_init_29 : decode cX11_init 29 = .ok (.newarray .int, 2) := by decide +kernel
theorem dX11_init_31 : decode cX11_init 31 = .ok (.putfield 19, 3) := by decide +kernel
theorem dX11_init_34 : decode cX11_init 34 = .ok (.aload_n 0, 1) := by decide +kernel
theorem dX11_init_35 : decode cX11_init 35 = .ok (.new 23, 3) := by decide +kernel
theorem dX11_init_38 : decode cX11_init 38 = .ok (.dup, 1) := by decide +kernel
theorem dX11_init_39 : decode cX11_init 39 = .ok (.invokespecial 25, 3) := by decide +kernel
theorem dX11_init_42 : decode cX11_init 42 = .ok (.putfield 26, 3) := by decide +kernel
theorem dX11_init_45 : decode cX11_init 45 = .ok (.aload_n 0, 1) := by decide +kernel
theorem dX11_init_46 : decode cX11_init 46 = .ok (.bipush 9, 2) := by decide +kernel
theorem dX11_init_48 : decode cX11_init 48 = .ok (.anewarray 23, 3) := by decide +kernel
theorem dX11_init_51 : decode cX11_init 51 = .ok (.putfield 30, 3) := by decide +kernel
theorem dX11_init_54 : decode cX11_init 54 = .ok (.aload_n 0, 1) := by decide +kernel
theorem dX11_init_55 : decode cX11_init 55 = .ok (.new 34, 3) := by decide +kernel
theorem dX11_init_58 : decode cX11_init 58 = .ok (.dup, 1) := by decide +kernel
theorem dX11_init_59 : decode cX11_init 59 = .ok (.aload_n 0, 1) := by decide +kernel
theorem dX11_init_60 : decode cX11_init 60 = .ok (.getfield 26, 3) := by decide +kernel
theorem dX11_init_63 : decode cX11_init 63 = .ok (.getfield 36, 3) := by decide +kernel
theorem dX11_init_66 : decode cX11_init 66 = .ok (.aload_n 0, 1) := by decide +kernel
theorem dX11_init_67 : decode cX11_init 67 = .ok (.getfield 26, 3) := by decide +kernel
theorem dX11_init_70 : decode cX11_init 70 = .ok (.getfield 40, 3) := by decide +kernel
theorem dX11_init_73 : decode cX11_init 73 = .ok (.invokespecial 44, 3) := by decide +kernel
theorem dX11_init_76 : decode cX11_init 76 = .ok (.putfield 47, 3) := by decide +kernel
theorem dX11_init_79 : decode cX11_init 79 = .ok (.aload_n 0, 1) := by decide +kernel
theorem dX11_init_80 : decode cX11_init 80 = .ok (.new 51, 3) := by decide +kernel
theorem dX11_init_83 : decode cX11_init 83 = .ok (.dup, 1) := by decide +kernel
theorem dX11_init_84 : decode cX11_init 84 = .ok (.aload_n 0, 1) := by decide +kernel
theorem dX11_init_85 : decode cX11_init 85 = .ok (.getfield 26, 3) := by decide +kernel
theorem dX11_init_88 : decode cX11_init 88 = .ok (.getfield 36, 3) := by decide +kernel
theorem dX11_init_91 : decode cX11_init 91 = .ok (.aload_n 0, 1) := by decide +kernel
theorem dX11_init_92 : decode cX11_init 92 = .ok (.getfield 26, 3) := by decide +kernel
theorem dX11_init_95 : decode cX11_init 95 = .ok (.getfield 40, 3) := by decide +kernel
theorem dX11_init_98 : decode cX11_init 98 = .ok (.invokespecial 53, 3) := by decide +kernel
theorem dX11_init_101 : decode cX11_init 101 = .ok (.putfield 54, 3) := by decide +kernel
theorem dX11_init_104 : decode cX11_init 104 = .ok (.aload_n 0, 1) := by decide +kernel
theorem dX11_init_105 : decode cX11_init 105 = .ok (.bipush 30, 2) := by decide +kernel
theorem dX11_init_107 : decode cX11_init 107 = .ok (.newarray .int, 2) := by decide +kernel
theorem dX11_init_109 : decode cX11_init 109 = .ok (.putfield 58, 3) := by decide +kernel
theorem dX11_init_112 : decode cX11_init 112 = .ok (.aload_n 0, 1) := by decide +kernel
theorem dX11_init_113 : decode cX11_init 113 = .ok (.new 61, 3) := by decide +kernel
theorem dX11_init_116 : decode cX11_init 116 = .ok (.dup, 1) := by decide +kernel
theorem dX11_init_117 : decode cX11_init 117 = .ok (.invokespecial 63, 3) := by decide +kernel
theorem dX11_init_120 : decode cX11_init 120 = .ok (.putfield 64, 3) := by decide +kernel
theorem dX11_init_123 : decode cX11_init 123 = .ok (.aload_n 0, 1) := by decide +kernel
theorem dX11_init_124 : decode cX11_init 124 = .ok (.iconst (-1), 1) := by decide +kernel
theorem dX11_init_125 : decode cX11_init 125 = .ok (.putfield 68, 3) := by decide +kernel
theorem dX11_init_128 : decode cX11_init 128 = .ok (.aload_n 0, 1) := by decide +kernel
theorem dX11_init_129 : decode cX11_init 129 = .ok (.iconst (-1), 1) := by decide +kernel
theorem dX11_init_130 : decode cX11_init 130 = .ok (.putfield 72, 3) := by decide +kernel
theorem dX11_init_133 : decode cX11_init 133 = .ok (.return_, 1) := by decide +kernel
theorem dX11_type_0 : decode cX11_type 0 = .ok (.aload_n 0, 1) := by decide +kernel
theorem dX11_type_1 : decode cX11_type 1 = .ok (.getfield 12, 3) := by decide +kernel
theorem dX11_type_4 : decode cX11_type 4 = .ok (.getfield 75, 3) := by decide +kernel
theorem dX11_type_7 : decode cX11_type 7 = .ok (.bipush 60, 2) := by decide +kernel
theorem dX11_type_9 : decode cX11_type 9 = .ok (.if_icmp .lt 13, 3) := by decide +kernel
theorem dX11_type_12 : decode cX11_type 12 = .ok (.new 78, 3) := by decide +kernel
theorem dX11_type_15 : decode cX11_type 15 = .ok (.dup, 1) := by decide +kernel
theorem dX11_type_16 : decode cX11_type 16 = .ok (.ldc 80, 2) := by decide +kernel
theorem dX11_type_18 : decode cX11_type 18 = .ok (.invokespecial 82, 3) := by decide +kernel
theorem dX11_type_21 : decode cX11_type 21 = .ok (.athrow, 1) := by decide +kernel
theorem dX11_type_22 : decode cX11_type 22 = .ok (.aload_n 0, 1) := by decide +kernel
theorem dX11_type_23 : decode cX11_type 23 = .ok (.getfield 12, 3) := by decide +kernel
theorem dX11_type_26 : decode cX11_type 26 = .ok (.iload_n 1, 1) := by decide +kernel
theorem dX11_type_27 : decode cX11_type 27 = .ok (.invokevirtual 85, 3) := by decide +kernel
theorem dX11_type_30 : decode cX11_type 30 = .ok (.aload_n 0, 1) := by decide +kernel
theorem dX11_type_31 : decode cX11_type 31 = .ok (.getfield 12, 3) := by decide +kernel
theorem dX11_type_34 : decode cX11_type 34 = .ok (.getfield 75, 3) := by decide +kernel
theorem dX11_type_37 : decode cX11_type 37 = .ok (.ireturn, 1) := by decide +kernel
theorem dX11_addParty_0 : decode cX11_addParty 0 = .ok (.aload_n 0, 1) := by decide +kernel
theorem dX11_addParty_1 : decode cX11_addParty 1 = .ok (.invokevirtual 89, 3) := by decide +kernel
theorem dX11_addParty_4 : decode cX11_addParty 4 = .ok (.aload_n 0, 1) := by decide +kernel
theorem dX11_addParty_5 : decode cX11_addParty 5 = .ok (.aload_n 0, 1) := by decide +kernel
theorem dX11_addParty_6 : decode cX11_addParty 6 = .ok (.invokevirtual 92, 3) := by decide +kernel
theorem dX11_addParty_9 : decode cX11_addParty 9 = .ok (.invokevirtual 96, 3) := by decide +kernel
theorem dX11_addParty_12 : decode cX11_addParty 12 = .ok (.ireturn, 1) := by decide +kernel
theorem dX11_tryAddParty_0 : decode cX11_tryAddParty 0 = .ok (.aload_n 0, 1) := by decide +kernel
theorem dX11_tryAddParty_1 : decode cX11_tryAddParty 1 = .ok (.getfield 12, 3) := by decide +kernel
theorem dX11_tryAddParty_4 : decode cX11_tryAddParty 4 = .ok (.aload_n 0, 1) := by decide +kernel
theorem dX11_tryAddParty_5 : decode cX11_tryAddParty 5 = .ok (.getfield 19, 3) := by decide +kernel
theorem dX11_tryAddParty_8 : decode cX11_tryAddParty 8 = .ok (.invokevirtual 100, 3) := by decide +kernel
theorem dX11_tryAddParty_11 : decode cX11_tryAddParty 11 = .ok (.istore_n 1, 1) := by decide +kernel
theorem dX11_tryAddParty_12 : decode cX11_tryAddParty 12 = .ok (.aload_n 0, 1) := by decide +kernel
theorem dX11_tryAddParty_13 : decode cX11_tryAddParty 13 = .ok (.getfield 12, 3) := by decide +kernel
theorem dX11_tryAddParty_16 : decode cX11_tryAddParty 16 = .ok (.invokevirtual 104, 3) := by decide +kernel
theorem dX11_tryAddParty_19 : decode cX11_tryAddParty 19 = .ok (.iload_n 1, 1) := by decide +kernel
theorem dX11_tryAddParty_20 : decode cX11_tryAddParty 20 = .ok (.ifCond .ne 6, 3) := by decide +kernel
theorem dX11_tryAddParty_23 : decode cX11_tryAddParty 23 = .ok (.bipush (-2), 2) := by decide +kernel
theorem dX11_tryAddParty_25 : decode cX11_tryAddParty 25 = .ok (.ireturn, 1) := by decide +kernel
theorem dX11_tryAddParty_26 : decode cX11_tryAddParty 26 = .ok (.aload_n 0, 1) := by decide +kernel
theorem dX11_tryAddParty_27 : decode cX11_tryAddParty 27 = .ok (.getfield 26, 3) := by decide +kernel
theorem dX11_tryAddParty_30 : decode cX11_tryAddParty 30 = .ok (.getfield 107, 3) := by decide +kernel
theorem dX11_tryAddParty_33 : decode cX11_tryAddParty 33 = .ok (.getfield 122, 3) := by decide +kernel
theorem dX11_tryAddParty_36 : decode cX11_tryAddParty 36 = .ok (.bipush 8, 2) := by decide +kernel
theorem dX11_tryAddParty_38 : decode cX11_tryAddParty 38 = .ok (.if_icmp .ge 22, 3) := by decide +kernel
theorem dX11_tryAddParty_41 : decode cX11_tryAddParty 41 = .ok (.aload_n 0, 1) := by decide +kernel
theorem dX11_tryAddParty_42 : decode cX11_tryAddParty 42 = .ok (.getfield 26, 3) := by decide +kernel
theorem dX11_tryAddParty_45 : decode cX11_tryAddParty 45 = .ok (.getfield 107, 3) := by decide +kernel
theorem dX11_tryAddParty_48 : decode cX11_tryAddParty 48 = .ok (.aload_n 0, 1) := by decide +kernel
theorem dX11_tryAddParty_49 : decode cX11_tryAddParty 49 = .ok (.getfield 19, 3) := by decide +kernel
theorem dX11_tryAddParty_52 : decode cX11_tryAddParty 52 = .ok (.iload_n 1, 1) := by decide +kernel
theorem dX11_tryAddParty_53 : decode cX11_tryAddParty 53 = .ok (.invokevirtual 111, 3) := by decide +kernel
theorem dX11_tryAddParty_56 : decode cX11_tryAddParty 56 = .ok (.iconst (-1), 1) := by decide +kernel
theorem dX11_tryAddParty_57 : decode cX11_tryAddParty 57 = .ok (.if_icmp .eq 6, 3) := by decide +kernel
theorem dX11_tryAddParty_60 : decode cX11_tryAddParty 60 = .ok (.bipush (-3), 2) := by decide +kernel
theorem dX11_tryAddParty_62 : decode cX11_tryAddParty 62 = .ok (.ireturn, 1) := by decide +kernel
theorem dX11_tryAddParty_63 : decode cX11_tryAddParty 63 = .ok (.aload_n 0, 1) := by decide +kernel
theorem dX11_tryAddParty_64 : decode cX11_tryAddParty 64 = .ok (.getfield 26, 3) := by decide +kernel
theorem dX11_tryAddParty_67 : decode cX11_tryAddParty 67 = .ok (.getfield 107, 3) := by decide +kernel
theorem dX11_tryAddParty_70 : decode cX11_tryAddParty 70 = .ok (.aload_n 0, 1) := by decide +kernel
theorem dX11_tryAddParty_71 : decode cX11_tryAddParty 71 = .ok (.getfield 19, 3) := by decide +kernel
theorem dX11_tryAddParty_74 : decode cX11_tryAddParty 74 = .ok (.iload_n 1, 1) := by decide +kernel
theorem dX11_tryAddParty_75 : decode cX11_tryAddParty 75 = .ok (.invokevirtual 143, 3) := by decide +kernel
theorem dX11_tryAddParty_78 : decode cX11_tryAddParty 78 = .ok (.ireturn, 1) := by decide +kernel
theorem dX11_today_0 : decode cX11_today 0 = .ok (.aload_n 0, 1) := by decide +kernel
theorem dX11_today_1 : decode cX11_today 1 = .ok (.getfield 26, 3) := by decide +kernel
theorem dX11_today_4 : decode cX11_today 4 = .ok (.getfield 36, 3) := by decide +kernel
theorem dX11_today_7 : decode cX11_today 7 = .ok (.getfield 152, 3) := by decide +kernel
theorem dX11_today_10 : decode cX11_today 10 = .ok (.ireturn, 1) := by decide +kernel
theorem dX11_advance_0 : decode cX11_advance 0 = .ok (.aload_n 0, 1) := by decide +kernel
theorem dX11_advance_1 : decode cX11_advance 1 = .ok (.invokevirtual 89, 3) := by decide +kernel
theorem dX11_advance_4 : decode cX11_advance 4 = .ok (.aload_n 0, 1) := by decide +kernel
theorem dX11_advance_5 : decode cX11_advance 5 = .ok (.aload_n 0, 1) := by decide +kernel
theorem dX11_advance_6 : decode cX11_advance 6 = .ok (.iload_n 1, 1) := by decide +kernel
theorem dX11_advance_7 : decode cX11_advance 7 = .ok (.invokevirtual 157, 3) := by decide +kernel
theorem dX11_advance_10 : decode cX11_advance 10 = .ok (.invokevirtual 96, 3) := by decide +kernel
theorem dX11_advance_13 : decode cX11_advance 13 = .ok (.ireturn, 1) := by decide +kernel
theorem dX11_isCourtDay_0 : decode cX11_isCourtDay 0 = .ok (.iload_n 1, 1) := by decide +kernel
theorem dX11_isCourtDay_1 : decode cX11_isCourtDay 1 = .ok (.invokestatic 160, 3) := by decide +kernel
theorem dX11_isCourtDay_4 : decode cX11_isCourtDay 4 = .ok (.aload_n 0, 1) := by decide +kernel
theorem dX11_isCourtDay_5 : decode cX11_isCourtDay 5 = .ok (.getfield 26, 3) := by decide +kernel
theorem dX11_isCourtDay_8 : decode cX11_isCourtDay 8 = .ok (.getfield 36, 3) := by decide +kernel
theorem dX11_isCourtDay_11 : decode cX11_isCourtDay 11 = .ok (.iload_n 1, 1) := by decide +kernel
theorem dX11_isCourtDay_12 : decode cX11_isCourtDay 12 = .ok (.invokevirtual 163, 3) := by decide +kernel
theorem dX11_isCourtDay_15 : decode cX11_isCourtDay 15 = .ok (.ireturn, 1) := by decide +kernel
theorem dX11_addHoliday_0 : decode cX11_addHoliday 0 = .ok (.aload_n 0, 1) := by decide +kernel
theorem dX11_addHoliday_1 : decode cX11_addHoliday 1 = .ok (.invokevirtual 89, 3) := by decide +kernel
theorem dX11_addHoliday_4 : decode cX11_addHoliday 4 = .ok (.aload_n 0, 1) := by decide +kernel
theorem dX11_addHoliday_5 : decode cX11_addHoliday 5 = .ok (.aload_n 0, 1) := by decide +kernel
theorem dX11_addHoliday_6 : decode cX11_addHoliday 6 = .ok (.iload_n 1, 1) := by decide +kernel
theorem dX11_addHoliday_7 : decode cX11_addHoliday 7 = .ok (.invokevirtual 166, 3) := by decide +kernel
theorem dX11_addHoliday_10 : decode cX11_addHoliday 10 = .ok (.invokevirtual 96, 3) := by decide +kernel
theorem dX11_addHoliday_13 : decode cX11_addHoliday 13 = .ok (.ireturn, 1) := by decide +kernel
theorem dX11_courtDays_0 : decode cX11_courtDays 0 = .ok (.iload_n 1, 1) := by decide +kernel
theorem dX11_courtDays_1 : decode cX11_courtDays 1 = .ok (.iload_n 2, 1) := by decide +kernel
theorem dX11_courtDays_2 : decode cX11_courtDays 2 = .ok (.invokestatic 172, 3) := by decide +kernel
theorem dX11_courtDays_5 : decode cX11_courtDays 5 = .ok (.aload_n 0, 1) := by decide +kernel
theorem dX11_courtDays_6 : decode cX11_courtDays 6 = .ok (.getfield 26, 3) := by decide +kernel
theorem dX11_courtDays_9 : decode cX11_courtDays 9 = .ok (.getfield 36, 3) := by decide +kernel
theorem dX11_courtDays_12 : decode cX11_courtDays 12 = .ok (.iload_n 1, 1) := by decide +kernel
theorem dX11_courtDays_13 : decode cX11_courtDays 13 = .ok (.iload_n 2, 1) := by decide +kernel
theorem dX11_courtDays_14 : decode cX11_courtDays 14 = .ok (.invokevirtual 176, 3) := by decide +kernel
theorem dX11_courtDays_17 : decode cX11_courtDays 17 = .ok (.ireturn, 1) := by decide +kernel
theorem dX11_courtDaysByMarking_0 : decode cX11_courtDaysByMarking 0 = .ok (.iload_n 1, 1) := by decide +kernel
theorem dX11_courtDaysByMarking_1 : decode cX11_courtDaysByMarking 1 = .ok (.iload_n 2, 1) := by decide +kernel
theorem dX11_courtDaysByMarking_2 : decode cX11_courtDaysByMarking 2 = .ok (.invokestatic 172, 3) := by decide +kernel
theorem dX11_courtDaysByMarking_5 : decode cX11_courtDaysByMarking 5 = .ok (.aload_n 0, 1) := by decide +kernel
theorem dX11_courtDaysByMarking_6 : decode cX11_courtDaysByMarking 6 = .ok (.getfield 54, 3) := by decide +kernel
theorem dX11_courtDaysByMarking_9 : decode cX11_courtDaysByMarking 9 = .ok (.iload_n 1, 1) := by decide +kernel
theorem dX11_courtDaysByMarking_10 : decode cX11_courtDaysByMarking 10 = .ok (.iload_n 2, 1) := by decide +kernel
theorem dX11_courtDaysByMarking_11 : decode cX11_courtDaysByMarking 11 = .ok (.invokevirtual 180, 3) := by decide +kernel
theorem dX11_courtDaysByMarking_14 : decode cX11_courtDaysByMarking 14 = .ok (.ireturn, 1) := by decide +kernel
theorem dX11_tryAdvance_0 : decode cX11_tryAdvance 0 = .ok (.iload_n 1, 1) := by decide +kernel
theorem dX11_tryAdvance_1 : decode cX11_tryAdvance 1 = .ok (.iconst 1, 1) := by decide +kernel
theorem dX11_tryAdvance_2 : decode cX11_tryAdvance 2 = .ok (.if_icmp .lt 10, 3) := by decide +kernel
theorem dX11_tryAdvance_5 : decode cX11_tryAdvance 5 = .ok (.iload_n 1, 1) := by decide +kernel
theorem dX11_tryAdvance_6 : decode cX11_tryAdvance 6 = .ok (.sipush 400, 3) := by decide +kernel
theorem dX11_tryAdvance_9 : decode cX11_tryAdvance 9 = .ok (.if_icmp .le 6, 3) := by decide +kernel
theorem dX11_tryAdvance_12 : decode cX11_tryAdvance 12 = .ok (.bipush (-2), 2) := by decide +kernel
theorem dX11_tryAdvance_14 : decode cX11_tryAdvance 14 = .ok (.ireturn, 1) := by decide +kernel
theorem dX11_tryAdvance_15 : decode cX11_tryAdvance 15 = .ok (.aload_n 0, 1) := by decide +kernel
theorem dX11_tryAdvance_16 : decode cX11_tryAdvance 16 = .ok (.getfield 26, 3) := by decide +kernel
theorem dX11_tryAdvance_19 : decode cX11_tryAdvance 19 = .ok (.getfield 36, 3) := by decide +kernel
theorem dX11_tryAdvance_22 : decode cX11_tryAdvance 22 = .ok (.getfield 152, 3) := by decide +kernel
theorem dX11_tryAdvance_25 : decode cX11_tryAdvance 25 = .ok (.iload_n 1, 1) := by decide +kernel
theorem dX11_tryAdvance_26 : decode cX11_tryAdvance 26 = .ok (.iadd, 1) := by decide +kernel
theorem dX11_tryAdvance_27 : decode cX11_tryAdvance 27 = .ok (.sipush 1500, 3) := by decide +kernel
theorem dX11_tryAdvance_30 : decode cX11_tryAdvance 30 = .ok (.if_icmp .le 6, 3) := by decide +kernel
theorem dX11_tryAdvance_33 : decode cX11_tryAdvance 33 = .ok (.bipush (-3), 2) := by decide +kernel
theorem dX11_tryAdvance_35 : decode cX11_tryAdvance 35 = .ok (.ireturn, 1) := by decide +kernel
theorem dX11_tryAdvance_36 : decode cX11_tryAdvance 36 = .ok (.aload_n 0, 1) := by decide +kernel
theorem dX11_tryAdvance_37 : decode cX11_tryAdvance 37 = .ok (.getfield 26, 3) := by decide +kernel
theorem dX11_tryAdvance_40 : decode cX11_tryAdvance 40 = .ok (.getfield 36, 3) := by decide +kernel
theorem dX11_tryAdvance_43 : decode cX11_tryAdvance 43 = .ok (.dup, 1) := by decide +kernel
theorem dX11_tryAdvance_44 : decode cX11_tryAdvance 44 = .ok (.getfield 152, 3) := by decide +kernel
theorem dX11_tryAdvance_47 : decode cX11_tryAdvance 47 = .ok (.iload_n 1, 1) := by decide +kernel
theorem dX11_tryAdvance_48 : decode cX11_tryAdvance 48 = .ok (.iadd, 1) := by decide +kernel
theorem dX11_tryAdvance_49 : decode cX11_tryAdvance 49 = .ok (.putfield 152, 3) := by decide +kernel
theorem dX11_tryAdvance_52 : decode cX11_tryAdvance 52 = .ok (.aload_n 0, 1) := by decide +kernel
theorem dX11_tryAdvance_53 : decode cX11_tryAdvance 53 = .ok (.getfield 26, 3) := by decide +kernel
theorem dX11_tryAdvance_56 : decode cX11_tryAdvance 56 = .ok (.getfield 36, 3) := by decide +kernel
theorem dX11_tryAdvance_59 : decode cX11_tryAdvance 59 = .ok (.getfield 152, 3) := by decide +kernel
theorem dX11_tryAdvance_62 : decode cX11_tryAdvance 62 = .ok (.ireturn, 1) := by decide +kernel
theorem dX11_tryAddHoliday_0 : decode cX11_tryAddHoliday 0 = .ok (.iload_n 1, 1) := by decide +kernel
theorem dX11_tryAddHoliday_1 : decode cX11_tryAddHoliday 1 = .ok (.invokestatic 181, 3) := by decide +kernel
theorem dX11_tryAddHoliday_4 : decode cX11_tryAddHoliday 4 = .ok (.ifCond .ne 6, 3) := by decide +kernel
theorem dX11_tryAddHoliday_7 : decode cX11_tryAddHoliday 7 = .ok (.bipush (-2), 2) := by decide +kernel
theorem dX11_tryAddHoliday_9 : decode cX11_tryAddHoliday 9 = .ok (.ireturn, 1) := by decide +kernel
theorem dX11_tryAddHoliday_10 : decode cX11_tryAddHoliday 10 = .ok (.aload_n 0, 1) := by decide +kernel
theorem dX11_tryAddHoliday_11 : decode cX11_tryAddHoliday 11 = .ok (.getfield 26, 3) := by decide +kernel
theorem dX11_tryAddHoliday_14 : decode cX11_tryAddHoliday 14 = .ok (.getfield 36, 3) := by decide +kernel
theorem dX11_tryAddHoliday_17 : decode cX11_tryAddHoliday 17 = .ok (.iload_n 1, 1) := by decide +kernel
theorem dX11_tryAddHoliday_18 : decode cX11_tryAddHoliday 18 = .ok (.invokevirtual 184, 3) := by decide +kernel
theorem dX11_tryAddHoliday_21 : decode cX11_tryAddHoliday 21 = .ok (.ifCond .ne 18, 3) := by decide +kernel
theorem dX11_tryAddHoliday_24 : decode cX11_tryAddHoliday 24 = .ok (.aload_n 0, 1) := by decide +kernel
theorem dX11_tryAddHoliday_25 : decode cX11_tryAddHoliday 25 = .ok (.getfield 26, 3) := by decide +kernel
theorem dX11_tryAddHoliday_28 : decode cX11_tryAddHoliday 28 = .ok (.getfield 36, 3) := by decide +kernel
theorem dX11_tryAddHoliday_31 : decode cX11_tryAddHoliday 31 = .ok (.getfield 187, 3) := by decide +kernel
theorem dX11_tryAddHoliday_34 : decode cX11_tryAddHoliday 34 = .ok (.bipush 40, 2) := by decide +kernel
theorem dX11_tryAddHoliday_36 : decode cX11_tryAddHoliday 36 = .ok (.if_icmp .lt 6, 3) := by decide +kernel
theorem dX11_tryAddHoliday_39 : decode cX11_tryAddHoliday 39 = .ok (.bipush (-3), 2) := by decide +kernel
theorem dX11_tryAddHoliday_41 : decode cX11_tryAddHoliday 41 = .ok (.ireturn, 1) := by decide +kernel
theorem dX11_tryAddHoliday_42 : decode cX11_tryAddHoliday 42 = .ok (.aload_n 0, 1) := by decide +kernel
theorem dX11_tryAddHoliday_43 : decode cX11_tryAddHoliday 43 = .ok (.getfield 26, 3) := by decide +kernel
theorem dX11_tryAddHoliday_46 : decode cX11_tryAddHoliday 46 = .ok (.getfield 36, 3) := by decide +kernel
theorem dX11_tryAddHoliday_49 : decode cX11_tryAddHoliday 49 = .ok (.iload_n 1, 1) := by decide +kernel
theorem dX11_tryAddHoliday_50 : decode cX11_tryAddHoliday 50 = .ok (.invokevirtual 190, 3) := by decide +kernel
theorem dX11_tryAddHoliday_53 : decode cX11_tryAddHoliday 53 = .ok (.aload_n 0, 1) := by decide +kernel
theorem dX11_tryAddHoliday_54 : decode cX11_tryAddHoliday 54 = .ok (.getfield 26, 3) := by decide +kernel
theorem dX11_tryAddHoliday_57 : decode cX11_tryAddHoliday 57 = .ok (.getfield 36, 3) := by decide +kernel
theorem dX11_tryAddHoliday_60 : decode cX11_tryAddHoliday 60 = .ok (.getfield 187, 3) := by decide +kernel
theorem dX11_tryAddHoliday_63 : decode cX11_tryAddHoliday 63 = .ok (.ireturn, 1) := by decide +kernel
theorem dX11_isDay_0 : decode cX11_isDay 0 = .ok (.iload_n 0, 1) := by decide +kernel
theorem dX11_isDay_1 : decode cX11_isDay 1 = .ok (.ifCond .lt 14, 3) := by decide +kernel
theorem dX11_isDay_4 : decode cX11_isDay 4 = .ok (.iload_n 0, 1) := by decide +kernel
theorem dX11_isDay_5 : decode cX11_isDay 5 = .ok (.sipush 4999, 3) := by decide +kernel
theorem dX11_isDay_8 : decode cX11_isDay 8 = .ok (.if_icmp .gt 7, 3) := by decide +kernel
theorem dX11_isDay_11 : decode cX11_isDay 11 = .ok (.iconst 1, 1) := by decide +kernel
theorem dX11_isDay_12 : decode cX11_isDay 12 = .ok (.goto 4, 3) := by decide +kernel
theorem dX11_isDay_15 : decode cX11_isDay 15 = .ok (.iconst 0, 1) := by decide +kernel
theorem dX11_isDay_16 : decode cX11_isDay 16 = .ok (.ireturn, 1) := by decide +kernel
theorem dX11_needDay_0 : decode cX11_needDay 0 = .ok (.iload_n 0, 1) := by decide +kernel
theorem dX11_needDay_1 : decode cX11_needDay 1 = .ok (.invokestatic 181, 3) := by decide +kernel
theorem dX11_needDay_4 : decode cX11_needDay 4 = .ok (.ifCond .ne 13, 3) := by decide +kernel
theorem dX11_needDay_7 : decode cX11_needDay 7 = .ok (.new 196, 3) := by decide +kernel
theorem dX11_needDay_10 : decode cX11_needDay 10 = .ok (.dup, 1) := by decide +kernel
theorem dX11_needDay_11 : decode cX11_needDay 11 = .ok (.ldc 198, 2) := by decide +kernel
theorem dX11_needDay_13 : decode cX11_needDay 13 = .ok (.invokespecial 200, 3) := by decide +kernel
theorem dX11_needDay_16 : decode cX11_needDay 16 = .ok (.athrow, 1) := by decide +kernel
theorem dX11_needDay_17 : decode cX11_needDay 17 = .ok (.return_, 1) := by decide +kernel
theorem dX11_needRange_0 : decode cX11_needRange 0 = .ok (.iload_n 0, 1) := by decide +kernel
theorem dX11_needRange_1 : decode cX11_needRange 1 = .ok (.invokestatic 181, 3) := by decide +kernel
theorem dX11_needRange_4 : decode cX11_needRange 4 = .ok (.ifCond .eq 15, 3) := by decide +kernel
theorem dX11_needRange_7 : decode cX11_needRange 7 = .ok (.iload_n 1, 1) := by decide +kernel
theorem dX11_needRange_8 : decode cX11_needRange 8 = .ok (.invokestatic 181, 3) := by decide +kernel
theorem dX11_needRange_11 : decode cX11_needRange 11 = .ok (.ifCond .eq 8, 3) := by decide +kernel
theorem dX11_needRange_14 : decode cX11_needRange 14 = .ok (.iload_n 1, 1) := by decide +kernel
theorem dX11_needRange_15 : decode cX11_needRange 15 = .ok (.iload_n 0, 1) := by decide +kernel
theorem dX11_needRange_16 : decode cX11_needRange 16 = .ok (.if_icmp .ge 13, 3) := by decide +kernel
theorem dX11_needRange_19 : decode cX11_needRange 19 = .ok (.new 196, 3) := by decide +kernel
theorem dX11_needRange_22 : decode cX11_needRange 22 = .ok (.dup, 1) := by decide +kernel
theorem dX11_needRange_23 : decode cX11_needRange 23 = .ok (.ldc 201, 2) := by decide +kernel
theorem dX11_needRange_25 : decode cX11_needRange 25 = .ok (.invokespecial 200, 3) := by decide +kernel
theorem dX11_needRange_28 : decode cX11_needRange 28 = .ok (.athrow, 1) := by decide +kernel
theorem dX11_needRange_29 : decode cX11_needRange 29 = .ok (.return_, 1) := by decide +kernel
theorem dX11_setRule_0 : decode cX11_setRule 0 = .ok (.aload_n 0, 1) := by decide +kernel
theorem dX11_setRule_1 : decode cX11_setRule 1 = .ok (.invokevirtual 89, 3) := by decide +kernel
theorem dX11_setRule_4 : decode cX11_setRule 4 = .ok (.aload_n 0, 1) := by decide +kernel
theorem dX11_setRule_5 : decode cX11_setRule 5 = .ok (.aload_n 0, 1) := by decide +kernel
theorem dX11_setRule_6 : decode cX11_setRule 6 = .ok (.iload_n 1, 1) := by decide +kernel
theorem dX11_setRule_7 : decode cX11_setRule 7 = .ok (.iload_n 2, 1) := by decide +kernel
theorem dX11_setRule_8 : decode cX11_setRule 8 = .ok (.iload_n 3, 1) := by decide +kernel
theorem dX11_setRule_9 : decode cX11_setRule 9 = .ok (.invokevirtual 203, 3) := by decide +kernel
theorem dX11_setRule_12 : decode cX11_setRule 12 = .ok (.invokevirtual 96, 3) := by decide +kernel
theorem dX11_setRule_15 : decode cX11_setRule 15 = .ok (.ireturn, 1) := by decide +kernel
theorem dX11_setServiceDays_0 : decode cX11_setServiceDays 0 = .ok (.aload_n 0, 1) := by decide +kernel
theorem dX11_setServiceDays_1 : decode cX11_setServiceDays 1 = .ok (.invokevirtual 89, 3) := by decide +kernel
theorem dX11_setServiceDays_4 : decode cX11_setServiceDays 4 = .ok (.aload_n 0, 1) := by decide +kernel
theorem dX11_setServiceDays_5 : decode cX11_setServiceDays 5 = .ok (.aload_n 0, 1) := by decide +kernel
theorem dX11_setServiceDays_6 : decode cX11_setServiceDays 6 = .ok (.iload_n 1, 1) := by decide +kernel
theorem dX11_setServiceDays_7 : decode cX11_setServiceDays 7 = .ok (.iload_n 2, 1) := by decide +kernel
theorem dX11_setServiceDays_8 : decode cX11_setServiceDays 8 = .ok (.invokevirtual 221, 3) := by decide +kernel
theorem dX11_setServiceDays_11 : decode cX11_setServiceDays 11 = .ok (.invokevirtual 96, 3) := by decide +kernel
theorem dX11_setServiceDays_14 : decode cX11_setServiceDays 14 = .ok (.ireturn, 1) := by decide +kernel
theorem dX11_lastDayBefore_0 : decode cX11_lastDayBefore 0 = .ok (.iload_n 1, 1) := by decide +kernel
theorem dX11_lastDayBefore_1 : decode cX11_lastDayBefore 1 = .ok (.invokestatic 207, 3) := by decide +kernel
theorem dX11_lastDayBefore_4 : decode cX11_lastDayBefore 4 = .ok (.iload_n 2, 1) := by decide +kernel
theorem dX11_lastDayBefore_5 : decode cX11_lastDayBefore 5 = .ok (.invokestatic 160, 3) := by decide +kernel
theorem dX11_lastDayBefore_8 : decode cX11_lastDayBefore 8 = .ok (.aload_n 0, 1) := by decide +kernel
theorem dX11_lastDayBefore_9 : decode cX11_lastDayBefore 9 = .ok (.getfield 47, 3) := by decide +kernel
theorem dX11_lastDayBefore_12 : decode cX11_lastDayBefore 12 = .ok (.iload_n 2, 1) := by decide +kernel
theorem dX11_lastDayBefore_13 : decode cX11_lastDayBefore 13 = .ok (.aload_n 0, 1) := by decide +kernel
theorem dX11_lastDayBefore_14 : decode cX11_lastDayBefore 14 = .ok (.getfield 26, 3) := by decide +kernel
theorem dX11_lastDayBefore_17 : decode cX11_lastDayBefore 17 = .ok (.getfield 210, 3) := by decide +kernel
theorem dX11_lastDayBefore_20 : decode cX11_lastDayBefore 20 = .ok (.getfield 214, 3) := by decide +kernel
theorem dX11_lastDayBefore_23 : decode cX11_lastDayBefore 23 = .ok (.iload_n 1, 1) := by decide +kernel
theorem dX11_lastDayBefore_24 : decode cX11_lastDayBefore 24 = .ok (.iaload, 1) := by decide +kernel
theorem dX11_lastDayBefore_25 : decode cX11_lastDayBefore 25 = .ok (.aload_n 0, 1) := by decide +kernel
theorem dX11_lastDayBefore_26 : decode cX11_lastDayBefore 26 = .ok (.getfield 26, 3) := by decide +kernel
theorem dX11_lastDayBefore_29 : decode cX11_lastDayBefore 29 = .ok (.getfield 210, 3) := by decide +kernel
theorem dX11_lastDayBefore_32 : decode cX11_lastDayBefore 32 = .ok (.getfield 217, 3) := by decide +kernel
theorem dX11_lastDayBefore_35 : decode cX11_lastDayBefore 35 = .ok (.iload_n 1, 1) := by decide +kernel
theorem dX11_lastDayBefore_36 : decode cX11_lastDayBefore 36 = .ok (.baload, 1) := by decide +kernel
theorem dX11_lastDayBefore_37 : decode cX11_lastDayBefore 37 = .ok (.invokevirtual 234, 3) := by decide +kernel
theorem dX11_lastDayBefore_40 : decode cX11_lastDayBefore 40 = .ok (.invokestatic 237, 3) := by decide +kernel
theorem dX11_lastDayBefore_43 : decode cX11_lastDayBefore 43 = .ok (.ireturn, 1) := by decide +kernel
theorem dX11_lastDayBeforeByMarking_0 : decode cX11_lastDayBeforeByMarking 0 = .ok (.iload_n 1, 1) := by decide +kernel
theorem dX11_lastDayBeforeByMarking_1 : decode cX11_lastDayBeforeByMarking 1 = .ok (.invokestatic 207, 3) := by decide +kernel
theorem dX11_lastDayBeforeByMarking_4 : decode cX11_lastDayBeforeByMarking 4 = .ok (.iload_n 2, 1) := by decide +kernel
theorem dX11_lastDayBeforeByMarking_5 : decode cX11_lastDayBeforeByMarking 5 = .ok (.invokestatic 160, 3) := by decide +kernel
theorem dX11_lastDayBeforeByMarking_8 : decode cX11_lastDayBeforeByMarking 8 = .ok (.aload_n 0, 1) := by decide +kernel
theorem dX11_lastDayBeforeByMarking_9 : decode cX11_lastDayBeforeByMarking 9 = .ok (.getfield 54, 3) := by decide +kernel
theorem dX11_lastDayBeforeByMarking_12 : decode cX11_lastDayBeforeByMarking 12 = .ok (.iload_n 2, 1) := by decide +kernel
theorem dX11_lastDayBeforeByMarking_13 : decode cX11_lastDayBeforeByMarking 13 = .ok (.aload_n 0, 1) := by decide +kernel
theorem dX11_lastDayBeforeByMarking_14 : decode cX11_lastDayBeforeByMarking 14 = .ok (.getfield 26, 3) := by decide +kernel
theorem dX11_lastDayBeforeByMarking_17 : decode cX11_lastDayBeforeByMarking 17 = .ok (.getfield 210, 3) := by decide +kernel
theorem dX11_lastDayBeforeByMarking_20 : decode cX11_lastDayBeforeByMarking 20 = .ok (.getfield 214, 3) := by decide +kernel
theorem dX11_lastDayBeforeByMarking_23 : decode cX11_lastDayBeforeByMarking 23 = .ok (.iload_n 1, 1) := by decide +kernel
theorem dX11_lastDayBeforeByMarking_24 : decode cX11_lastDayBeforeByMarking 24 = .ok (.iaload, 1) := by decide +kernel
theorem dX11_lastDayBeforeByMarking_25 : decode cX11_lastDayBeforeByMarking 25 = .ok (.aload_n 0, 1) := by decide +kernel
theorem dX11_lastDayBeforeByMarking_26 : decode cX11_lastDayBeforeByMarking 26 = .ok (.getfield 26, 3) := by decide +kernel
theorem dX11_lastDayBeforeByMarking_29 : decode cX11_lastDayBeforeByMarking 29 = .ok (.getfield 210, 3) := by decide +kernel
theorem dX11_lastDayBeforeByMarking_32 : decode cX11_lastDayBeforeByMarking 32 = .ok (.getfield 217, 3) := by decide +kernel
theorem dX11_lastDayBeforeByMarking_35 : decode cX11_lastDayBeforeByMarking 35 = .ok (.iload_n 1, 1) := by decide +kernel
theorem dX11_lastDayBeforeByMarking_36 : decode cX11_lastDayBeforeByMarking 36 = .ok (.baload, 1) := by decide +kernel
theorem dX11_lastDayBeforeByMarking_37 : decode cX11_lastDayBeforeByMarking 37 = .ok (.invokevirtual 240, 3) := by decide +kernel
theorem dX11_lastDayBeforeByMarking_40 : decode cX11_lastDayBeforeByMarking 40 = .ok (.invokestatic 237, 3) := by decide +kernel
theorem dX11_lastDayBeforeByMarking_43 : decode cX11_lastDayBeforeByMarking 43 = .ok (.ireturn, 1) := by decide +kernel
theorem dX11_trySetRule_0 : decode cX11_trySetRule 0 = .ok (.iload_n 1, 1) := by decide +kernel
theorem dX11_trySetRule_1 : decode cX11_trySetRule 1 = .ok (.invokestatic 241, 3) := by decide +kernel
theorem dX11_trySetRule_4 : decode cX11_trySetRule 4 = .ok (.ifCond .ne 5, 3) := by decide +kernel
theorem dX11_trySetRule_7 : decode cX11_trySetRule 7 = .ok (.iconst (-1), 1) := by decide +kernel
theorem dX11_trySetRule_8 : decode cX11_trySetRule 8 = .ok (.ireturn, 1) := by decide +kernel
theorem dX11_trySetRule_9 : decode cX11_trySetRule 9 = .ok (.iload_n 2, 1) := by decide +kernel
theorem dX11_trySetRule_10 : decode cX11_trySetRule 10 = .ok (.iconst 1, 1) := by decide +kernel
theorem dX11_trySetRule_11 : decode cX11_trySetRule 11 = .ok (.if_icmp .lt 10, 3) := by decide +kernel
theorem dX11_trySetRule_14 : decode cX11_trySetRule 14 = .ok (.iload_n 2, 1) := by decide +kernel
theorem dX11_trySetRule_15 : decode cX11_trySetRule 15 = .ok (.sipush 200, 3) := by decide +kernel
theorem dX11_trySetRule_18 : decode cX11_trySetRule 18 = .ok (.if_icmp .le 6, 3) := by decide +kernel
theorem dX11_trySetRule_21 : decode cX11_trySetRule 21 = .ok (.bipush (-2), 2) := by decide +kernel
theorem dX11_trySetRule_23 : decode cX11_trySetRule 23 = .ok (.ireturn, 1) := by decide +kernel
theorem dX11_trySetRule_24 : decode cX11_trySetRule 24 = .ok (.aload_n 0, 1) := by decide +kernel
theorem dX11_trySetRule_25 : decode cX11_trySetRule 25 = .ok (.getfield 26, 3) := by decide +kernel
theorem dX11_trySetRule_28 : decode cX11_trySetRule 28 = .ok (.getfield 210, 3) := by decide +kernel
theorem dX11_trySetRule_31 : decode cX11_trySetRule 31 = .ok (.getfield 214, 3) := by decide +kernel
theorem dX11_trySetRule_34 : decode cX11_trySetRule 34 = .ok (.iload_n 1, 1) := by decide +kernel
theorem dX11_trySetRule_35 : decode cX11_trySetRule 35 = .ok (.iaload, 1) := by decide +kernel
theorem dX11_trySetRule_36 : decode cX11_trySetRule 36 = .ok (.istore 4, 2) := by decide +kernel
theorem dX11_trySetRule_38 : decode cX11_trySetRule 38 = .ok (.aload_n 0, 1) := by decide +kernel
theorem dX11_trySetRule_39 : decode cX11_trySetRule 39 = .ok (.getfield 26, 3) := by decide +kernel
theorem dX11_trySetRule_42 : decode cX11_trySetRule 42 = .ok (.getfield 210, 3) := by decide +kernel
theorem dX11_trySetRule_45 : decode cX11_trySetRule 45 = .ok (.getfield 214, 3) := by decide +kernel
theorem dX11_trySetRule_48 : decode cX11_trySetRule 48 = .ok (.iload_n 1, 1) := by decide +kernel
theorem dX11_trySetRule_49 : decode cX11_trySetRule 49 = .ok (.iload_n 2, 1) := by decide +kernel
theorem dX11_trySetRule_50 : decode cX11_trySetRule 50 = .ok (.iastore, 1) := by decide +kernel
theorem dX11_trySetRule_51 : decode cX11_trySetRule 51 = .ok (.aload_n 0, 1) := by decide +kernel
theorem dX11_trySetRule_52 : decode cX11_trySetRule 52 = .ok (.getfield 26, 3) := by decide +kernel
theorem dX11_trySetRule_55 : decode cX11_trySetRule 55 = .ok (.getfield 210, 3) := by decide +kernel
theorem dX11_trySetRule_58 : decode cX11_trySetRule 58 = .ok (.getfield 217, 3) := by decide +kernel
theorem dX11_trySetRule_61 : decode cX11_trySetRule 61 = .ok (.iload_n 1, 1) := by decide +kernel
theorem dX11_trySetRule_62 : decode cX11_trySetRule 62 = .ok (.iload_n 3, 1) := by decide +kernel
theorem dX11_trySetRule_63 : decode cX11_trySetRule 63 = .ok (.bastore, 1) := by decide +kernel
theorem dX11_trySetRule_64 : decode cX11_trySetRule 64 = .ok (.iload 4, 2) := by decide +kernel
theorem dX11_trySetRule_66 : decode cX11_trySetRule 66 = .ok (.ireturn, 1) := by decide +kernel
theorem dX11_trySetServiceDays_0 : decode cX11_trySetServiceDays 0 = .ok (.iload_n 1, 1) := by decide +kernel
theorem dX11_trySetServiceDays_1 : decode cX11_trySetServiceDays 1 = .ok (.invokestatic 225, 3) := by decide +kernel
theorem dX11_trySetServiceDays_4 : decode cX11_trySetServiceDays 4 = .ok (.istore_n 3, 1) := by decide +kernel
theorem dX11_trySetServiceDays_5 : decode cX11_trySetServiceDays 5 = .ok (.iload_n 3, 1) := by decide +kernel
theorem dX11_trySetServiceDays_6 : decode cX11_trySetServiceDays 6 = .ok (.iconst (-1), 1) := by decide +kernel
theorem dX11_trySetServiceDays_7 : decode cX11_trySetServiceDays 7 = .ok (.if_icmp .eq 13, 3) := by decide +kernel
theorem dX11_trySetServiceDays_10 : decode cX11_trySetServiceDays 10 = .ok (.iload_n 2, 1) := by decide +kernel
theorem dX11_trySetServiceDays_11 : decode cX11_trySetServiceDays 11 = .ok (.ifCond .lt 9, 3) := by decide +kernel
theorem dX11_trySetServiceDays_14 : decode cX11_trySetServiceDays 14 = .ok (.iload_n 2, 1) := by decide +kernel
theorem dX11_trySetServiceDays_15 : decode cX11_trySetServiceDays 15 = .ok (.bipush 30, 2) := by decide +kernel
theorem dX11_trySetServiceDays_17 : decode cX11_trySetServiceDays 17 = .ok (.if_icmp .le 6, 3) := by decide +kernel
theorem dX11_trySetServiceDays_20 : decode cX11_trySetServiceDays 20 = .ok (.bipush (-2), 2) := by decide +kernel
theorem dX11_trySetServiceDays_22 : decode cX11_trySetServiceDays 22 = .ok (.ireturn, 1) := by decide +kernel
theorem dX11_trySetServiceDays_23 : decode cX11_trySetServiceDays 23 = .ok (.aload_n 0, 1) := by decide +kernel
theorem dX11_trySetServiceDays_24 : decode cX11_trySetServiceDays 24 = .ok (.getfield 26, 3) := by decide +kernel
theorem dX11_trySetServiceDays_27 : decode cX11_trySetServiceDays 27 = .ok (.getfield 210, 3) := by decide +kernel
theorem dX11_trySetServiceDays_30 : decode cX11_trySetServiceDays 30 = .ok (.getfield 231, 3) := by decide +kernel
theorem dX11_trySetServiceDays_33 : decode cX11_trySetServiceDays 33 = .ok (.iload_n 3, 1) := by decide +kernel
theorem dX11_trySetServiceDays_34 : decode cX11_trySetServiceDays 34 = .ok (.iaload, 1) := by decide +kernel
theorem dX11_trySetServiceDays_35 : decode cX11_trySetServiceDays 35 = .ok (.istore 4, 2) := by decide +kernel
theorem dX11_trySetServiceDays_37 : decode cX11_trySetServiceDays 37 = .ok (.aload_n 0, 1) := by decide +kernel
theorem dX11_trySetServiceDays_38 : decode cX11_trySetServiceDays 38 = .ok (.getfield 26, 3) := by decide +kernel
theorem dX11_trySetServiceDays_41 : decode cX11_trySetServiceDays 41 = .ok (.getfield 210, 3) := by decide +kernel
theorem dX11_trySetServiceDays_44 : decode cX11_trySetServiceDays 44 = .ok (.getfield 231, 3) := by decide +kernel
theorem dX11_trySetServiceDays_47 : decode cX11_trySetServiceDays 47 = .ok (.iload_n 3, 1) := by decide +kernel
theorem dX11_trySetServiceDays_48 : decode cX11_trySetServiceDays 48 = .ok (.iload_n 2, 1) := by decide +kernel
theorem dX11_trySetServiceDays_49 : decode cX11_trySetServiceDays 49 = .ok (.iastore, 1) := by decide +kernel
theorem dX11_trySetServiceDays_50 : decode cX11_trySetServiceDays 50 = .ok (.iload 4, 2) := by decide +kernel
theorem dX11_trySetServiceDays_52 : decode cX11_trySetServiceDays 52 = .ok (.ireturn, 1) := by decide +kernel
theorem dX11_isRule_0 : decode cX11_isRule 0 = .ok (.iload_n 0, 1) := by decide +kernel
theorem dX11_isRule_1 : decode cX11_isRule 1 = .ok (.ifCond .lt 13, 3) := by decide +kernel
theorem dX11_isRule_4 : decode cX11_isRule 4 = .ok (.iload_n 0, 1) := by decide +kernel
theorem dX11_isRule_5 : decode cX11_isRule 5 = .ok (.bipush 8, 2) := by decide +kernel
theorem dX11_isRule_7 : decode cX11_isRule 7 = .ok (.if_icmp .ge 7, 3) := by decide +kernel
theorem dX11_isRule_10 : decode cX11_isRule 10 = .ok (.iconst 1, 1) := by decide +kernel
theorem dX11_isRule_11 : decode cX11_isRule 11 = .ok (.goto 4, 3) := by decide +kernel
theorem dX11_isRule_14 : decode cX11_isRule 14 = .ok (.iconst 0, 1) := by decide +kernel
theorem dX11_isRule_15 : decode cX11_isRule 15 = .ok (.ireturn, 1) := by decide +kernel
theorem dX11_needRule_0 : decode cX11_needRule 0 = .ok (.iload_n 0, 1) := by decide +kernel
theorem dX11_needRule_1 : decode cX11_needRule 1 = .ok (.invokestatic 241, 3) := by decide +kernel
theorem dX11_needRule_4 : decode cX11_needRule 4 = .ok (.ifCond .ne 13, 3) := by decide +kernel
theorem dX11_needRule_7 : decode cX11_needRule 7 = .ok (.new 132, 3) := by decide +kernel
theorem dX11_needRule_10 : decode cX11_needRule 10 = .ok (.dup, 1) := by decide +kernel
theorem dX11_needRule_11 : decode cX11_needRule 11 = .ok (.ldc 244, 2) := by decide +kernel
theorem dX11_needRule_13 : decode cX11_needRule 13 = .ok (.invokespecial 136, 3) := by decide +kernel
theorem dX11_needRule_16 : decode cX11_needRule 16 = .ok (.athrow, 1) := by decide +kernel
theorem dX11_needRule_17 : decode cX11_needRule 17 = .ok (.return_, 1) := by decide +kernel
theorem dX11_needNotBeforeDayZero_0 : decode cX11_needNotBeforeDayZero 0 = .ok (.iload_n 0, 1) := by decide +kernel
theorem dX11_needNotBeforeDayZero_1 : decode cX11_needNotBeforeDayZero 1 = .ok (.ifCond .ge 13, 3) := by decide +kernel
theorem dX11_needNotBeforeDayZero_4 : decode cX11_needNotBeforeDayZero 4 = .ok (.new 117, 3) := by decide +kernel
theorem dX11_needNotBeforeDayZero_7 : decode cX11_needNotBeforeDayZero 7 = .ok (.dup, 1) := by decide +kernel
theorem dX11_needNotBeforeDayZero_8 : decode cX11_needNotBeforeDayZero 8 = .ok (.ldc 246, 2) := by decide +kernel
theorem dX11_needNotBeforeDayZero_10 : decode cX11_needNotBeforeDayZero 10 = .ok (.invokespecial 121, 3) := by decide +kernel
theorem dX11_needNotBeforeDayZero_13 : decode cX11_needNotBeforeDayZero 13 = .ok (.athrow, 1) := by decide +kernel
theorem dX11_needNotBeforeDayZero_14 : decode cX11_needNotBeforeDayZero 14 = .ok (.iload_n 0, 1) := by decide +kernel
theorem dX11_needNotBeforeDayZero_15 : decode cX11_needNotBeforeDayZero 15 = .ok (.ireturn, 1) := by decide +kernel
theorem dX11_serve_0 : decode cX11_serve 0 = .ok (.aload_n 0, 1) := by decide +kernel
theorem dX11_serve_1 : decode cX11_serve 1 = .ok (.invokevirtual 89, 3) := by decide +kernel
theorem dX11_serve_4 : decode cX11_serve 4 = .ok (.aload_n 0, 1) := by decide +kernel
theorem dX11_serve_5 : decode cX11_serve 5 = .ok (.aload_n 0, 1) := by decide +kernel
theorem dX11_serve_6 : decode cX11_serve 6 = .ok (.iload_n 1, 1) := by decide +kernel
theorem dX11_serve_7 : decode cX11_serve 7 = .ok (.iload_n 2, 1) := by decide +kernel
theorem dX11_serve_8 : decode cX11_serve 8 = .ok (.iload_n 3, 1) := by decide +kernel
theorem dX11_serve_9 : decode cX11_serve 9 = .ok (.invokevirtual 248, 3) := by decide +kernel
theorem dX11_serve_12 : decode cX11_serve 12 = .ok (.invokevirtual 96, 3) := by decide +kernel
theorem dX11_serve_15 : decode cX11_serve 15 = .ok (.ireturn, 1) := by decide +kernel
theorem dX11_deadlines_0 : decode cX11_deadlines 0 = .ok (.aload_n 0, 1) := by decide +kernel
theorem dX11_deadlines_1 : decode cX11_deadlines 1 = .ok (.getfield 26, 3) := by decide +kernel
theorem dX11_deadlines_4 : decode cX11_deadlines 4 = .ok (.getfield 252, 3) := by decide +kernel
theorem dX11_deadlines_7 : decode cX11_deadlines 7 = .ok (.getfield 256, 3) := by decide +kernel
theorem dX11_deadlines_10 : decode cX11_deadlines 10 = .ok (.ireturn, 1) := by decide +kernel
theorem dX11_due_0 : decode cX11_due 0 = .ok (.aload_n 0, 1) := by decide +kernel
theorem dX11_due_1 : decode cX11_due 1 = .ok (.iload_n 1, 1) := by decide +kernel
theorem dX11_due_2 : decode cX11_due 2 = .ok (.invokevirtual 259, 3) := by decide +kernel
theorem dX11_due_5 : decode cX11_due 5 = .ok (.aload_n 0, 1) := by decide +kernel
theorem dX11_due_6 : decode cX11_due 6 = .ok (.getfield 47, 3) := by decide +kernel
theorem dX11_due_9 : decode cX11_due 9 = .ok (.aload_n 0, 1) := by decide +kernel
theorem dX11_due_10 : decode cX11_due 10 = .ok (.getfield 26, 3) := by decide +kernel
theorem dX11_due_13 : decode cX11_due 13 = .ok (.getfield 252, 3) := by decide +kernel
theorem dX11_due_16 : decode cX11_due 16 = .ok (.iload_n 1, 1) := by decide +kernel
theorem dX11_due_17 : decode cX11_due 17 = .ok (.invokevirtual 262, 3) := by decide +kernel
theorem dX11_due_20 : decode cX11_due 20 = .ok (.invokestatic 266, 3) := by decide +kernel
theorem dX11_due_23 : decode cX11_due 23 = .ok (.ireturn, 1) := by decide +kernel
theorem dX11_dueByMarking_0 : decode cX11_dueByMarking 0 = .ok (.aload_n 0, 1) := by decide +kernel
theorem dX11_dueByMarking_1 : decode cX11_dueByMarking 1 = .ok (.iload_n 1, 1) := by decide +kernel
theorem dX11_dueByMarking_2 : decode cX11_dueByMarking 2 = .ok (.invokevirtual 259, 3) := by decide +kernel
theorem dX11_dueByMarking_5 : decode cX11_dueByMarking 5 = .ok (.aload_n 0, 1) := by decide +kernel
theorem dX11_dueByMarking_6 : decode cX11_dueByMarking 6 = .ok (.getfield 54, 3) := by decide +kernel
theorem dX11_dueByMarking_9 : decode cX11_dueByMarking 9 = .ok (.aload_n 0, 1) := by decide +kernel
theorem dX11_dueByMarking_10 : decode cX11_dueByMarking 10 = .ok (.getfield 26, 3) := by decide +kernel
theorem dX11_dueByMarking_13 : decode cX11_dueByMarking 13 = .ok (.getfield 252, 3) := by decide +kernel
theorem dX11_dueByMarking_16 : decode cX11_dueByMarking 16 = .ok (.iload_n 1, 1) := by decide +kernel
theorem dX11_dueByMarking_17 : decode cX11_dueByMarking 17 = .ok (.invokevirtual 269, 3) := by decide +kernel
theorem dX11_dueByMarking_20 : decode cX11_dueByMarking 20 = .ok (.invokestatic 266, 3) := by decide +kernel
theorem dX11_dueByMarking_23 : decode cX11_dueByMarking 23 = .ok (.ireturn, 1) := by decide +kernel
theorem dX11_daysLeft_0 : decode cX11_daysLeft 0 = .ok (.aload_n 0, 1) := by decide +kernel
theorem dX11_daysLeft_1 : decode cX11_daysLeft 1 = .ok (.iload_n 1, 1) := by decide +kernel
theorem dX11_daysLeft_2 : decode cX11_daysLeft 2 = .ok (.invokevirtual 259, 3) := by decide +kernel
theorem dX11_daysLeft_5 : decode cX11_daysLeft 5 = .ok (.aload_n 0, 1) := by decide +kernel
theorem dX11_daysLeft_6 : decode cX11_daysLeft 6 = .ok (.getfield 26, 3) := by decide +kernel
theorem dX11_daysLeft_9 : decode cX11_daysLeft 9 = .ok (.getfield 252, 3) := by decide +kernel
theorem dX11_daysLeft_12 : decode cX11_daysLeft 12 = .ok (.iload_n 1, 1) := by decide +kernel
theorem dX11_daysLeft_13 : decode cX11_daysLeft 13 = .ok (.invokevirtual 270, 3) := by decide +kernel
theorem dX11_daysLeft_16 : decode cX11_daysLeft 16 = .ok (.aload_n 0, 1) := by decide +kernel
theorem dX11_daysLeft_17 : decode cX11_daysLeft 17 = .ok (.getfield 47, 3) := by decide +kernel
theorem dX11_daysLeft_20 : decode cX11_daysLeft 20 = .ok (.aload_n 0, 1) := by decide +kernel
theorem dX11_daysLeft_21 : decode cX11_daysLeft 21 = .ok (.getfield 26, 3) := by decide +kernel
theorem dX11_daysLeft_24 : decode cX11_daysLeft 24 = .ok (.getfield 252, 3) := by decide +kernel
theorem dX11_daysLeft_27 : decode cX11_daysLeft 27 = .ok (.iload_n 1, 1) := by decide +kernel
theorem dX11_daysLeft_28 : decode cX11_daysLeft 28 = .ok (.aload_n 0, 1) := by decide +kernel
theorem dX11_daysLeft_29 : decode cX11_daysLeft 29 = .ok (.getfield 26, 3) := by decide +kernel
theorem dX11_daysLeft_32 : decode cX11_daysLeft 32 = .ok (.getfield 36, 3) := by decide +kernel
theorem dX11_daysLeft_35 : decode cX11_daysLeft 35 = .ok (.getfield 152, 3) := by decide +kernel
theorem dX11_daysLeft_38 : decode cX11_daysLeft 38 = .ok (.invokevirtual 273, 3) := by decide +kernel
theorem dX11_daysLeft_41 : decode cX11_daysLeft 41 = .ok (.isub, 1) := by decide +kernel
theorem dX11_daysLeft_42 : decode cX11_daysLeft 42 = .ok (.ireturn, 1) := by decide +kernel
theorem dX11_daysLeftByMarking_0 : decode cX11_daysLeftByMarking 0 = .ok (.aload_n 0, 1) := by decide +kernel
theorem dX11_daysLeftByMarking_1 : decode cX11_daysLeftByMarking 1 = .ok (.iload_n 1, 1) := by decide +kernel
theorem dX11_daysLeftByMarking_2 : decode cX11_daysLeftByMarking 2 = .ok (.invokevirtual 259, 3) := by decide +kernel
theorem dX11_daysLeftByMarking_5 : decode cX11_daysLeftByMarking 5 = .ok (.aload_n 0, 1) := by decide +kernel
theorem dX11_daysLeftByMarking_6 : decode cX11_daysLeftByMarking 6 = .ok (.getfield 26, 3) := by decide +kernel
theorem dX11_daysLeftByMarking_9 : decode cX11_daysLeftByMarking 9 = .ok (.getfield 252, 3) := by decide +kernel
theorem dX11_daysLeftByMarking_12 : decode cX11_daysLeftByMarking 12 = .ok (.iload_n 1, 1) := by decide +kernel
theorem dX11_daysLeftByMarking_13 : decode cX11_daysLeftByMarking 13 = .ok (.invokevirtual 270, 3) := by decide +kernel
theorem dX11_daysLeftByMarking_16 : decode cX11_daysLeftByMarking 16 = .ok (.aload_n 0, 1) := by decide +kernel
theorem dX11_daysLeftByMarking_17 : decode cX11_daysLeftByMarking 17 = .ok (.getfield 54, 3) := by decide +kernel
theorem dX11_daysLeftByMarking_20 : decode cX11_daysLeftByMarking 20 = .ok (.aload_n 0, 1) := by decide +kernel
theorem dX11_daysLeftByMarking_21 : decode cX11_daysLeftByMarking 21 = .ok (.getfield 26, 3) := by decide +kernel
theorem dX11_daysLeftByMarking_24 : decode cX11_daysLeftByMarking 24 = .ok (.getfield 252, 3) := by decide +kernel
theorem dX11_daysLeftByMarking_27 : decode cX11_daysLeftByMarking 27 = .ok (.iload_n 1, 1) := by decide +kernel
theorem dX11_daysLeftByMarking_28 : decode cX11_daysLeftByMarking 28 = .ok (.aload_n 0, 1) := by decide +kernel
theorem dX11_daysLeftByMarking_29 : decode cX11_daysLeftByMarking 29 = .ok (.getfield 26, 3) := by decide +kernel
theorem dX11_daysLeftByMarking_32 : decode cX11_daysLeftByMarking 32 = .ok (.getfield 36, 3) := by decide +kernel
theorem dX11_daysLeftByMarking_35 : decode cX11_daysLeftByMarking 35 = .ok (.getfield 152, 3) := by decide +kernel
theorem dX11_daysLeftByMarking_38 : decode cX11_daysLeftByMarking 38 = .ok (.invokevirtual 277, 3) := by decide +kernel
theorem dX11_daysLeftByMarking_41 : decode cX11_daysLeftByMarking 41 = .ok (.isub, 1) := by decide +kernel
theorem dX11_daysLeftByMarking_42 : decode cX11_daysLeftByMarking 42 = .ok (.ireturn, 1) := by decide +kernel
theorem dX11_extendByConsent_0 : decode cX11_extendByConsent 0 = .ok (.aload_n 0, 1) := by decide +kernel
theorem dX11_extendByConsent_1 : decode cX11_extendByConsent 1 = .ok (.invokevirtual 89, 3) := by decide +kernel
theorem dX11_extendByConsent_4 : decode cX11_extendByConsent 4 = .ok (.aload_n 0, 1) := by decide +kernel
theorem dX11_extendByConsent_5 : decode cX11_extendByConsent 5 = .ok (.aload_n 0, 1) := by decide +kernel
theorem dX11_extendByConsent_6 : decode cX11_extendByConsent 6 = .ok (.iload_n 1, 1) := by decide +kernel
theorem dX11_extendByConsent_7 : decode cX11_extendByConsent 7 = .ok (.iload_n 2, 1) := by decide +kernel
theorem dX11_extendByConsent_8 : decode cX11_extendByConsent 8 = .ok (.invokevirtual 278, 3) := by decide +kernel
theorem dX11_extendByConsent_11 : decode cX11_extendByConsent 11 = .ok (.invokevirtual 96, 3) := by decide +kernel
theorem dX11_extendByConsent_14 : decode cX11_extendByConsent 14 = .ok (.ireturn, 1) := by decide +kernel
theorem dX11_extendByOrder_0 : decode cX11_extendByOrder 0 = .ok (.aload_n 0, 1) := by decide +kernel
theorem dX11_extendByOrder_1 : decode cX11_extendByOrder 1 = .ok (.invokevirtual 89, 3) := by decide +kernel
theorem dX11_extendByOrder_4 : decode cX11_extendByOrder 4 = .ok (.aload_n 0, 1) := by decide +kernel
theorem dX11_extendByOrder_5 : decode cX11_extendByOrder 5 = .ok (.aload_n 0, 1) := by decide +kernel
theorem dX11_extendByOrder_6 : decode cX11_extendByOrder 6 = .ok (.iload_n 1, 1) := by decide +kernel
theorem dX11_extendByOrder_7 : decode cX11_extendByOrder 7 = .ok (.iload_n 2, 1) := by decide +kernel
theorem dX11_extendByOrder_8 : decode cX11_extendByOrder 8 = .ok (.invokevirtual 281, 3) := by decide +kernel
theorem dX11_extendByOrder_11 : decode cX11_extendByOrder 11 = .ok (.invokevirtual 96, 3) := by decide +kernel
theorem dX11_extendByOrder_14 : decode cX11_extendByOrder 14 = .ok (.ireturn, 1) := by decide +kernel
theorem dX11_file_0 : decode cX11_file 0 = .ok (.aload_n 0, 1) := by decide +kernel
theorem dX11_file_1 : decode cX11_file 1 = .ok (.invokevirtual 89, 3) := by decide +kernel
theorem dX11_file_4 : decode cX11_file 4 = .ok (.aload_n 0, 1) := by decide +kernel
theorem dX11_file_5 : decode cX11_file 5 = .ok (.aload_n 0, 1) := by decide +kernel
theorem dX11_file_6 : decode cX11_file 6 = .ok (.iload_n 1, 1) := by decide +kernel
theorem dX11_file_7 : decode cX11_file 7 = .ok (.invokevirtual 287, 3) := by decide +kernel
theorem dX11_file_10 : decode cX11_file 10 = .ok (.invokevirtual 96, 3) := by decide +kernel
theorem dX11_file_13 : decode cX11_file 13 = .ok (.iconst 1, 1) := by decide +kernel
theorem dX11_file_14 : decode cX11_file 14 = .ok (.if_icmp .ne 7, 3) := by decide +kernel
theorem dX11_file_17 : decode cX11_file 17 = .ok (.iconst 1, 1) := by decide +kernel
theorem dX11_file_18 : decode cX11_file 18 = .ok (.goto 4, 3) := by decide +kernel
theorem dX11_file_21 : decode cX11_file 21 = .ok (.iconst 0, 1) := by decide +kernel
theorem dX11_file_22 : decode cX11_file 22 = .ok (.ireturn, 1) := by decide +kernel
theorem dX11_strike_0 : decode cX11_strike 0 = .ok (.aload_n 0, 1) := by decide +kernel
theorem dX11_strike_1 : decode cX11_strike 1 = .ok (.invokevirtual 89, 3) := by decide +kernel
theorem dX11_strike_4 : decode cX11_strike 4 = .ok (.aload_n 0, 1) := by decide +kernel
theorem dX11_strike_5 : decode cX11_strike 5 = .ok (.aload_n 0, 1) := by decide +kernel
theorem dX11_strike_6 : decode cX11_strike 6 = .ok (.iload_n 1, 1) := by decide +kernel
theorem dX11_strike_7 : decode cX11_strike 7 = .ok (.invokevirtual 290, 3) := by decide +kernel
theorem dX11_strike_10 : decode cX11_strike 10 = .ok (.invokevirtual 96, 3) := by decide +kernel
theorem dX11_strike_13 : decode cX11_strike 13 = .ok (.ireturn, 1) := by decide +kernel
theorem dX11_status_0 : decode cX11_status 0 = .ok (.aload_n 0, 1) := by decide +kernel
theorem dX11_status_1 : decode cX11_status 1 = .ok (.iload_n 1, 1) := by decide +kernel
theorem dX11_status_2 : decode cX11_status 2 = .ok (.invokevirtual 259, 3) := by decide +kernel
theorem dX11_status_5 : decode cX11_status 5 = .ok (.aload_n 0, 1) := by decide +kernel
theorem dX11_status_6 : decode cX11_status 6 = .ok (.getfield 26, 3) := by decide +kernel
theorem dX11_status_9 : decode cX11_status 9 = .ok (.getfield 252, 3) := by decide +kernel
theorem dX11_status_12 : decode cX11_status 12 = .ok (.getfield 293, 3) := by decide +kernel
theorem dX11_status_15 : decode cX11_status 15 = .ok (.iload_n 1, 1) := by decide +kernel
theorem dX11_status_16 : decode cX11_status 16 = .ok (.caload, 1) := by decide +kernel
theorem dX11_status_17 : decode cX11_status 17 = .ok (.ireturn, 1) := by decide +kernel
theorem dX11_openAt_0 : decode cX11_openAt 0 = .ok (.aload_n 0, 1) := by decide +kernel
theorem dX11_openAt_1 : decode cX11_openAt 1 = .ok (.invokevirtual 297, 3) := by decide +kernel
theorem dX11_openAt_4 : decode cX11_openAt 4 = .ok (.iconst 0, 1) := by decide +kernel
theorem dX11_openAt_5 : decode cX11_openAt 5 = .ok (.istore_n 2, 1) := by decide +kernel
theorem dX11_openAt_6 : decode cX11_openAt 6 = .ok (.iload_n 2, 1) := by decide +kernel
theorem dX11_openAt_7 : decode cX11_openAt 7 = .ok (.aload_n 0, 1) := by decide +kernel
theorem dX11_openAt_8 : decode cX11_openAt 8 = .ok (.getfield 26, 3) := by decide +kernel
theorem dX11_openAt_11 : decode cX11_openAt 11 = .ok (.getfield 252, 3) := by decide +kernel
theorem dX11_openAt_14 : decode cX11_openAt 14 = .ok (.getfield 256, 3) := by decide +kernel
theorem dX11_openAt_17 : decode cX11_openAt 17 = .ok (.if_icmp .ge 34, 3) := by decide +kernel
theorem dX11_openAt_20 : decode cX11_openAt 20 = .ok (.aload_n 0, 1) := by decide +kernel
theorem dX11_openAt_21 : decode cX11_openAt 21 = .ok (.getfield 26, 3) := by decide +kernel
theorem dX11_openAt_24 : decode cX11_openAt 24 = .ok (.getfield 252, 3) := by decide +kernel
theorem dX11_openAt_27 : decode cX11_openAt 27 = .ok (.iload_n 2, 1) := by decide +kernel
theorem dX11_openAt_28 : decode cX11_openAt 28 = .ok (.invokevirtual 300, 3) := by decide +kernel
theorem dX11_openAt_31 : decode cX11_openAt 31 = .ok (.ifCond .eq 14, 3) := by decide +kernel
theorem dX11_openAt_34 : decode cX11_openAt 34 = .ok (.aload_n 0, 1) := by decide +kernel
theorem dX11_openAt_35 : decode cX11_openAt 35 = .ok (.iload_n 2, 1) := by decide +kernel
theorem dX11_openAt_36 : decode cX11_openAt 36 = .ok (.invokevirtual 303, 3) := by decide +kernel
theorem dX11_openAt_39 : decode cX11_openAt 39 = .ok (.iload_n 1, 1) := by decide +kernel
theorem dX11_openAt_40 : decode cX11_openAt 40 = .ok (.if_icmp .ne 5, 3) := by decide +kernel
theorem dX11_openAt_43 : decode cX11_openAt 43 = .ok (.iload_n 2, 1) := by decide +kernel
theorem dX11_openAt_44 : decode cX11_openAt 44 = .ok (.ireturn, 1) := by decide +kernel
theorem dX11_openAt_45 : decode cX11_openAt 45 = .ok (.iinc 2 1, 3) := by decide +kernel
theorem dX11_openAt_48 : decode cX11_openAt 48 = .ok (.goto (-42), 3) := by decide +kernel
theorem dX11_openAt_51 : decode cX11_openAt 51 = .ok (.new 117, 3) := by decide +kernel
theorem dX11_openAt_54 : decode cX11_openAt 54 = .ok (.dup, 1) := by decide +kernel
theorem dX11_openAt_55 : decode cX11_openAt 55 = .ok (.ldc_w 306, 3) := by decide +kernel
theorem dX11_openAt_58 : decode cX11_openAt 58 = .ok (.invokespecial 121, 3) := by decide +kernel
theorem dX11_openAt_61 : decode cX11_openAt 61 = .ok (.athrow, 1) := by decide +kernel
theorem dX11_overdue_0 : decode cX11_overdue 0 = .ok (.aload_n 0, 1) := by decide +kernel
theorem dX11_overdue_1 : decode cX11_overdue 1 = .ok (.invokevirtual 297, 3) := by decide +kernel
theorem dX11_overdue_4 : decode cX11_overdue 4 = .ok (.iconst 0, 1) := by decide +kernel
theorem dX11_overdue_5 : decode cX11_overdue 5 = .ok (.istore_n 1, 1) := by decide +kernel
theorem dX11_overdue_6 : decode cX11_overdue 6 = .ok (.iconst 0, 1) := by decide +kernel
theorem dX11_overdue_7 : decode cX11_overdue 7 = .ok (.istore_n 2, 1) := by decide +kernel
theorem dX11_overdue_8 : decode cX11_overdue 8 = .ok (.iload_n 2, 1) := by decide +kernel
theorem dX11_overdue_9 : decode cX11_overdue 9 = .ok (.aload_n 0, 1) := by decide +kernel
theorem dX11_overdue_10 : decode cX11_overdue 10 = .ok (.getfield 26, 3) := by decide +kernel
theorem dX11_overdue_13 : decode cX11_overdue 13 = .ok (.getfield 252, 3) := by decide +kernel
theorem dX11_overdue_16 : decode cX11_overdue 16 = .ok (.getfield 256, 3) := by decide +kernel
theorem dX11_overdue_19 : decode cX11_overdue 19 = .ok (.if_icmp .ge 45, 3) := by decide +kernel
theorem dX11_overdue_22 : decode cX11_overdue 22 = .ok (.aload_n 0, 1) := by decide +kernel
theorem dX11_overdue_23 : decode cX11_overdue 23 = .ok (.getfield 26, 3) := by decide +kernel
theorem dX11_overdue_26 : decode cX11_overdue 26 = .ok (.getfield 252, 3) := by decide +kernel
theorem dX11_overdue_29 : decode cX11_overdue 29 = .ok (.iload_n 2, 1) := by decide +kernel
theorem dX11_overdue_30 : decode cX11_overdue 30 = .ok (.invokevirtual 300, 3) := by decide +kernel
theorem dX11_overdue_33 : decode cX11_overdue 33 = .ok (.ifCond .eq 25, 3) := by decide +kernel
theorem dX11_overdue_36 : decode cX11_overdue 36 = .ok (.aload_n 0, 1) := by decide +kernel
theorem dX11_overdue_37 : decode cX11_overdue 37 = .ok (.getfield 58, 3) := by decide +kernel
theorem dX11_overdue_40 : decode cX11_overdue 40 = .ok (.iload_n 2, 1) := by decide +kernel
theorem dX11_overdue_41 : decode cX11_overdue 41 = .ok (.iaload, 1) := by decide +kernel
theorem dX11_overdue_42 : decode cX11_overdue 42 = .ok (.aload_n 0, 1) := by decide +kernel
theorem dX11_overdue_43 : decode cX11_overdue 43 = .ok (.getfield 26, 3) := by decide +kernel
theorem dX11_overdue_46 : decode cX11_overdue 46 = .ok (.getfield 36, 3) := by decide +kernel
theorem dX11_overdue_49 : decode cX11_overdue 49 = .ok (.getfield 152, 3) := by decide +kernel
theorem dX11_overdue_52 : decode cX11_overdue 52 = .ok (.if_icmp .ge 6, 3) := by decide +kernel
theorem dX11_overdue_55 : decode cX11_overdue 55 = .ok (.iinc 1 1, 3) := by decide +kernel
theorem dX11_overdue_58 : decode cX11_overdue 58 = .ok (.iinc 2 1, 3) := by decide +kernel
theorem dX11_overdue_61 : decode cX11_overdue 61 = .ok (.goto (-53), 3) := by decide +kernel
theorem dX11_overdue_64 : decode cX11_overdue 64 = .ok (.iload_n 1, 1) := by decide +kernel
theorem dX11_overdue_65 : decode cX11_overdue 65 = .ok (.ireturn, 1) := by decide +kernel
theorem dX11_tryServe_0 : decode cX11_tryServe 0 = .ok (.aload_n 0, 1) := by decide +kernel
theorem dX11_tryServe_1 : decode cX11_tryServe 1 = .ok (.getfield 26, 3) := by decide +kernel
theorem dX11_tryServe_4 : decode cX11_tryServe 4 = .ok (.getfield 107, 3) := by decide +kernel
theorem dX11_tryServe_7 : decode cX11_tryServe 7 = .ok (.iload_n 1, 1) := by decide +kernel
theorem dX11_tryServe_8 : decode cX11_tryServe 8 = .ok (.invokevirtual 146, 3) := by decide +kernel
theorem dX11_tryServe_11 : decode cX11_tryServe 11 = .ok (.ifCond .eq 10, 3) := by decide +kernel
theorem dX11_tryServe_14 : decode cX11_tryServe 14 = .ok (.iload_n 2, 1) := by decide +kernel
theorem dX11_tryServe_15 : decode cX11_tryServe 15 = .ok (.invokestatic 241, 3) := by decide +kernel
theorem dX11_tryServe_18 : decode cX11_tryServe 18 = .ok (.ifCond .ne 5, 3) := by decide +kernel
theorem dX11_tryServe_21 : decode cX11_tryServe 21 = .ok (.iconst (-1), 1) := by decide +kernel
theorem dX11_tryServe_22 : decode cX11_tryServe 22 = .ok (.ireturn, 1) := by decide +kernel
theorem dX11_tryServe_23 : decode cX11_tryServe 23 = .ok (.iload_n 3, 1) := by decide +kernel
theorem dX11_tryServe_24 : decode cX11_tryServe 24 = .ok (.invokestatic 225, 3) := by decide +kernel
theorem dX11_tryServe_27 : decode cX11_tryServe 27 = .ok (.istore 4, 2) := by decide +kernel
theorem dX11_tryServe_29 : decode cX11_tryServe 29 = .ok (.iload 4, 2) := by decide +kernel
theorem dX11_tryServe_31 : decode cX11_tryServe 31 = .ok (.iconst (-1), 1) := by decide +kernel
theorem dX11_tryServe_32 : decode cX11_tryServe 32 = .ok (.if_icmp .ne 6, 3) := by decide +kernel
theorem dX11_tryServe_35 : decode cX11_tryServe 35 = .ok (.bipush (-2), 2) := by decide +kernel
theorem dX11_tryServe_37 : decode cX11_tryServe 37 = .ok (.ireturn, 1) := by decide +kernel
theorem dX11_tryServe_38 : decode cX11_tryServe 38 = .ok (.aload_n 0, 1) := by decide +kernel
theorem dX11_tryServe_39 : decode cX11_tryServe 39 = .ok (.getfield 26, 3) := by decide +kernel
theorem dX11_tryServe_42 : decode cX11_tryServe 42 = .ok (.getfield 252, 3) := by decide +kernel
theorem dX11_tryServe_45 : decode cX11_tryServe 45 = .ok (.getfield 256, 3) := by decide +kernel
theorem dX11_tryServe_48 : decode cX11_tryServe 48 = .ok (.bipush 30, 2) := by decide +kernel
theorem dX11_tryServe_50 : decode cX11_tryServe 50 = .ok (.if_icmp .lt 6, 3) := by decide +kernel
theorem dX11_tryServe_53 : decode cX11_tryServe 53 = .ok (.bipush (-3), 2) := by decide +kernel
theorem dX11_tryServe_55 : decode cX11_tryServe 55 = .ok (.ireturn, 1) := by decide +kernel
theorem dX11_tryServe_56 : decode cX11_tryServe 56 = .ok (.aload_n 0, 1) := by decide +kernel
theorem dX11_tryServe_57 : decode cX11_tryServe 57 = .ok (.getfield 26, 3) := by decide +kernel
theorem dX11_tryServe_60 : decode cX11_tryServe 60 = .ok (.getfield 252, 3) := by decide +kernel
theorem dX11_tryServe_63 : decode cX11_tryServe 63 = .ok (.iload_n 1, 1) := by decide +kernel
theorem dX11_tryServe_64 : decode cX11_tryServe 64 = .ok (.iload_n 2, 1) := by decide +kernel
theorem dX11_tryServe_65 : decode cX11_tryServe 65 = .ok (.aload_n 0, 1) := by decide +kernel
theorem dX11_tryServe_66 : decode cX11_tryServe 66 = .ok (.getfield 26, 3) := by decide +kernel
theorem dX11_tryServe_69 : decode cX11_tryServe 69 = .ok (.getfield 36, 3) := by decide +kernel
theorem dX11_tryServe_72 : decode cX11_tryServe 72 = .ok (.getfield 152, 3) := by decide +kernel
theorem dX11_tryServe_75 : decode cX11_tryServe 75 = .ok (.aload_n 0, 1) := by decide +kernel
theorem dX11_tryServe_76 : decode cX11_tryServe 76 = .ok (.getfield 26, 3) := by decide +kernel
theorem dX11_tryServe_79 : decode cX11_tryServe 79 = .ok (.getfield 210, 3) := by decide +kernel
theorem dX11_tryServe_82 : decode cX11_tryServe 82 = .ok (.invokevirtual 316, 3) := by decide +kernel
theorem dX11_tryServe_85 : decode cX11_tryServe 85 = .ok (.istore 5, 2) := by decide +kernel
theorem dX11_tryServe_87 : decode cX11_tryServe 87 = .ok (.aload_n 0, 1) := by decide +kernel
theorem dX11_tryServe_88 : decode cX11_tryServe 88 = .ok (.getfield 26, 3) := by decide +kernel
theorem dX11_tryServe_91 : decode cX11_tryServe 91 = .ok (.getfield 210, 3) := by decide +kernel
theorem dX11_tryServe_94 : decode cX11_tryServe 94 = .ok (.getfield 231, 3) := by decide +kernel
theorem dX11_tryServe_97 : decode cX11_tryServe 97 = .ok (.iload 4, 2) := by decide +kernel
theorem dX11_tryServe_99 : decode cX11_tryServe 99 = .ok (.iaload, 1) := by decide +kernel
theorem dX11_tryServe_100 : decode cX11_tryServe 100 = .ok (.ifCond .le 28, 3) := by decide +kernel
theorem dX11_tryServe_103 : decode cX11_tryServe 103 = .ok (.aload_n 0, 1) := by decide +kernel
theorem dX11_tryServe_104 : decode cX11_tryServe 104 = .ok (.getfield 26, 3) := by decide +kernel
theorem dX11_tryServe_107 : decode cX11_tryServe 107 = .ok (.getfield 252, 3) := by decide +kernel
theorem dX11_tryServe_110 : decode cX11_tryServe 110 = .ok (.iload 5, 2) := by decide +kernel
theorem dX11_tryServe_112 : decode cX11_tryServe 112 = .ok (.aload_n 0, 1) := by decide +kernel
theorem dX11_tryServe_113 : decode cX11_tryServe 113 = .ok (.getfield 26, 3) := by decide +kernel
theorem dX11_tryServe_116 : decode cX11_tryServe 116 = .ok (.getfield 210, 3) := by decide +kernel
theorem dX11_tryServe_119 : decode cX11_tryServe 119 = .ok (.getfield 231, 3) := by decide +kernel
theorem dX11_tryServe_122 : decode cX11_tryServe 122 = .ok (.iload 4, 2) := by decide +kernel
theorem dX11_tryServe_124 : decode cX11_tryServe 124 = .ok (.iaload, 1) := by decide +kernel
theorem dX11_tryServe_125 : decode cX11_tryServe 125 = .ok (.invokevirtual 319, 3) := by decide +kernel
theorem dX11_tryServe_128 : decode cX11_tryServe 128 = .ok (.iload 5, 2) := by decide +kernel
theorem dX11_tryServe_130 : decode cX11_tryServe 130 = .ok (.ireturn, 1) := by decide +kernel
theorem dX11_tryExtendByConsent_0 : decode cX11_tryExtendByConsent 0 = .ok (.aload_n 0, 1) := by decide +kernel
theorem dX11_tryExtendByConsent_1 : decode cX11_tryExtendByConsent 1 = .ok (.getfield 26, 3) := by decide +kernel
theorem dX11_tryExtendByConsent_4 : decode cX11_tryExtendByConsent 4 = .ok (.getfield 252, 3) := by decide +kernel
theorem dX11_tryExtendByConsent_7 : decode cX11_tryExtendByConsent 7 = .ok (.iload_n 1, 1) := by decide +kernel
theorem dX11_tryExtendByConsent_8 : decode cX11_tryExtendByConsent 8 = .ok (.invokevirtual 322, 3) := by decide +kernel
theorem dX11_tryExtendByConsent_11 : decode cX11_tryExtendByConsent 11 = .ok (.ifCond .ne 5, 3) := by decide +kernel
theorem dX11_tryExtendByConsent_14 : decode cX11_tryExtendByConsent 14 = .ok (.iconst (-1), 1) := by decide +kernel
theorem dX11_tryExtendByConsent_15 : decode cX11_tryExtendByConsent 15 = .ok (.ireturn, 1) := by decide +kernel
theorem dX11_tryExtendByConsent_16 : decode cX11_tryExtendByConsent 16 = .ok (.iload_n 2, 1) := by decide +kernel
theorem dX11_tryExtendByConsent_17 : decode cX11_tryExtendByConsent 17 = .ok (.iconst 1, 1) := by decide +kernel
theorem dX11_tryExtendByConsent_18 : decode cX11_tryExtendByConsent 18 = .ok (.if_icmp .lt 9, 3) := by decide +kernel
theorem dX11_tryExtendByConsent_21 : decode cX11_tryExtendByConsent 21 = .ok (.iload_n 2, 1) := by decide +kernel
theorem dX11_tryExtendByConsent_22 : decode cX11_tryExtendByConsent 22 = .ok (.bipush 28, 2) := by decide +kernel
theorem dX11_tryExtendByConsent_24 : decode cX11_tryExtendByConsent 24 = .ok (.if_icmp .le 6, 3) := by decide +kernel
theorem dX11_tryExtendByConsent_27 : decode cX11_tryExtendByConsent 27 = .ok (.bipush (-2), 2) := by decide +kernel
theorem dX11_tryExtendByConsent_29 : decode cX11_tryExtendByConsent 29 = .ok (.ireturn, 1) := by decide +kernel
theorem dX11_tryExtendByConsent_30 : decode cX11_tryExtendByConsent 30 = .ok (.aload_n 0, 1) := by decide +kernel
theorem dX11_tryExtendByConsent_31 : decode cX11_tryExtendByConsent 31 = .ok (.getfield 26, 3) := by decide +kernel
theorem dX11_tryExtendByConsent_34 : decode cX11_tryExtendByConsent 34 = .ok (.getfield 252, 3) := by decide +kernel
theorem dX11_tryExtendByConsent_37 : decode cX11_tryExtendByConsent 37 = .ok (.iload_n 1, 1) := by decide +kernel
theorem dX11_tryExtendByConsent_38 : decode cX11_tryExtendByConsent 38 = .ok (.invokevirtual 300, 3) := by decide +kernel
theorem dX11_tryExtendByConsent_41 : decode cX11_tryExtendByConsent 41 = .ok (.ifCond .eq 47, 3) := by decide +kernel
theorem dX11_tryExtendByConsent_44 : decode cX11_tryExtendByConsent 44 = .ok (.aload_n 0, 1) := by decide +kernel
theorem dX11_tryExtendByConsent_45 : decode cX11_tryExtendByConsent 45 = .ok (.getfield 47, 3) := by decide +kernel
theorem dX11_tryExtendByConsent_48 : decode cX11_tryExtendByConsent 48 = .ok (.aload_n 0, 1) := by decide +kernel
theorem dX11_tryExtendByConsent_49 : decode cX11_tryExtendByConsent 49 = .ok (.getfield 26, 3) := by decide +kernel
theorem dX11_tryExtendByConsent_52 : decode cX11_tryExtendByConsent 52 = .ok (.getfield 252, 3) := by decide +kernel
theorem dX11_tryExtendByConsent_55 : decode cX11_tryExtendByConsent 55 = .ok (.iload_n 1, 1) := by decide +kernel
theorem dX11_tryExtendByConsent_56 : decode cX11_tryExtendByConsent 56 = .ok (.invokevirtual 262, 3) := by decide +kernel
theorem dX11_tryExtendByConsent_59 : decode cX11_tryExtendByConsent 59 = .ok (.aload_n 0, 1) := by decide +kernel
theorem dX11_tryExtendByConsent_60 : decode cX11_tryExtendByConsent 60 = .ok (.getfield 26, 3) := by decide +kernel
theorem dX11_tryExtendByConsent_63 : decode cX11_tryExtendByConsent 63 = .ok (.getfield 36, 3) := by decide +kernel
theorem dX11_tryExtendByConsent_66 : decode cX11_tryExtendByConsent 66 = .ok (.getfield 152, 3) := by decide +kernel
theorem dX11_tryExtendByConsent_69 : decode cX11_tryExtendByConsent 69 = .ok (.if_icmp .lt 19, 3) := by decide +kernel
theorem dX11_tryExtendByConsent_72 : decode cX11_tryExtendByConsent 72 = .ok (.aload_n 0, 1) := by decide +kernel
theorem dX11_tryExtendByConsent_73 : decode cX11_tryExtendByConsent 73 = .ok (.getfield 26, 3) := by decide +kernel
theorem dX11_tryExtendByConsent_76 : decode cX11_tryExtendByConsent 76 = .ok (.getfield 252, 3) := by decide +kernel
theorem dX11_tryExtendByConsent_79 : decode cX11_tryExtendByConsent 79 = .ok (.getfield 323, 3) := by decide +kernel
theorem dX11_tryExtendByConsent_82 : decode cX11_tryExtendByConsent 82 = .ok (.iload_n 1, 1) := by decide +kernel
theorem dX11_tryExtendByConsent_83 : decode cX11_tryExtendByConsent 83 = .ok (.iaload, 1) := by decide +kernel
theorem dX11_tryExtendByConsent_84 : decode cX11_tryExtendByConsent 84 = .ok (.iconst 2, 1) := by decide +kernel
theorem dX11_tryExtendByConsent_85 : decode cX11_tryExtendByConsent 85 = .ok (.if_icmp .lt 6, 3) := by decide +kernel
theorem dX11_tryExtendByConsent_88 : decode cX11_tryExtendByConsent 88 = .ok (.bipush (-3), 2) := by decide +kernel
theorem dX11_tryExtendByConsent_90 : decode cX11_tryExtendByConsent 90 = .ok (.ireturn, 1) := by decide +kernel
theorem dX11_tryExtendByConsent_91 : decode cX11_tryExtendByConsent 91 = .ok (.aload_n 0, 1) := by decide +kernel
theorem dX11_tryExtendByConsent_92 : decode cX11_tryExtendByConsent 92 = .ok (.getfield 26, 3) := by decide +kernel
theorem dX11_tryExtendByConsent_95 : decode cX11_tryExtendByConsent 95 = .ok (.getfield 252, 3) := by decide +kernel
theorem dX11_tryExtendByConsent_98 : decode cX11_tryExtendByConsent 98 = .ok (.getfield 326, 3) := by decide +kernel
theorem dX11_tryExtendByConsent_101 : decode cX11_tryExtendByConsent 101 = .ok (.iload_n 1, 1) := by decide +kernel
theorem dX11_tryExtendByConsent_102 : decode cX11_tryExtendByConsent 102 = .ok (.iaload, 1) := by decide +kernel
theorem dX11_tryExtendByConsent_103 : decode cX11_tryExtendByConsent 103 = .ok (.iload_n 2, 1) := by decide +kernel
theorem dX11_tryExtendByConsent_104 : decode cX11_tryExtendByConsent 104 = .ok (.iadd, 1) := by decide +kernel
theorem dX11_tryExtendByConsent_105 : decode cX11_tryExtendByConsent 105 = .ok (.bipush 28, 2) := by decide +kernel
theorem dX11_tryExtendByConsent_107 : decode cX11_tryExtendByConsent 107 = .ok (.if_icmp .le 6, 3) := by decide +kernel
theorem dX11_tryExtendByConsent_110 : decode cX11_tryExtendByConsent 110 = .ok (.bipush (-4), 2) := by decide +kernel
theorem dX11_tryExtendByConsent_112 : decode cX11_tryExtendByConsent 112 = .ok (.ireturn, 1) := by decide +kernel
theorem dX11_tryExtendByConsent_113 : decode cX11_tryExtendByConsent 113 = .ok (.aload_n 0, 1) := by decide +kernel
theorem dX11_tryExtendByConsent_114 : decode cX11_tryExtendByConsent 114 = .ok (.getfield 26, 3) := by decide +kernel
theorem dX11_tryExtendByConsent_117 : decode cX11_tryExtendByConsent 117 = .ok (.getfield 252, 3) := by decide +kernel
theorem dX11_tryExtendByConsent_120 : decode cX11_tryExtendByConsent 120 = .ok (.getfield 323, 3) := by decide +kernel
theorem dX11_tryExtendByConsent_123 : decode cX11_tryExtendByConsent 123 = .ok (.iload_n 1, 1) := by decide +kernel
theorem dX11_tryExtendByConsent_124 : decode cX11_tryExtendByConsent 124 = .ok (.dup2, 1) := by decide +kernel
theorem dX11_tryExtendByConsent_125 : decode cX11_tryExtendByConsent 125 = .ok (.iaload, 1) := by decide +kernel
theorem dX11_tryExtendByConsent_126 : decode cX11_tryExtendByConsent 126 = .ok (.iconst 1, 1) := by decide +kernel
theorem dX11_tryExtendByConsent_127 : decode cX11_tryExtendByConsent 127 = .ok (.iadd, 1) := by decide +kernel
theorem dX11_tryExtendByConsent_128 : decode cX11_tryExtendByConsent 128 = .ok (.iastore, 1) := by decide +kernel
theorem dX11_tryExtendByConsent_129 : decode cX11_tryExtendByConsent 129 = .ok (.aload_n 0, 1) := by decide +kernel
theorem dX11_tryExtendByConsent_130 : decode cX11_tryExtendByConsent 130 = .ok (.getfield 26, 3) := by decide +kernel
theorem dX11_tryExtendByConsent_133 : decode cX11_tryExtendByConsent 133 = .ok (.getfield 252, 3) := by decide +kernel
theorem dX11_tryExtendByConsent_136 : decode cX11_tryExtendByConsent 136 = .ok (.getfield 326, 3) := by decide +kernel
theorem dX11_tryExtendByConsent_139 : decode cX11_tryExtendByConsent 139 = .ok (.iload_n 1, 1) := by decide +kernel
theorem dX11_tryExtendByConsent_140 : decode cX11_tryExtendByConsent 140 = .ok (.dup2, 1) := by decide +kernel
theorem dX11_tryExtendByConsent_141 : decode cX11_tryExtendByConsent 141 = .ok (.iaload, 1) := by decide +kernel
theorem dX11_tryExtendByConsent_142 : decode cX11_tryExtendByConsent 142 = .ok (.iload_n 2, 1) := by decide +kernel
theorem dX11_tryExtendByConsent_143 : decode cX11_tryExtendByConsent 143 = .ok (.iadd, 1) := by decide +kernel
theorem dX11_tryExtendByConsent_144 : decode cX11_tryExtendByConsent 144 = .ok (.iastore, 1) := by decide +kernel
theorem dX11_tryExtendByConsent_145 : decode cX11_tryExtendByConsent 145 = .ok (.aload_n 0, 1) := by decide +kernel
theorem dX11_tryExtendByConsent_146 : decode cX11_tryExtendByConsent 146 = .ok (.getfield 26, 3) := by decide +kernel
theorem dX11_tryExtendByConsent_149 : decode cX11_tryExtendByConsent 149 = .ok (.getfield 252, 3) := by decide +kernel
theorem dX11_tryExtendByConsent_152 : decode cX11_tryExtendByConsent 152 = .ok (.iload_n 1, 1) := by decide +kernel
theorem dX11_tryExtendByConsent_153 : decode cX11_tryExtendByConsent 153 = .ok (.iload_n 2, 1) := by decide +kernel
theorem dX11_tryExtendByConsent_154 : decode cX11_tryExtendByConsent 154 = .ok (.invokevirtual 329, 3) := by decide +kernel
theorem dX11_tryExtendByConsent_157 : decode cX11_tryExtendByConsent 157 = .ok (.ireturn, 1) := by decide +kernel
theorem dX11_tryExtendByOrder_0 : decode cX11_tryExtendByOrder 0 = .ok (.aload_n 0, 1) := by decide +kernel
theorem dX11_tryExtendByOrder_1 : decode cX11_tryExtendByOrder 1 = .ok (.getfield 26, 3) := by decide +kernel
theorem dX11_tryExtendByOrder_4 : decode cX11_tryExtendByOrder 4 = .ok (.getfield 252, 3) := by decide +kernel
theorem dX11_tryExtendByOrder_7 : decode cX11_tryExtendByOrder 7 = .ok (.iload_n 1, 1) := by decide +kernel
theorem dX11_tryExtendByOrder_8 : decode cX11_tryExtendByOrder 8 = .ok (.invokevirtual 322, 3) := by decide +kernel
theorem dX11_tryExtendByOrder_11 : decode cX11_tryExtendByOrder 11 = .ok (.ifCond .ne 5, 3) := by decide +kernel
theorem dX11_tryExtendByOrder_14 : decode cX11_tryExtendByOrder 14 = .ok (.iconst (-1), 1) := by decide +kernel
theorem dX11_tryExtendByOrder_15 : decode cX11_tryExtendByOrder 15 = .ok (.ireturn, 1) := by decide +kernel
theorem dX11_tryExtendByOrder_16 : decode cX11_tryExtendByOrder 16 = .ok (.iload_n 2, 1) := by decide +kernel
theorem dX11_tryExtendByOrder_17 : decode cX11_tryExtendByOrder 17 = .ok (.iconst 1, 1) := by decide +kernel
theorem dX11_tryExtendByOrder_18 : decode cX11_tryExtendByOrder 18 = .ok (.if_icmp .lt 9, 3) := by decide +kernel
theorem dX11_tryExtendByOrder_21 : decode cX11_tryExtendByOrder 21 = .ok (.iload_n 2, 1) := by decide +kernel
theorem dX11_tryExtendByOrder_22 : decode cX11_tryExtendByOrder 22 = .ok (.bipush 100, 2) := by decide +kernel
theorem dX11_tryExtendByOrder_24 : decode cX11_tryExtendByOrder 24 = .ok (.if_icmp .le 6, 3) := by decide +kernel
theorem dX11_tryExtendByOrder_27 : decode cX11_tryExtendByOrder 27 = .ok (.bipush (-2), 2) := by decide +kernel
theorem dX11_tryExtendByOrder_29 : decode cX11_tryExtendByOrder 29 = .ok (.ireturn, 1) := by decide +kernel
theorem dX11_tryExtendByOrder_30 : decode cX11_tryExtendByOrder 30 = .ok (.aload_n 0, 1) := by decide +kernel
theorem dX11_tryExtendByOrder_31 : decode cX11_tryExtendByOrder 31 = .ok (.getfield 26, 3) := by decide +kernel
theorem dX11_tryExtendByOrder_34 : decode cX11_tryExtendByOrder 34 = .ok (.getfield 252, 3) := by decide +kernel
theorem dX11_tryExtendByOrder_37 : decode cX11_tryExtendByOrder 37 = .ok (.iload_n 1, 1) := by decide +kernel
theorem dX11_tryExtendByOrder_38 : decode cX11_tryExtendByOrder 38 = .ok (.invokevirtual 300, 3) := by decide +kernel
theorem dX11_tryExtendByOrder_41 : decode cX11_tryExtendByOrder 41 = .ok (.ifCond .eq 19, 3) := by decide +kernel
theorem dX11_tryExtendByOrder_44 : decode cX11_tryExtendByOrder 44 = .ok (.aload_n 0, 1) := by decide +kernel
theorem dX11_tryExtendByOrder_45 : decode cX11_tryExtendByOrder 45 = .ok (.getfield 26, 3) := by decide +kernel
theorem dX11_tryExtendByOrder_48 : decode cX11_tryExtendByOrder 48 = .ok (.getfield 252, 3) := by decide +kernel
theorem dX11_tryExtendByOrder_51 : decode cX11_tryExtendByOrder 51 = .ok (.getfield 332, 3) := by decide +kernel
theorem dX11_tryExtendByOrder_54 : decode cX11_tryExtendByOrder 54 = .ok (.iload_n 1, 1) := by decide +kernel
theorem dX11_tryExtendByOrder_55 : decode cX11_tryExtendByOrder 55 = .ok (.iaload, 1) := by decide +kernel
theorem dX11_tryExtendByOrder_56 : decode cX11_tryExtendByOrder 56 = .ok (.iconst 3, 1) := by decide +kernel
theorem dX11_tryExtendByOrder_57 : decode cX11_tryExtendByOrder 57 = .ok (.if_icmp .lt 6, 3) := by decide +kernel
theorem dX11_tryExtendByOrder_60 : decode cX11_tryExtendByOrder 60 = .ok (.bipush (-3), 2) := by decide +kernel
theorem dX11_tryExtendByOrder_62 : decode cX11_tryExtendByOrder 62 = .ok (.ireturn, 1) := by decide +kernel
theorem dX11_tryExtendByOrder_63 : decode cX11_tryExtendByOrder 63 = .ok (.aload_n 0, 1) := by decide +kernel
theorem dX11_tryExtendByOrder_64 : decode cX11_tryExtendByOrder 64 = .ok (.getfield 26, 3) := by decide +kernel
theorem dX11_tryExtendByOrder_67 : decode cX11_tryExtendByOrder 67 = .ok (.getfield 252, 3) := by decide +kernel
theorem dX11_tryExtendByOrder_70 : decode cX11_tryExtendByOrder 70 = .ok (.getfield 332, 3) := by decide +kernel
theorem dX11_tryExtendByOrder_73 : decode cX11_tryExtendByOrder 73 = .ok (.iload_n 1, 1) := by decide +kernel
theorem dX11_tryExtendByOrder_74 : decode cX11_tryExtendByOrder 74 = .ok (.dup2, 1) := by decide +kernel
theorem dX11_tryExtendByOrder_75 : decode cX11_tryExtendByOrder 75 = .ok (.iaload, 1) := by decide +kernel
theorem dX11_tryExtendByOrder_76 : decode cX11_tryExtendByOrder 76 = .ok (.iconst 1, 1) := by decide +kernel
theorem dX11_tryExtendByOrder_77 : decode cX11_tryExtendByOrder 77 = .ok (.iadd, 1) := by decide +kernel
theorem dX11_tryExtendByOrder_78 : decode cX11_tryExtendByOrder 78 = .ok (.iastore, 1) := by decide +kernel
theorem dX11_tryExtendByOrder_79 : decode cX11_tryExtendByOrder 79 = .ok (.aload_n 0, 1) := by decide +kernel
theorem dX11_tryExtendByOrder_80 : decode cX11_tryExtendByOrder 80 = .ok (.getfield 26, 3) := by decide +kernel
theorem dX11_tryExtendByOrder_83 : decode cX11_tryExtendByOrder 83 = .ok (.getfield 252, 3) := by decide +kernel
theorem dX11_tryExtendByOrder_86 : decode cX11_tryExtendByOrder 86 = .ok (.iload_n 1, 1) := by decide +kernel
theorem dX11_tryExtendByOrder_87 : decode cX11_tryExtendByOrder 87 = .ok (.iload_n 2, 1) := by decide +kernel
theorem dX11_tryExtendByOrder_88 : decode cX11_tryExtendByOrder 88 = .ok (.invokevirtual 329, 3) := by decide +kernel
theorem dX11_tryExtendByOrder_91 : decode cX11_tryExtendByOrder 91 = .ok (.ireturn, 1) := by decide +kernel
theorem dX11_tryFile_0 : decode cX11_tryFile 0 = .ok (.aload_n 0, 1) := by decide +kernel
theorem dX11_tryFile_1 : decode cX11_tryFile 1 = .ok (.getfield 26, 3) := by decide +kernel
theorem dX11_tryFile_4 : decode cX11_tryFile 4 = .ok (.getfield 252, 3) := by decide +kernel
theorem dX11_tryFile_7 : decode cX11_tryFile 7 = .ok (.iload_n 1, 1) := by decide +kernel
theorem dX11_tryFile_8 : decode cX11_tryFile 8 = .ok (.invokevirtual 322, 3) := by decide +kernel
theorem dX11_tryFile_11 : decode cX11_tryFile 11 = .ok (.ifCond .ne 5, 3) := by decide +kernel
theorem dX11_tryFile_14 : decode cX11_tryFile 14 = .ok (.iconst (-1), 1) := by decide +kernel
theorem dX11_tryFile_15 : decode cX11_tryFile 15 = .ok (.ireturn, 1) := by decide +kernel
theorem dX11_tryFile_16 : decode cX11_tryFile 16 = .ok (.aload_n 0, 1) := by decide +kernel
theorem dX11_tryFile_17 : decode cX11_tryFile 17 = .ok (.getfield 26, 3) := by decide +kernel
theorem dX11_tryFile_20 : decode cX11_tryFile 20 = .ok (.getfield 252, 3) := by decide +kernel
theorem dX11_tryFile_23 : decode cX11_tryFile 23 = .ok (.iload_n 1, 1) := by decide +kernel
theorem dX11_tryFile_24 : decode cX11_tryFile 24 = .ok (.invokevirtual 300, 3) := by decide +kernel
theorem dX11_tryFile_27 : decode cX11_tryFile 27 = .ok (.ifCond .ne 6, 3) := by decide +kernel
theorem dX11_tryFile_30 : decode cX11_tryFile 30 = .ok (.bipush (-3), 2) := by decide +kernel
theorem dX11_tryFile_32 : decode cX11_tryFile 32 = .ok (.ireturn, 1) := by decide +kernel
theorem dX11_tryFile_33 : decode cX11_tryFile 33 = .ok (.aload_n 0, 1) := by decide +kernel
theorem dX11_tryFile_34 : decode cX11_tryFile 34 = .ok (.getfield 47, 3) := by decide +kernel
theorem dX11_tryFile_37 : decode cX11_tryFile 37 = .ok (.aload_n 0, 1) := by decide +kernel
theorem dX11_tryFile_38 : decode cX11_tryFile 38 = .ok (.getfield 26, 3) := by decide +kernel
theorem dX11_tryFile_41 : decode cX11_tryFile 41 = .ok (.getfield 252, 3) := by decide +kernel
theorem dX11_tryFile_44 : decode cX11_tryFile 44 = .ok (.iload_n 1, 1) := by decide +kernel
theorem dX11_tryFile_45 : decode cX11_tryFile 45 = .ok (.invokevirtual 262, 3) := by decide +kernel
theorem dX11_tryFile_48 : decode cX11_tryFile 48 = .ok (.aload_n 0, 1) := by decide +kernel
theorem dX11_tryFile_49 : decode cX11_tryFile 49 = .ok (.getfield 26, 3) := by decide +kernel
theorem dX11_tryFile_52 : decode cX11_tryFile 52 = .ok (.getfield 36, 3) := by decide +kernel
theorem dX11_tryFile_55 : decode cX11_tryFile 55 = .ok (.getfield 152, 3) := by decide +kernel
theorem dX11_tryFile_58 : decode cX11_tryFile 58 = .ok (.if_icmp .ge 7, 3) := by decide +kernel
theorem dX11_tryFile_61 : decode cX11_tryFile 61 = .ok (.iconst 1, 1) := by decide +kernel
theorem dX11_tryFile_62 : decode cX11_tryFile 62 = .ok (.goto 4, 3) := by decide +kernel
theorem dX11_tryFile_65 : decode cX11_tryFile 65 = .ok (.iconst 0, 1) := by decide +kernel
theorem dX11_tryFile_66 : decode cX11_tryFile 66 = .ok (.istore_n 2, 1) := by decide +kernel
theorem dX11_tryFile_67 : decode cX11_tryFile 67 = .ok (.aload_n 0, 1) := by decide +kernel
theorem dX11_tryFile_68 : decode cX11_tryFile 68 = .ok (.getfield 26, 3) := by decide +kernel
theorem dX11_tryFile_71 : decode cX11_tryFile 71 = .ok (.getfield 252, 3) := by decide +kernel
theorem dX11_tryFile_74 : decode cX11_tryFile 74 = .ok (.getfield 293, 3) := by decide +kernel
theorem dX11_tryFile_77 : decode cX11_tryFile 77 = .ok (.iload_n 1, 1) := by decide +kernel
theorem dX11_tryFile_78 : decode cX11_tryFile 78 = .ok (.iload_n 2, 1) := by decide +kernel
theorem dX11_tryFile_79 : decode cX11_tryFile 79 = .ok (.ifCond .eq 8, 3) := by decide +kernel
theorem dX11_tryFile_82 : decode cX11_tryFile 82 = .ok (.bipush 108, 2) := by decide +kernel
theorem dX11_tryFile_84 : decode cX11_tryFile 84 = .ok (.goto 5, 3) := by decide +kernel
theorem dX11_tryFile_87 : decode cX11_tryFile 87 = .ok (.bipush 116, 2) := by decide +kernel
theorem dX11_tryFile_89 : decode cX11_tryFile 89 = .ok (.castore, 1) := by decide +kernel
theorem dX11_tryFile_90 : decode cX11_tryFile 90 = .ok (.iload_n 2, 1) := by decide +kernel
theorem dX11_tryFile_91 : decode cX11_tryFile 91 = .ok (.ifCond .eq 7, 3) := by decide +kernel
theorem dX11_tryFile_94 : decode cX11_tryFile 94 = .ok (.iconst 0, 1) := by decide +kernel
theorem dX11_tryFile_95 : decode cX11_tryFile 95 = .ok (.goto 4, 3) := by decide +kernel
theorem dX11_tryFile_98 : decode cX11_tryFile 98 = .ok (.iconst 1, 1) := by decide +kernel
theorem dX11_tryFile_99 : decode cX11_tryFile 99 = .ok (.ireturn, 1) := by decide +kernel
theorem dX11_tryStrike_0 : decode cX11_tryStrike 0 = .ok (.aload_n 0, 1) := by decide +kernel
theorem dX11_tryStrike_1 : decode cX11_tryStrike 1 = .ok (.getfield 26, 3) := by decide +kernel
theorem dX11_tryStrike_4 : decode cX11_tryStrike 4 = .ok (.getfield 252, 3) := by decide +kernel
theorem dX11_tryStrike_7 : decode cX11_tryStrike 7 = .ok (.iload_n 1, 1) := by decide +kernel
theorem dX11_tryStrike_8 : decode cX11_tryStrike 8 = .ok (.invokevirtual 322, 3) := by decide +kernel
theorem dX11_tryStrike_11 : decode cX11_tryStrike 11 = .ok (.ifCond .ne 5, 3) := by decide +kernel
theorem dX11_tryStrike_14 : decode cX11_tryStrike 14 = .ok (.iconst (-1), 1) := by decide +kernel
theorem dX11_tryStrike_15 : decode cX11_tryStrike 15 = .ok (.ireturn, 1) := by decide +kernel
theorem dX11_tryStrike_16 : decode cX11_tryStrike 16 = .ok (.aload_n 0, 1) := by decide +kernel
theorem dX11_tryStrike_17 : decode cX11_tryStrike 17 = .ok (.getfield 26, 3) := by decide +kernel
theorem dX11_tryStrike_20 : decode cX11_tryStrike 20 = .ok (.getfield 252, 3) := by decide +kernel
theorem dX11_tryStrike_23 : decode cX11_tryStrike 23 = .ok (.iload_n 1, 1) := by decide +kernel
theorem dX11_tryStrike_24 : decode cX11_tryStrike 24 = .ok (.invokevirtual 300, 3) := by decide +kernel
theorem dX11_tryStrike_27 : decode cX11_tryStrike 27 = .ok (.ifCond .ne 6, 3) := by decide +kernel
theorem dX11_tryStrike_30 : decode cX11_tryStrike 30 = .ok (.bipush (-3), 2) := by decide +kernel
theorem dX11_tryStrike_32 : decode cX11_tryStrike 32 = .ok (.ireturn, 1) := by decide +kernel
theorem dX11_tryStrike_33 : decode cX11_tryStrike 33 = .ok (.aload_n 0, 1) := by decide +kernel
theorem dX11_tryStrike_34 : decode cX11_tryStrike 34 = .ok (.getfield 26, 3) := by decide +kernel
theorem dX11_tryStrike_37 : decode cX11_tryStrike 37 = .ok (.getfield 252, 3) := by decide +kernel
theorem dX11_tryStrike_40 : decode cX11_tryStrike 40 = .ok (.getfield 293, 3) := by decide +kernel
theorem dX11_tryStrike_43 : decode cX11_tryStrike 43 = .ok (.iload_n 1, 1) := by decide +kernel
theorem dX11_tryStrike_44 : decode cX11_tryStrike 44 = .ok (.bipush 115, 2) := by decide +kernel
theorem dX11_tryStrike_46 : decode cX11_tryStrike 46 = .ok (.castore, 1) := by decide +kernel
theorem dX11_tryStrike_47 : decode cX11_tryStrike 47 = .ok (.aload_n 0, 1) := by decide +kernel
theorem dX11_tryStrike_48 : decode cX11_tryStrike 48 = .ok (.getfield 26, 3) := by decide +kernel
theorem dX11_tryStrike_51 : decode cX11_tryStrike 51 = .ok (.getfield 252, 3) := by decide +kernel
theorem dX11_tryStrike_54 : decode cX11_tryStrike 54 = .ok (.invokevirtual 335, 3) := by decide +kernel
theorem dX11_tryStrike_57 : decode cX11_tryStrike 57 = .ok (.ireturn, 1) := by decide +kernel
theorem dX11_needDeadline_0 : decode cX11_needDeadline 0 = .ok (.aload_n 0, 1) := by decide +kernel
theorem dX11_needDeadline_1 : decode cX11_needDeadline 1 = .ok (.getfield 26, 3) := by decide +kernel
theorem dX11_needDeadline_4 : decode cX11_needDeadline 4 = .ok (.getfield 252, 3) := by decide +kernel
theorem dX11_needDeadline_7 : decode cX11_needDeadline 7 = .ok (.iload_n 1, 1) := by decide +kernel
theorem dX11_needDeadline_8 : decode cX11_needDeadline 8 = .ok (.invokevirtual 322, 3) := by decide +kernel
theorem dX11_needDeadline_11 : decode cX11_needDeadline 11 = .ok (.ifCond .ne 14, 3) := by decide +kernel
theorem dX11_needDeadline_14 : decode cX11_needDeadline 14 = .ok (.new 132, 3) := by decide +kernel
theorem dX11_needDeadline_17 : decode cX11_needDeadline 17 = .ok (.dup, 1) := by decide +kernel
theorem dX11_needDeadline_18 : decode cX11_needDeadline 18 = .ok (.ldc_w 338, 3) := by decide +kernel
theorem dX11_needDeadline_21 : decode cX11_needDeadline 21 = .ok (.invokespecial 136, 3) := by decide +kernel
theorem dX11_needDeadline_24 : decode cX11_needDeadline 24 = .ok (.athrow, 1) := by decide +kernel
theorem dX11_needDeadline_25 : decode cX11_needDeadline 25 = .ok (.return_, 1) := by decide +kernel
theorem dX11_needSomeDay_0 : decode cX11_needSomeDay 0 = .ok (.iload_n 0, 1) := by decide +kernel
theorem dX11_needSomeDay_1 : decode cX11_needSomeDay 1 = .ok (.sipush 5000, 3) := by decide +kernel
theorem dX11_needSomeDay_4 : decode cX11_needSomeDay 4 = .ok (.if_icmp .ne 14, 3) := by decide +kernel
theorem dX11_needSomeDay_7 : decode cX11_needSomeDay 7 = .ok (.new 117, 3) := by decide +kernel
theorem dX11_needSomeDay_10 : decode cX11_needSomeDay 10 = .ok (.dup, 1) := by decide +kernel
theorem dX11_needSomeDay_11 : decode cX11_needSomeDay 11 = .ok (.ldc_w 340, 3) := by decide +kernel
theorem dX11_needSomeDay_14 : decode cX11_needSomeDay 14 = .ok (.invokespecial 121, 3) := by decide +kernel
theorem dX11_needSomeDay_17 : decode cX11_needSomeDay 17 = .ok (.athrow, 1) := by decide +kernel
theorem dX11_needSomeDay_18 : decode cX11_needSomeDay 18 = .ok (.iload_n 0, 1) := by decide +kernel
theorem dX11_needSomeDay_19 : decode cX11_needSomeDay 19 = .ok (.ireturn, 1) := by decide +kernel
theorem dX11_findOpenDues_0 : decode cX11_findOpenDues 0 = .ok (.iconst 0, 1) := by decide +kernel
theorem dX11_findOpenDues_1 : decode cX11_findOpenDues 1 = .ok (.istore_n 1, 1) := by decide +kernel
theorem dX11_findOpenDues_2 : decode cX11_findOpenDues 2 = .ok (.iload_n 1, 1) := by decide +kernel
theorem dX11_findOpenDues_3 : decode cX11_findOpenDues 3 = .ok (.aload_n 0, 1) := by decide +kernel
theorem dX11_findOpenDues_4 : decode cX11_findOpenDues 4 = .ok (.getfield 26, 3) := by decide +kernel
theorem dX11_findOpenDues_7 : decode cX11_findOpenDues 7 = .ok (.getfield 252, 3) := by decide +kernel
theorem dX11_findOpenDues_10 : decode cX11_findOpenDues 10 = .ok (.getfield 256, 3) := by decide +kernel
theorem dX11_findOpenDues_13 : decode cX11_findOpenDues 13 = .ok (.if_icmp .ge 50, 3) := by decide +kernel
theorem dX11_findOpenDues_16 : decode cX11_findOpenDues 16 = .ok (.aload_n 0, 1) := by decide +kernel
theorem dX11_findOpenDues_17 : decode cX11_findOpenDues 17 = .ok (.getfield 58, 3) := by decide +kernel
theorem dX11_findOpenDues_20 : decode cX11_findOpenDues 20 = .ok (.iload_n 1, 1) := by decide +kernel
theorem dX11_findOpenDues_21 : decode cX11_findOpenDues 21 = .ok (.aload_n 0, 1) := by decide +kernel
theorem dX11_findOpenDues_22 : decode cX11_findOpenDues 22 = .ok (.getfield 26, 3) := by decide +kernel
theorem dX11_findOpenDues_25 : decode cX11_findOpenDues 25 = .ok (.getfield 252, 3) := by decide +kernel
theorem dX11_findOpenDues_28 : decode cX11_findOpenDues 28 = .ok (.iload_n 1, 1) := by decide +kernel
theorem dX11_findOpenDues_29 : decode cX11_findOpenDues 29 = .ok (.invokevirtual 300, 3) := by decide +kernel
theorem dX11_findOpenDues_32 : decode cX11_findOpenDues 32 = .ok (.ifCond .eq 21, 3) := by decide +kernel
theorem dX11_findOpenDues_35 : decode cX11_findOpenDues 35 = .ok (.aload_n 0, 1) := by decide +kernel
theorem dX11_findOpenDues_36 : decode cX11_findOpenDues 36 = .ok (.getfield 47, 3) := by decide +kernel
theorem dX11_findOpenDues_39 : decode cX11_findOpenDues 39 = .ok (.aload_n 0, 1) := by decide +kernel
theorem dX11_findOpenDues_40 : decode cX11_findOpenDues 40 = .ok (.getfield 26, 3) := by decide +kernel
theorem dX11_findOpenDues_43 : decode cX11_findOpenDues 43 = .ok (.getfield 252, 3) := by decide +kernel
theorem dX11_findOpenDues_46 : decode cX11_findOpenDues 46 = .ok (.iload_n 1, 1) := by decide +kernel
theorem dX11_findOpenDues_47 : decode cX11_findOpenDues 47 = .ok (.invokevirtual 262, 3) := by decide +kernel
theorem dX11_findOpenDues_50 : decode cX11_findOpenDues 50 = .ok (.goto 6, 3) := by decide +kernel
theorem dX11_findOpenDues_53 : decode cX11_findOpenDues 53 = .ok (.sipush 5000, 3) := by decide +kernel
theorem dX11_findOpenDues_56 : decode cX11_findOpenDues 56 = .ok (.iastore, 1) := by decide +kernel
theorem dX11_findOpenDues_57 : decode cX11_findOpenDues 57 = .ok (.iinc 1 1, 3) := by decide +kernel
theorem dX11_findOpenDues_60 : decode cX11_findOpenDues 60 = .ok (.goto (-58), 3) := by decide +kernel
theorem dX11_findOpenDues_63 : decode cX11_findOpenDues 63 = .ok (.return_, 1) := by decide +kernel
theorem dX11_countOpenAhead_0 : decode cX11_countOpenAhead 0 = .ok (.iconst 0, 1) := by decide +kernel
theorem dX11_countOpenAhead_1 : decode cX11_countOpenAhead 1 = .ok (.istore_n 2, 1) := by decide +kernel
theorem dX11_countOpenAhead_2 : decode cX11_countOpenAhead 2 = .ok (.iconst 0, 1) := by decide +kernel
theorem dX11_countOpenAhead_3 : decode cX11_countOpenAhead 3 = .ok (.istore_n 3, 1) := by decide +kernel
theorem dX11_countOpenAhead_4 : decode cX11_countOpenAhead 4 = .ok (.iload_n 3, 1) := by decide +kernel
theorem dX11_countOpenAhead_5 : decode cX11_countOpenAhead 5 = .ok (.aload_n 0, 1) := by decide +kernel
theorem dX11_countOpenAhead_6 : decode cX11_countOpenAhead 6 = .ok (.getfield 26, 3) := by decide +kernel
theorem dX11_countOpenAhead_9 : decode cX11_countOpenAhead 9 = .ok (.getfield 252, 3) := by decide +kernel
theorem dX11_countOpenAhead_12 : decode cX11_countOpenAhead 12 = .ok (.getfield 256, 3) := by decide +kernel
theorem dX11_countOpenAhead_15 : decode cX11_countOpenAhead 15 = .ok (.if_icmp .ge 73, 3) := by decide +kernel
theorem dX11_countOpenAhead_18 : decode cX11_countOpenAhead 18 = .ok (.aload_n 0, 1) := by decide +kernel
theorem dX11_countOpenAhead_19 : decode cX11_countOpenAhead 19 = .ok (.getfield 58, 3) := by decide +kernel
theorem dX11_countOpenAhead_22 : decode cX11_countOpenAhead 22 = .ok (.iload_n 3, 1) := by decide +kernel
theorem dX11_countOpenAhead_23 : decode cX11_countOpenAhead 23 = .ok (.iaload, 1) := by decide +kernel
theorem dX11_countOpenAhead_24 : decode cX11_countOpenAhead 24 = .ok (.aload_n 0, 1) := by decide +kernel
theorem dX11_countOpenAhead_25 : decode cX11_countOpenAhead 25 = .ok (.getfield 58, 3) := by decide +kernel
theorem dX11_countOpenAhead_28 : decode cX11_countOpenAhead 28 = .ok (.iload_n 1, 1) := by decide +kernel
theorem dX11_countOpenAhead_29 : decode cX11_countOpenAhead 29 = .ok (.iaload, 1) := by decide +kernel
theorem dX11_countOpenAhead_30 : decode cX11_countOpenAhead 30 = .ok (.if_icmp .lt 23, 3) := by decide +kernel
theorem dX11_countOpenAhead_33 : decode cX11_countOpenAhead 33 = .ok (.aload_n 0, 1) := by decide +kernel
theorem dX11_countOpenAhead_34 : decode cX11_countOpenAhead 34 = .ok (.getfield 58, 3) := by decide +kernel
theorem dX11_countOpenAhead_37 : decode cX11_countOpenAhead 37 = .ok (.iload_n 3, 1) := by decide +kernel
theorem dX11_countOpenAhead_38 : decode cX11_countOpenAhead 38 = .ok (.iaload, 1) := by decide +kernel
theorem dX11_countOpenAhead_39 : decode cX11_countOpenAhead 39 = .ok (.aload_n 0, 1) := by decide +kernel
theorem dX11_countOpenAhead_40 : decode cX11_countOpenAhead 40 = .ok (.getfield 58, 3) := by decide +kernel
theorem dX11_countOpenAhead_43 : decode cX11_countOpenAhead 43 = .ok (.iload_n 1, 1) := by decide +kernel
theorem dX11_countOpenAhead_44 : decode cX11_countOpenAhead 44 = .ok (.iaload, 1) := by decide +kernel
theorem dX11_countOpenAhead_45 : decode cX11_countOpenAhead 45 = .ok (.if_icmp .ne 12, 3) := by decide +kernel
theorem dX11_countOpenAhead_48 : decode cX11_countOpenAhead 48 = .ok (.iload_n 3, 1) := by decide +kernel
theorem dX11_countOpenAhead_49 : decode cX11_countOpenAhead 49 = .ok (.iload_n 1, 1) := by decide +kernel
theorem dX11_countOpenAhead_50 : decode cX11_countOpenAhead 50 = .ok (.if_icmp .ge 7, 3) := by decide +kernel
theorem dX11_countOpenAhead_53 : decode cX11_countOpenAhead 53 = .ok (.iconst 1, 1) := by decide +kernel
theorem dX11_countOpenAhead_54 : decode cX11_countOpenAhead 54 = .ok (.goto 4, 3) := by decide +kernel
theorem dX11_countOpenAhead_57 : decode cX11_countOpenAhead 57 = .ok (.iconst 0, 1) := by decide +kernel
theorem dX11_countOpenAhead_58 : decode cX11_countOpenAhead 58 = .ok (.istore 4, 2) := by decide +kernel
theorem dX11_countOpenAhead_60 : decode cX11_countOpenAhead 60 = .ok (.aload_n 0, 1) := by decide +kernel
theorem dX11_countOpenAhead_61 : decode cX11_countOpenAhead 61 = .ok (.getfield 26, 3) := by decide +kernel
theorem dX11_countOpenAhead_64 : decode cX11_countOpenAhead 64 = .ok (.getfield 252, 3) := by decide +kernel
theorem dX11_countOpenAhead_67 : decode cX11_countOpenAhead 67 = .ok (.iload_n 3, 1) := by decide +kernel
theorem dX11_countOpenAhead_68 : decode cX11_countOpenAhead 68 = .ok (.invokevirtual 300, 3) := by decide +kernel
theorem dX11_countOpenAhead_71 : decode cX11_countOpenAhead 71 = .ok (.ifCond .eq 11, 3) := by decide +kernel
theorem dX11_countOpenAhead_74 : decode cX11_countOpenAhead 74 = .ok (.iload 4, 2) := by decide +kernel
theorem dX11_countOpenAhead_76 : decode cX11_countOpenAhead 76 = .ok (.ifCond .eq 6, 3) := by decide +kernel
theorem dX11_countOpenAhead_79 : decode cX11_countOpenAhead 79 = .ok (.iinc 2 1, 3) := by decide +kernel
theorem dX11_countOpenAhead_82 : decode cX11_countOpenAhead 82 = .ok (.iinc 3 1, 3) := by decide +kernel
theorem dX11_countOpenAhead_85 : decode cX11_countOpenAhead 85 = .ok (.goto (-81), 3) := by decide +kernel
theorem dX11_countOpenAhead_88 : decode cX11_countOpenAhead 88 = .ok (.iload_n 2, 1) := by decide +kernel
theorem dX11_countOpenAhead_89 : decode cX11_countOpenAhead 89 = .ok (.ireturn, 1) := by decide +kernel
theorem dX11_stayParty_0 : decode cX11_stayParty 0 = .ok (.aload_n 0, 1) := by decide +kernel
theorem dX11_stayParty_1 : decode cX11_stayParty 1 = .ok (.invokevirtual 89, 3) := by decide +kernel
theorem dX11_stayParty_4 : decode cX11_stayParty 4 = .ok (.aload_n 0, 1) := by decide +kernel
theorem dX11_stayParty_5 : decode cX11_stayParty 5 = .ok (.aload_n 0, 1) := by decide +kernel
theorem dX11_stayParty_6 : decode cX11_stayParty 6 = .ok (.iload_n 1, 1) := by decide +kernel
theorem dX11_stayParty_7 : decode cX11_stayParty 7 = .ok (.iload_n 2, 1) := by decide +kernel
theorem dX11_stayParty_8 : decode cX11_stayParty 8 = .ok (.invokevirtual 342, 3) := by decide +kernel
theorem dX11_stayParty_11 : decode cX11_stayParty 11 = .ok (.invokevirtual 96, 3) := by decide +kernel
theorem dX11_stayParty_14 : decode cX11_stayParty 14 = .ok (.ireturn, 1) := by decide +kernel
theorem dX11_stayAll_0 : decode cX11_stayAll 0 = .ok (.aload_n 0, 1) := by decide +kernel
theorem dX11_stayAll_1 : decode cX11_stayAll 1 = .ok (.invokevirtual 89, 3) := by decide +kernel
theorem dX11_stayAll_4 : decode cX11_stayAll 4 = .ok (.aload_n 0, 1) := by decide +kernel
theorem dX11_stayAll_5 : decode cX11_stayAll 5 = .ok (.aload_n 0, 1) := by decide +kernel
theorem dX11_stayAll_6 : decode cX11_stayAll 6 = .ok (.iconst (-1), 1) := by decide +kernel
theorem dX11_stayAll_7 : decode cX11_stayAll 7 = .ok (.iload_n 1, 1) := by decide +kernel
theorem dX11_stayAll_8 : decode cX11_stayAll 8 = .ok (.invokevirtual 345, 3) := by decide +kernel
theorem dX11_stayAll_11 : decode cX11_stayAll 11 = .ok (.invokevirtual 96, 3) := by decide +kernel
theorem dX11_stayAll_14 : decode cX11_stayAll 14 = .ok (.ireturn, 1) := by decide +kernel
theorem dX11_lift_0 : decode cX11_lift 0 = .ok (.aload_n 0, 1) := by decide +kernel
theorem dX11_lift_1 : decode cX11_lift 1 = .ok (.invokevirtual 89, 3) := by decide +kernel
theorem dX11_lift_4 : decode cX11_lift 4 = .ok (.aload_n 0, 1) := by decide +kernel
theorem dX11_lift_5 : decode cX11_lift 5 = .ok (.aload_n 0, 1) := by decide +kernel
theorem dX11_lift_6 : decode cX11_lift 6 = .ok (.iload_n 1, 1) := by decide +kernel
theorem dX11_lift_7 : decode cX11_lift 7 = .ok (.invokevirtual 348, 3) := by decide +kernel
theorem dX11_lift_10 : decode cX11_lift 10 = .ok (.invokevirtual 96, 3) := by decide +kernel
theorem dX11_lift_13 : decode cX11_lift 13 = .ok (.ireturn, 1) := by decide +kernel
theorem dX11_staysInForce_0 : decode cX11_staysInForce 0 = .ok (.aload_n 0, 1) := by decide +kernel
theorem dX11_staysInForce_1 : decode cX11_staysInForce 1 = .ok (.getfield 26, 3) := by decide +kernel
theorem dX11_staysInForce_4 : decode cX11_staysInForce 4 = .ok (.getfield 40, 3) := by decide +kernel
theorem dX11_staysInForce_7 : decode cX11_staysInForce 7 = .ok (.invokevirtual 351, 3) := by decide +kernel
theorem dX11_staysInForce_10 : decode cX11_staysInForce 10 = .ok (.ireturn, 1) := by decide +kernel
theorem dX11_isStopped_0 : decode cX11_isStopped 0 = .ok (.aload_n 0, 1) := by decide +kernel
theorem dX11_isStopped_1 : decode cX11_isStopped 1 = .ok (.iload_n 1, 1) := by decide +kernel
theorem dX11_isStopped_2 : decode cX11_isStopped 2 = .ok (.invokevirtual 259, 3) := by decide +kernel
theorem dX11_isStopped_5 : decode cX11_isStopped 5 = .ok (.iload_n 2, 1) := by decide +kernel
theorem dX11_isStopped_6 : decode cX11_isStopped 6 = .ok (.invokestatic 160, 3) := by decide +kernel
theorem dX11_isStopped_9 : decode cX11_isStopped 9 = .ok (.aload_n 0, 1) := by decide +kernel
theorem dX11_isStopped_10 : decode cX11_isStopped 10 = .ok (.getfield 47, 3) := by decide +kernel
theorem dX11_isStopped_13 : decode cX11_isStopped 13 = .ok (.aload_n 0, 1) := by decide +kernel
theorem dX11_isStopped_14 : decode cX11_isStopped 14 = .ok (.getfield 26, 3) := by decide +kernel
theorem dX11_isStopped_17 : decode cX11_isStopped 17 = .ok (.getfield 252, 3) := by decide +kernel
theorem dX11_isStopped_20 : decode cX11_isStopped 20 = .ok (.iload_n 1, 1) := by decide +kernel
theorem dX11_isStopped_21 : decode cX11_isStopped 21 = .ok (.iload_n 2, 1) := by decide +kernel
theorem dX11_isStopped_22 : decode cX11_isStopped 22 = .ok (.iload_n 2, 1) := by decide +kernel
theorem dX11_isStopped_23 : decode cX11_isStopped 23 = .ok (.invokevirtual 356, 3) := by decide +kernel
theorem dX11_isStopped_26 : decode cX11_isStopped 26 = .ok (.iconst 1, 1) := by decide +kernel
theorem dX11_isStopped_27 : decode cX11_isStopped 27 = .ok (.if_icmp .ne 7, 3) := by decide +kernel
theorem dX11_isStopped_30 : decode cX11_isStopped 30 = .ok (.iconst 1, 1) := by decide +kernel
theorem dX11_isStopped_31 : decode cX11_isStopped 31 = .ok (.goto 4, 3) := by decide +kernel
theorem dX11_isStopped_34 : decode cX11_isStopped 34 = .ok (.iconst 0, 1) := by decide +kernel
theorem dX11_isStopped_35 : decode cX11_isStopped 35 = .ok (.ireturn, 1) := by decide +kernel
theorem dX11_stoppedDays_0 : decode cX11_stoppedDays 0 = .ok (.aload_n 0, 1) := by decide +kernel
theorem dX11_stoppedDays_1 : decode cX11_stoppedDays 1 = .ok (.iload_n 1, 1) := by decide +kernel
theorem dX11_stoppedDays_2 : decode cX11_stoppedDays 2 = .ok (.invokevirtual 259, 3) := by decide +kernel

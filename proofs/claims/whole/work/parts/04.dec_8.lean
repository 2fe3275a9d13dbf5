theorem dX8_init_0 : decode cX8_init 0 = .ok (.aload_n 0, 1) := by decide +kernel
theorem dX8_init_1 : decode cX8_init 1 = .ok (.invokespecial 1, 3) := by decide +kernel
theorem dX8_init_4 : decode cX8_init 4 = .ok (.aload_n 0, 1) := by decide +kernel
theorem dX8_init_5 : decode cX8_init 5 = .ok (.sipush 1372, 3) := by decide +kernel
theorem dX8_init_8 : decode cX8_init 8 = .ok (.newarray .int, 2) := by decide +kernel
theorem dX8_init_10 : decode cX8_init 10 = .ok (.putfield 7, 3) := by decide +kernel
theorem dX8_init_13 : decode cX8_init 13 = .ok (.aload_n 0, 1) := by decide +kernel
theorem dX8_init_14 : decode cX8_init 14 = .ok (.iconst 2, 1) := by decide +kernel
theorem dX8_init_15 : decode cX8_init 15 = .ok (.newarray .boolean, 2) := by decide +kernel
theorem dX8_init_17 : decode cX8_init 17 = .ok (.putfield 13, 3) := by decide +kernel
theorem dX8_init_20 : decode cX8_init 20 = .ok (.aload_n 0, 1) := by decide +kernel
theorem dX8_init_21 : decode cX8_init 21 = .ok (.bipush 8, 2) := by decide +kernel
theorem dX8_init_23 : decode cX8_init 23 = .ok (.newarray .int, 2) := by decide +kernel
theorem dX8_init_25 : decode cX8_init 25 = .ok (.putfield 17, 3) := by decide +kernel
theorem dX8_init_28 : decode cX8_init 28 = .ok (.aload_n 0, 1) := by decide +kernel
theorem dX8_init_29 : decode cX8_init 29 = .ok (.bipush 8, 2) := by decide +kernel
theorem dX8_init_31 : decode cX8_init 31 = .ok (.newarray .int, 2) := by decide +kernel
theorem dX8_init_33 : decode cX8_init 33 = .ok (.dup, 1) := by decide +kernel
theorem dX8_init_34 : decode cX8_init 34 = .ok (.iconst 0, 1) := by decide +kernel
theorem dX8_init_35 : decode cX8_init 35 = .ok (.iconst (-1), 1) := by decide +kernel
theorem dX8_init_36 : decode cX8_init 36 = .ok (.iastore, 1) := by decide +kernel
theorem dX8_init_37 : decode cX8_init 37 = .ok (.dup, 1) := by decide +kernel
theorem dX8_init_38 : decode cX8_init 38 = .ok (.iconst 1, 1) := by decide +kernel
theorem dX8_init_39 : decode cX8_init 39 = .ok (.iconst (-1), 1) := by decide +kernel
theorem dX8_init_40 : decode cX8_init 40 = .ok (.iastore, 1) := by decide +kernel
theorem dX8_init_41 : decode cX8_init 41 = .ok (.dup, 1) := by decide +kernel
theorem dX8_init_42 : decode cX8_init 42 = .ok (.iconst 2, 1) := by decide +kernel
theorem dX8_init_43 : decode cX8_init 43 = .ok (.iconst (-1), 1) := by decide +kernel
theorem dX8_init_44 : decode cX8_init 44 = .ok (.iastore, 1) := by decide +kernel
theorem dX8_init_45 : decode cX8_init 45 = .ok (.dup, 1) := by decide +kernel
theorem dX8_init_46 : decode cX8_init 46 = .ok (.iconst 3, 1) := by decide +kernel
theorem dX8_init_47 : decode cX8_init 47 = .ok (.iconst (-1), 1) := by decide +kernel
theorem dX8_init_48 : decode cX8_init 48 = .ok (.iastore, 1) := by decide +kernel
theorem dX8_init_49 : decode cX8_init 49 = .ok (.dup, 1) := by decide +kernel
theorem dX8_init_50 : decode cX8_init 50 = .ok (.iconst 4, 1) := by decide +kernel
theorem dX8_init_51 : decode cX8_init 51 = .ok (.iconst (-1), 1) := by decide +kernel
theorem dX8_init_52 : decode cX8_init 52 = .ok (.iastore, 1) := by decide +kernel
theorem dX8_init_53 : decode cX8_init 53 = .ok (.dup, 1) := by decide +kernel
theorem dX8_init_54 : decode cX8_init 54 = .ok (.iconst 5, 1) := by decide +kernel
theorem dX8_init_55 : decode cX8_init 55 = .ok (.iconst (-1), 1) := by decide +kernel
theorem dX8_init_56 : decode cX8_init 56 = .ok (.iastore, 1) := by decide +kernel
theorem dX8_init_57 : decode cX8_init 57 = .ok (.dup, 1) := by decide +kernel
theorem dX8_init_58 : decode cX8_init 58 = .ok (.bipush 6, 2) := by decide +kernel
theorem dX8_init_60 : decode cX8_init 60 = .ok (.iconst (-1), 1) := by decide +kernel
theorem dX8_init_61 : decode cX8_init 61 = .ok (.iastore, 1) := by decide +kernel
theorem dX8_init_62 : decode cX8_init 62 = .ok (.dup, 1) := by decide +kernel
theorem dX8_init_63 : decode cX8_init 63 = .ok (.bipush 7, 2) := by decide +kernel
theorem dX8_init_65 : decode cX8_init 65 = .ok (.iconst (-1), 1) := by decide +kernel
theorem dX8_init_66 : decode cX8_init 66 = .ok (.iastore, 1) := by decide +kernel
theorem dX8_init_67 : decode cX8_init 67 = .ok (.putfield 20, 3) := by decide +kernel
theorem dX8_init_70 : decode cX8_init 70 = .ok (.aload_n 0, 1) := by decide +kernel
theorem dX8_init_71 : decode cX8_init 71 = .ok (.sipush 320, 3) := by decide +kernel
theorem dX8_init_74 : decode cX8_init 74 = .ok (.newarray .int, 2) := by decide +kernel
theorem dX8_init_76 : decode cX8_init 76 = .ok (.putfield 23, 3) := by decide +kernel
theorem dX8_init_79 : decode cX8_init 79 = .ok (.aload_n 0, 1) := by decide +kernel
theorem dX8_init_80 : decode cX8_init 80 = .ok (.bipush 120, 2) := by decide +kernel
theorem dX8_init_82 : decode cX8_init 82 = .ok (.newarray .int, 2) := by decide +kernel
theorem dX8_init_84 : decode cX8_init 84 = .ok (.putfield 26, 3) := by decide +kernel
theorem dX8_init_87 : decode cX8_init 87 = .ok (.aload_n 0, 1) := by decide +kernel
theorem dX8_init_88 : decode cX8_init 88 = .ok (.bipush 16, 2) := by decide +kernel
theorem dX8_init_90 : decode cX8_init 90 = .ok (.newarray .int, 2) := by decide +kernel
theorem dX8_init_92 : decode cX8_init 92 = .ok (.putfield 29, 3) := by decide +kernel
theorem dX8_init_95 : decode cX8_init 95 = .ok (.aload_n 0, 1) := by decide +kernel
theorem dX8_init_96 : decode cX8_init 96 = .ok (.bipush 7, 2) := by decide +kernel
theorem dX8_init_98 : decode cX8_init 98 = .ok (.newarray .int, 2) := by decide +kernel
theorem dX8_init_100 : decode cX8_init 100 = .ok (.putfield 32, 3) := by decide +kernel
theorem dX8_init_103 : decode cX8_init 103 = .ok (.aload_n 0, 1) := by decide +kernel
theorem dX8_init_104 : decode cX8_init 104 = .ok (.bipush 7, 2) := by decide +kernel
theorem dX8_init_106 : decode cX8_init 106 = .ok (.newarray .int, 2) := by decide +kernel
theorem dX8_init_108 : decode cX8_init 108 = .ok (.putfield 35, 3) := by decide +kernel
theorem dX8_init_111 : decode cX8_init 111 = .ok (.iconst 0, 1) := by decide +kernel
theorem dX8_init_112 : decode cX8_init 112 = .ok (.istore_n 1, 1) := by decide +kernel
theorem dX8_init_113 : decode cX8_init 113 = .ok (.iload_n 1, 1) := by decide +kernel
theorem dX8_init_114 : decode cX8_init 114 = .ok (.bipush 7, 2) := by decide +kernel
theorem dX8_init_116 : decode cX8_init 116 = .ok (.if_icmp .ge 19, 3) := by decide +kernel
theorem dX8_init_119 : decode cX8_init 119 = .ok (.aload_n 0, 1) := by decide +kernel
theorem dX8_init_120 : decode cX8_init 120 = .ok (.getfield 7, 3) := by decide +kernel
theorem dX8_init_123 : decode cX8_init 123 = .ok (.bipush 22, 2) := by decide +kernel
theorem dX8_init_125 : decode cX8_init 125 = .ok (.iload_n 1, 1) := by decide +kernel
theorem dX8_init_126 : decode cX8_init 126 = .ok (.iadd, 1) := by decide +kernel
theorem dX8_init_127 : decode cX8_init 127 = .ok (.iconst (-1), 1) := by decide +kernel
theorem dX8_init_128 : decode cX8_init 128 = .ok (.iastore, 1) := by decide +kernel
theorem dX8_init_129 : decode cX8_init 129 = .ok (.iinc 1 1, 3) := by decide +kernel
theorem dX8_init_132 : decode cX8_init 132 = .ok (.goto (-19), 3) := by decide +kernel
theorem dX8_init_135 : decode cX8_init 135 = .ok (.return_, 1) := by decide +kernel
theorem dX8_in_0 : decode cX8_in 0 = .ok (.lload_n 0, 1) := by decide +kernel
theorem dX8_in_1 : decode cX8_in 1 = .ok (.lload_n 2, 1) := by decide +kernel
theorem dX8_in_2 : decode cX8_in 2 = .ok (.lcmp, 1) := by decide +kernel
theorem dX8_in_3 : decode cX8_in 3 = .ok (.ifCond .lt 14, 3) := by decide +kernel
theorem dX8_in_6 : decode cX8_in 6 = .ok (.lload_n 0, 1) := by decide +kernel
theorem dX8_in_7 : decode cX8_in 7 = .ok (.lload 4, 2) := by decide +kernel
theorem dX8_in_9 : decode cX8_in 9 = .ok (.lcmp, 1) := by decide +kernel
theorem dX8_in_10 : decode cX8_in 10 = .ok (.ifCond .gt 7, 3) := by decide +kernel
theorem dX8_in_13 : decode cX8_in 13 = .ok (.iconst 1, 1) := by decide +kernel
theorem dX8_in_14 : decode cX8_in 14 = .ok (.goto 4, 3) := by decide +kernel
theorem dX8_in_17 : decode cX8_in 17 = .ok (.iconst 0, 1) := by decide +kernel
theorem dX8_in_18 : decode cX8_in 18 = .ok (.ireturn, 1) := by decide +kernel
theorem dX8_has_0 : decode cX8_has 0 = .ok (.iload_n 0, 1) := by decide +kernel
theorem dX8_has_1 : decode cX8_has 1 = .ok (.iload_n 1, 1) := by decide +kernel
theorem dX8_has_2 : decode cX8_has 2 = .ok (.ishr, 1) := by decide +kernel
theorem dX8_has_3 : decode cX8_has 3 = .ok (.iconst 1, 1) := by decide +kernel
theorem dX8_has_4 : decode cX8_has 4 = .ok (.iand, 1) := by decide +kernel
theorem dX8_has_5 : decode cX8_has 5 = .ok (.iconst 1, 1) := by decide +kernel
theorem dX8_has_6 : decode cX8_has 6 = .ok (.if_icmp .ne 7, 3) := by decide +kernel
theorem dX8_has_9 : decode cX8_has 9 = .ok (.iconst 1, 1) := by decide +kernel
theorem dX8_has_10 : decode cX8_has 10 = .ok (.goto 4, 3) := by decide +kernel
theorem dX8_has_13 : decode cX8_has 13 = .ok (.iconst 0, 1) := by decide +kernel
theorem dX8_has_14 : decode cX8_has 14 = .ok (.ireturn, 1) := by decide +kernel
theorem dX8_bits_0 : decode cX8_bits 0 = .ok (.iconst 0, 1) := by decide +kernel
theorem dX8_bits_1 : decode cX8_bits 1 = .ok (.istore_n 1, 1) := by decide +kernel
theorem dX8_bits_2 : decode cX8_bits 2 = .ok (.iconst 0, 1) := by decide +kernel
theorem dX8_bits_3 : decode cX8_bits 3 = .ok (.istore_n 2, 1) := by decide +kernel
theorem dX8_bits_4 : decode cX8_bits 4 = .ok (.iload_n 2, 1) := by decide +kernel
theorem dX8_bits_5 : decode cX8_bits 5 = .ok (.bipush 7, 2) := by decide +kernel
theorem dX8_bits_7 : decode cX8_bits 7 = .ok (.if_icmp .ge 17, 3) := by decide +kernel
theorem dX8_bits_10 : decode cX8_bits 10 = .ok (.iload_n 1, 1) := by decide +kernel
theorem dX8_bits_11 : decode cX8_bits 11 = .ok (.iload_n 0, 1) := by decide +kernel
theorem dX8_bits_12 : decode cX8_bits 12 = .ok (.iload_n 2, 1) := by decide +kernel
theorem dX8_bits_13 : decode cX8_bits 13 = .ok (.ishr, 1) := by decide +kernel
theorem dX8_bits_14 : decode cX8_bits 14 = .ok (.iconst 1, 1) := by decide +kernel
theorem dX8_bits_15 : decode cX8_bits 15 = .ok (.iand, 1) := by decide +kernel
theorem dX8_bits_16 : decode cX8_bits 16 = .ok (.iadd, 1) := by decide +kernel
theorem dX8_bits_17 : decode cX8_bits 17 = .ok (.istore_n 1, 1) := by decide +kernel
theorem dX8_bits_18 : decode cX8_bits 18 = .ok (.iinc 2 1, 3) := by decide +kernel
theorem dX8_bits_21 : decode cX8_bits 21 = .ok (.goto (-17), 3) := by decide +kernel
theorem dX8_bits_24 : decode cX8_bits 24 = .ok (.iload_n 1, 1) := by decide +kernel
theorem dX8_bits_25 : decode cX8_bits 25 = .ok (.ireturn, 1) := by decide +kernel
theorem dX8_find_0 : decode cX8_find 0 = .ok (.aload_n 0, 1) := by decide +kernel
theorem dX8_find_1 : decode cX8_find 1 = .ok (.iload_n 1, 1) := by decide +kernel
theorem dX8_find_2 : decode cX8_find 2 = .ok (.putfield 38, 3) := by decide +kernel
theorem dX8_find_5 : decode cX8_find 5 = .ok (.ldc 42, 2) := by decide +kernel
theorem dX8_find_7 : decode cX8_find 7 = .ok (.iload_n 1, 1) := by decide +kernel
theorem dX8_find_8 : decode cX8_find 8 = .ok (.isub, 1) := by decide +kernel
theorem dX8_find_9 : decode cX8_find 9 = .ok (.ireturn, 1) := by decide +kernel
theorem dX8_well_0 : decode cX8_well 0 = .ok (.aload_n 0, 1) := by decide +kernel
theorem dX8_well_1 : decode cX8_well 1 = .ok (.iconst 0, 1) := by decide +kernel
theorem dX8_well_2 : decode cX8_well 2 = .ok (.putfield 38, 3) := by decide +kernel
theorem dX8_well_5 : decode cX8_well 5 = .ok (.iload_n 1, 1) := by decide +kernel
theorem dX8_well_6 : decode cX8_well 6 = .ok (.ireturn, 1) := by decide +kernel
theorem dX8_isRow_0 : decode cX8_isRow 0 = .ok (.iload_n 0, 1) := by decide +kernel
theorem dX8_isRow_1 : decode cX8_isRow 1 = .ok (.i2l, 1) := by decide +kernel
theorem dX8_isRow_2 : decode cX8_isRow 2 = .ok (.lconst 0, 1) := by decide +kernel
theorem dX8_isRow_3 : decode cX8_isRow 3 = .ok (.ldc2_w 43, 3) := by decide +kernel
theorem dX8_isRow_6 : decode cX8_isRow 6 = .ok (.invokestatic 45, 3) := by decide +kernel
theorem dX8_isRow_9 : decode cX8_isRow 9 = .ok (.ireturn, 1) := by decide +kernel
theorem dX8_row_0 : decode cX8_row 0 = .ok (.iload_n 1, 1) := by decide +kernel
theorem dX8_row_1 : decode cX8_row 1 = .ok (.invokestatic 49, 3) := by decide +kernel
theorem dX8_row_4 : decode cX8_row 4 = .ok (.ifCond .eq 21, 3) := by decide +kernel
theorem dX8_row_7 : decode cX8_row 7 = .ok (.iload_n 2, 1) := by decide +kernel
theorem dX8_row_8 : decode cX8_row 8 = .ok (.i2l, 1) := by decide +kernel
theorem dX8_row_9 : decode cX8_row 9 = .ok (.lconst 0, 1) := by decide +kernel
theorem dX8_row_10 : decode cX8_row 10 = .ok (.ldc2_w 53, 3) := by decide +kernel
theorem dX8_row_13 : decode cX8_row 13 = .ok (.invokestatic 45, 3) := by decide +kernel
theorem dX8_row_16 : decode cX8_row 16 = .ok (.ifCond .eq 9, 3) := by decide +kernel
theorem dX8_row_19 : decode cX8_row 19 = .ok (.iload_n 3, 1) := by decide +kernel
theorem dX8_row_20 : decode cX8_row 20 = .ok (.bipush 40, 2) := by decide +kernel
theorem dX8_row_22 : decode cX8_row 22 = .ok (.if_icmp .le 6, 3) := by decide +kernel
theorem dX8_row_25 : decode cX8_row 25 = .ok (.ldc 55, 2) := by decide +kernel
theorem dX8_row_27 : decode cX8_row 27 = .ok (.ireturn, 1) := by decide +kernel
theorem dX8_row_28 : decode cX8_row 28 = .ok (.iload_n 3, 1) := by decide +kernel
theorem dX8_row_29 : decode cX8_row 29 = .ok (.ifCond .ge 9, 3) := by decide +kernel
theorem dX8_row_32 : decode cX8_row 32 = .ok (.aload_n 0, 1) := by decide +kernel
theorem dX8_row_33 : decode cX8_row 33 = .ok (.iconst 4, 1) := by decide +kernel
theorem dX8_row_34 : decode cX8_row 34 = .ok (.invokevirtual 56, 3) := by decide +kernel
theorem dX8_row_37 : decode cX8_row 37 = .ok (.ireturn, 1) := by decide +kernel
theorem dX8_row_38 : decode cX8_row 38 = .ok (.aload_n 0, 1) := by decide +kernel
theorem dX8_row_39 : decode cX8_row 39 = .ok (.getfield 17, 3) := by decide +kernel
theorem dX8_row_42 : decode cX8_row 42 = .ok (.iload_n 1, 1) := by decide +kernel
theorem dX8_row_43 : decode cX8_row 43 = .ok (.iload_n 2, 1) := by decide +kernel
theorem dX8_row_44 : decode cX8_row 44 = .ok (.iastore, 1) := by decide +kernel
theorem dX8_row_45 : decode cX8_row 45 = .ok (.aload_n 0, 1) := by decide +kernel
theorem dX8_row_46 : decode cX8_row 46 = .ok (.getfield 20, 3) := by decide +kernel
theorem dX8_row_49 : decode cX8_row 49 = .ok (.iload_n 1, 1) := by decide +kernel
theorem dX8_row_50 : decode cX8_row 50 = .ok (.iload_n 3, 1) := by decide +kernel
theorem dX8_row_51 : decode cX8_row 51 = .ok (.iastore, 1) := by decide +kernel
theorem dX8_row_52 : decode cX8_row 52 = .ok (.iconst 0, 1) := by decide +kernel
theorem dX8_row_53 : decode cX8_row 53 = .ok (.istore 4, 2) := by decide +kernel
theorem dX8_row_55 : decode cX8_row 55 = .ok (.iload 4, 2) := by decide +kernel
theorem dX8_row_57 : decode cX8_row 57 = .ok (.bipush 40, 2) := by decide +kernel
theorem dX8_row_59 : decode cX8_row 59 = .ok (.if_icmp .ge 22, 3) := by decide +kernel
theorem dX8_row_62 : decode cX8_row 62 = .ok (.aload_n 0, 1) := by decide +kernel
theorem dX8_row_63 : decode cX8_row 63 = .ok (.getfield 23, 3) := by decide +kernel
theorem dX8_row_66 : decode cX8_row 66 = .ok (.bipush 40, 2) := by decide +kernel
theorem dX8_row_68 : decode cX8_row 68 = .ok (.iload_n 1, 1) := by decide +kernel
theorem dX8_row_69 : decode cX8_row 69 = .ok (.imul, 1) := by decide +kernel
theorem dX8_row_70 : decode cX8_row 70 = .ok (.iload 4, 2) := by decide +kernel
theorem dX8_row_72 : decode cX8_row 72 = .ok (.iadd, 1) := by decide +kernel
theorem dX8_row_73 : decode cX8_row 73 = .ok (.iconst 0, 1) := by decide +kernel
theorem dX8_row_74 : decode cX8_row 74 = .ok (.iastore, 1) := by decide +kernel
theorem dX8_row_75 : decode cX8_row 75 = .ok (.iinc 4 1, 3) := by decide +kernel
theorem dX8_row_78 : decode cX8_row 78 = .ok (.goto (-23), 3) := by decide +kernel
theorem dX8_row_81 : decode cX8_row 81 = .ok (.aload_n 0, 1) := by decide +kernel
theorem dX8_row_82 : decode cX8_row 82 = .ok (.iload_n 3, 1) := by decide +kernel
theorem dX8_row_83 : decode cX8_row 83 = .ok (.invokevirtual 60, 3) := by decide +kernel
theorem dX8_row_86 : decode cX8_row 86 = .ok (.ireturn, 1) := by decide +kernel
theorem dX8_narrow_0 : decode cX8_narrow 0 = .ok (.iload_n 1, 1) := by decide +kernel
theorem dX8_narrow_1 : decode cX8_narrow 1 = .ok (.ifCond .ne 8, 3) := by decide +kernel
theorem dX8_narrow_4 : decode cX8_narrow 4 = .ok (.iload_n 0, 1) := by decide +kernel
theorem dX8_narrow_5 : decode cX8_narrow 5 = .ok (.i2b, 1) := by decide +kernel
theorem dX8_narrow_6 : decode cX8_narrow 6 = .ok (.goto 14, 3) := by decide +kernel
theorem dX8_narrow_9 : decode cX8_narrow 9 = .ok (.iload_n 1, 1) := by decide +kernel
theorem dX8_narrow_10 : decode cX8_narrow 10 = .ok (.iconst 1, 1) := by decide +kernel
theorem dX8_narrow_11 : decode cX8_narrow 11 = .ok (.if_icmp .ne 8, 3) := by decide +kernel
theorem dX8_narrow_14 : decode cX8_narrow 14 = .ok (.iload_n 0, 1) := by decide +kernel
theorem dX8_narrow_15 : decode cX8_narrow 15 = .ok (.i2s, 1) := by decide +kernel
theorem dX8_narrow_16 : decode cX8_narrow 16 = .ok (.goto 4, 3) := by decide +kernel
theorem dX8_narrow_19 : decode cX8_narrow 19 = .ok (.iload_n 0, 1) := by decide +kernel
theorem dX8_narrow_20 : decode cX8_narrow 20 = .ok (.ireturn, 1) := by decide +kernel
theorem dX8_set_0 : decode cX8_set 0 = .ok (.iload_n 1, 1) := by decide +kernel
theorem dX8_set_1 : decode cX8_set 1 = .ok (.invokestatic 49, 3) := by decide +kernel
theorem dX8_set_4 : decode cX8_set 4 = .ok (.ifCond .ne 6, 3) := by decide +kernel
theorem dX8_set_7 : decode cX8_set 7 = .ok (.ldc 55, 2) := by decide +kernel
theorem dX8_set_9 : decode cX8_set 9 = .ok (.ireturn, 1) := by decide +kernel
theorem dX8_set_10 : decode cX8_set 10 = .ok (.aload_n 0, 1) := by decide +kernel
theorem dX8_set_11 : decode cX8_set 11 = .ok (.getfield 20, 3) := by decide +kernel
theorem dX8_set_14 : decode cX8_set 14 = .ok (.iload_n 1, 1) := by decide +kernel
theorem dX8_set_15 : decode cX8_set 15 = .ok (.iaload, 1) := by decide +kernel
theorem dX8_set_16 : decode cX8_set 16 = .ok (.ifCond .ge 9, 3) := by decide +kernel
theorem dX8_set_19 : decode cX8_set 19 = .ok (.aload_n 0, 1) := by decide +kernel
theorem dX8_set_20 : decode cX8_set 20 = .ok (.iconst 1, 1) := by decide +kernel
theorem dX8_set_21 : decode cX8_set 21 = .ok (.invokevirtual 56, 3) := by decide +kernel
theorem dX8_set_24 : decode cX8_set 24 = .ok (.ireturn, 1) := by decide +kernel
theorem dX8_set_25 : decode cX8_set 25 = .ok (.iload_n 2, 1) := by decide +kernel
theorem dX8_set_26 : decode cX8_set 26 = .ok (.i2l, 1) := by decide +kernel
theorem dX8_set_27 : decode cX8_set 27 = .ok (.lconst 0, 1) := by decide +kernel
theorem dX8_set_28 : decode cX8_set 28 = .ok (.aload_n 0, 1) := by decide +kernel
theorem dX8_set_29 : decode cX8_set 29 = .ok (.getfield 20, 3) := by decide +kernel
theorem dX8_set_32 : decode cX8_set 32 = .ok (.iload_n 1, 1) := by decide +kernel
theorem dX8_set_33 : decode cX8_set 33 = .ok (.iaload, 1) := by decide +kernel
theorem dX8_set_34 : decode cX8_set 34 = .ok (.iconst 1, 1) := by decide +kernel
theorem dX8_set_35 : decode cX8_set 35 = .ok (.isub, 1) := by decide +kernel
theorem dX8_set_36 : decode cX8_set 36 = .ok (.i2l, 1) := by decide +kernel
theorem dX8_set_37 : decode cX8_set 37 = .ok (.invokestatic 45, 3) := by decide +kernel
theorem dX8_set_40 : decode cX8_set 40 = .ok (.ifCond .ne 9, 3) := by decide +kernel
theorem dX8_set_43 : decode cX8_set 43 = .ok (.aload_n 0, 1) := by decide +kernel
theorem dX8_set_44 : decode cX8_set 44 = .ok (.iconst 2, 1) := by decide +kernel
theorem dX8_set_45 : decode cX8_set 45 = .ok (.invokevirtual 56, 3) := by decide +kernel
theorem dX8_set_48 : decode cX8_set 48 = .ok (.ireturn, 1) := by decide +kernel
theorem dX8_set_49 : decode cX8_set 49 = .ok (.aload_n 0, 1) := by decide +kernel
theorem dX8_set_50 : decode cX8_set 50 = .ok (.getfield 23, 3) := by decide +kernel
theorem dX8_set_53 : decode cX8_set 53 = .ok (.bipush 40, 2) := by decide +kernel
theorem dX8_set_55 : decode cX8_set 55 = .ok (.iload_n 1, 1) := by decide +kernel
theorem dX8_set_56 : decode cX8_set 56 = .ok (.imul, 1) := by decide +kernel
theorem dX8_set_57 : decode cX8_set 57 = .ok (.iload_n 2, 1) := by decide +kernel
theorem dX8_set_58 : decode cX8_set 58 = .ok (.iadd, 1) := by decide +kernel
theorem dX8_set_59 : decode cX8_set 59 = .ok (.iload_n 3, 1) := by decide +kernel
theorem dX8_set_60 : decode cX8_set 60 = .ok (.aload_n 0, 1) := by decide +kernel
theorem dX8_set_61 : decode cX8_set 61 = .ok (.getfield 17, 3) := by decide +kernel
theorem dX8_set_64 : decode cX8_set 64 = .ok (.iload_n 1, 1) := by decide +kernel
theorem dX8_set_65 : decode cX8_set 65 = .ok (.iaload, 1) := by decide +kernel
theorem dX8_set_66 : decode cX8_set 66 = .ok (.invokestatic 63, 3) := by decide +kernel
theorem dX8_set_69 : decode cX8_set 69 = .ok (.iastore, 1) := by decide +kernel
theorem dX8_set_70 : decode cX8_set 70 = .ok (.aload_n 0, 1) := by decide +kernel
theorem dX8_set_71 : decode cX8_set 71 = .ok (.aload_n 0, 1) := by decide +kernel
theorem dX8_set_72 : decode cX8_set 72 = .ok (.getfield 23, 3) := by decide +kernel
theorem dX8_set_75 : decode cX8_set 75 = .ok (.bipush 40, 2) := by decide +kernel
theorem dX8_set_77 : decode cX8_set 77 = .ok (.iload_n 1, 1) := by decide +kernel
theorem dX8_set_78 : decode cX8_set 78 = .ok (.imul, 1) := by decide +kernel
theorem dX8_set_79 : decode cX8_set 79 = .ok (.iload_n 2, 1) := by decide +kernel
theorem dX8_set_80 : decode cX8_set 80 = .ok (.iadd, 1) := by decide +kernel
theorem dX8_set_81 : decode cX8_set 81 = .ok (.iaload, 1) := by decide +kernel
theorem dX8_set_82 : decode cX8_set 82 = .ok (.invokevirtual 60, 3) := by decide +kernel
theorem dX8_set_85 : decode cX8_set 85 = .ok (.ireturn, 1) := by decide +kernel
theorem dX8_isSpan_0 : decode cX8_isSpan 0 = .ok (.iload_n 2, 1) := by decide +kernel
theorem dX8_isSpan_1 : decode cX8_isSpan 1 = .ok (.ifCond .lt 27, 3) := by decide +kernel
theorem dX8_isSpan_4 : decode cX8_isSpan 4 = .ok (.iload_n 3, 1) := by decide +kernel
theorem dX8_isSpan_5 : decode cX8_isSpan 5 = .ok (.ifCond .lt 23, 3) := by decide +kernel
theorem dX8_isSpan_8 : decode cX8_isSpan 8 = .ok (.iload_n 2, 1) := by decide +kernel
theorem dX8_isSpan_9 : decode cX8_isSpan 9 = .ok (.i2l, 1) := by decide +kernel
theorem dX8_isSpan_10 : decode cX8_isSpan 10 = .ok (.iload_n 3, 1) := by decide +kernel
theorem dX8_isSpan_11 : decode cX8_isSpan 11 = .ok (.i2l, 1) := by decide +kernel
theorem dX8_isSpan_12 : decode cX8_isSpan 12 = .ok (.ladd, 1) := by decide +kernel
theorem dX8_isSpan_13 : decode cX8_isSpan 13 = .ok (.aload_n 0, 1) := by decide +kernel
theorem dX8_isSpan_14 : decode cX8_isSpan 14 = .ok (.getfield 20, 3) := by decide +kernel
theorem dX8_isSpan_17 : decode cX8_isSpan 17 = .ok (.iload_n 1, 1) := by decide +kernel
theorem dX8_isSpan_18 : decode cX8_isSpan 18 = .ok (.iaload, 1) := by decide +kernel
theorem dX8_isSpan_19 : decode cX8_isSpan 19 = .ok (.i2l, 1) := by decide +kernel
theorem dX8_isSpan_20 : decode cX8_isSpan 20 = .ok (.lcmp, 1) := by decide +kernel
theorem dX8_isSpan_21 : decode cX8_isSpan 21 = .ok (.ifCond .gt 7, 3) := by decide +kernel
theorem dX8_isSpan_24 : decode cX8_isSpan 24 = .ok (.iconst 1, 1) := by decide +kernel
theorem dX8_isSpan_25 : decode cX8_isSpan 25 = .ok (.goto 4, 3) := by decide +kernel
theorem dX8_isSpan_28 : decode cX8_isSpan 28 = .ok (.iconst 0, 1) := by decide +kernel
theorem dX8_isSpan_29 : decode cX8_isSpan 29 = .ok (.ireturn, 1) := by decide +kernel
theorem dX8_copy_0 : decode cX8_copy 0 = .ok (.iload_n 1, 1) := by decide +kernel
theorem dX8_copy_1 : decode cX8_copy 1 = .ok (.invokestatic 49, 3) := by decide +kernel
theorem dX8_copy_4 : decode cX8_copy 4 = .ok (.ifCond .eq 10, 3) := by decide +kernel
theorem dX8_copy_7 : decode cX8_copy 7 = .ok (.iload_n 3, 1) := by decide +kernel
theorem dX8_copy_8 : decode cX8_copy 8 = .ok (.invokestatic 49, 3) := by decide +kernel
theorem dX8_copy_11 : decode cX8_copy 11 = .ok (.ifCond .ne 6, 3) := by decide +kernel
theorem dX8_copy_14 : decode cX8_copy 14 = .ok (.ldc 55, 2) := by decide +kernel
theorem dX8_copy_16 : decode cX8_copy 16 = .ok (.ireturn, 1) := by decide +kernel
theorem dX8_copy_17 : decode cX8_copy 17 = .ok (.aload_n 0, 1) := by decide +kernel
theorem dX8_copy_18 : decode cX8_copy 18 = .ok (.getfield 20, 3) := by decide +kernel
theorem dX8_copy_21 : decode cX8_copy 21 = .ok (.iload_n 1, 1) := by decide +kernel
theorem dX8_copy_22 : decode cX8_copy 22 = .ok (.iaload, 1) := by decide +kernel
theorem dX8_copy_23 : decode cX8_copy 23 = .ok (.ifCond .lt 12, 3) := by decide +kernel
theorem dX8_copy_26 : decode cX8_copy 26 = .ok (.aload_n 0, 1) := by decide +kernel
theorem dX8_copy_27 : decode cX8_copy 27 = .ok (.getfield 20, 3) := by decide +kernel
theorem dX8_copy_30 : decode cX8_copy 30 = .ok (.iload_n 3, 1) := by decide +kernel
theorem dX8_copy_31 : decode cX8_copy 31 = .ok (.iaload, 1) := by decide +kernel
theorem dX8_copy_32 : decode cX8_copy 32 = .ok (.ifCond .ge 9, 3) := by decide +kernel
theorem dX8_copy_35 : decode cX8_copy 35 = .ok (.aload_n 0, 1) := by decide +kernel
theorem dX8_copy_36 : decode cX8_copy 36 = .ok (.iconst 1, 1) := by decide +kernel
theorem dX8_copy_37 : decode cX8_copy 37 = .ok (.invokevirtual 56, 3) := by decide +kernel
theorem dX8_copy_40 : decode cX8_copy 40 = .ok (.ireturn, 1) := by decide +kernel
theorem dX8_copy_41 : decode cX8_copy 41 = .ok (.aload_n 0, 1) := by decide +kernel
theorem dX8_copy_42 : decode cX8_copy 42 = .ok (.getfield 17, 3) := by decide +kernel
theorem dX8_copy_45 : decode cX8_copy 45 = .ok (.iload_n 1, 1) := by decide +kernel
theorem dX8_copy_46 : decode cX8_copy 46 = .ok (.iaload, 1) := by decide +kernel
theorem dX8_copy_47 : decode cX8_copy 47 = .ok (.aload_n 0, 1) := by decide +kernel
theorem dX8_copy_48 : decode cX8_copy 48 = .ok (.getfield 17, 3) := by decide +kernel
theorem dX8_copy_51 : decode cX8_copy 51 = .ok (.iload_n 3, 1) := by decide +kernel
theorem dX8_copy_52 : decode cX8_copy 52 = .ok (.iaload, 1) := by decide +kernel
theorem dX8_copy_53 : decode cX8_copy 53 = .ok (.if_icmp .eq 9, 3) := by decide +kernel
theorem dX8_copy_56 : decode cX8_copy 56 = .ok (.aload_n 0, 1) := by decide +kernel
theorem dX8_copy_57 : decode cX8_copy 57 = .ok (.iconst 5, 1) := by decide +kernel
theorem dX8_copy_58 : decode cX8_copy 58 = .ok (.invokevirtual 56, 3) := by decide +kernel
theorem dX8_copy_61 : decode cX8_copy 61 = .ok (.ireturn, 1) := by decide +kernel
theorem dX8_copy_62 : decode cX8_copy 62 = .ok (.aload_n 0, 1) := by decide +kernel
theorem dX8_copy_63 : decode cX8_copy 63 = .ok (.iload_n 1, 1) := by decide +kernel
theorem dX8_copy_64 : decode cX8_copy 64 = .ok (.iload_n 2, 1) := by decide +kernel
theorem dX8_copy_65 : decode cX8_copy 65 = .ok (.iload 5, 2) := by decide +kernel
theorem dX8_copy_67 : decode cX8_copy 67 = .ok (.invokevirtual 67, 3) := by decide +kernel
theorem dX8_copy_70 : decode cX8_copy 70 = .ok (.ifCond .eq 15, 3) := by decide +kernel
theorem dX8_copy_73 : decode cX8_copy 73 = .ok (.aload_n 0, 1) := by decide +kernel
theorem dX8_copy_74 : decode cX8_copy 74 = .ok (.iload_n 3, 1) := by decide +kernel
theorem dX8_copy_75 : decode cX8_copy 75 = .ok (.iload 4, 2) := by decide +kernel
theorem dX8_copy_77 : decode cX8_copy 77 = .ok (.iload 5, 2) := by decide +kernel
theorem dX8_copy_79 : decode cX8_copy 79 = .ok (.invokevirtual 67, 3) := by decide +kernel
theorem dX8_copy_82 : decode cX8_copy 82 = .ok (.ifCond .ne 9, 3) := by decide +kernel
theorem dX8_copy_85 : decode cX8_copy 85 = .ok (.aload_n 0, 1) := by decide +kernel
theorem dX8_copy_86 : decode cX8_copy 86 = .ok (.iconst 2, 1) := by decide +kernel
theorem dX8_copy_87 : decode cX8_copy 87 = .ok (.invokevirtual 56, 3) := by decide +kernel
theorem dX8_copy_90 : decode cX8_copy 90 = .ok (.ireturn, 1) := by decide +kernel
theorem dX8_copy_91 : decode cX8_copy 91 = .ok (.iload_n 2, 1) := by decide +kernel
theorem dX8_copy_92 : decode cX8_copy 92 = .ok (.iload 4, 2) := by decide +kernel
theorem dX8_copy_94 : decode cX8_copy 94 = .ok (.if_icmp .ge 7, 3) := by decide +kernel
theorem dX8_copy_97 : decode cX8_copy 97 = .ok (.iconst 1, 1) := by decide +kernel
theorem dX8_copy_98 : decode cX8_copy 98 = .ok (.goto 4, 3) := by decide +kernel
theorem dX8_copy_101 : decode cX8_copy 101 = .ok (.iconst 0, 1) := by decide +kernel
theorem dX8_copy_102 : decode cX8_copy 102 = .ok (.istore 6, 2) := by decide +kernel
theorem dX8_copy_104 : decode cX8_copy 104 = .ok (.iconst 0, 1) := by decide +kernel
theorem dX8_copy_105 : decode cX8_copy 105 = .ok (.istore 7, 2) := by decide +kernel
theorem dX8_copy_107 : decode cX8_copy 107 = .ok (.iload 7, 2) := by decide +kernel
theorem dX8_copy_109 : decode cX8_copy 109 = .ok (.iload 5, 2) := by decide +kernel
theorem dX8_copy_111 : decode cX8_copy 111 = .ok (.if_icmp .ge 57, 3) := by decide +kernel
theorem dX8_copy_114 : decode cX8_copy 114 = .ok (.iload 6, 2) := by decide +kernel
theorem dX8_copy_116 : decode cX8_copy 116 = .ok (.ifCond .eq 13, 3) := by decide +kernel
theorem dX8_copy_119 : decode cX8_copy 119 = .ok (.iload 5, 2) := by decide +kernel
theorem dX8_copy_121 : decode cX8_copy 121 = .ok (.iconst 1, 1) := by decide +kernel
theorem dX8_copy_122 : decode cX8_copy 122 = .ok (.isub, 1) := by decide +kernel
theorem dX8_copy_123 : decode cX8_copy 123 = .ok (.iload 7, 2) := by decide +kernel
theorem dX8_copy_125 : decode cX8_copy 125 = .ok (.isub, 1) := by decide +kernel
theorem dX8_copy_126 : decode cX8_copy 126 = .ok (.goto 5, 3) := by decide +kernel
theorem dX8_copy_129 : decode cX8_copy 129 = .ok (.iload 7, 2) := by decide +kernel
theorem dX8_copy_131 : decode cX8_copy 131 = .ok (.istore 8, 2) := by decide +kernel
theorem dX8_copy_133 : decode cX8_copy 133 = .ok (.aload_n 0, 1) := by decide +kernel
theorem dX8_copy_134 : decode cX8_copy 134 = .ok (.getfield 23, 3) := by decide +kernel
theorem dX8_copy_137 : decode cX8_copy 137 = .ok (.bipush 40, 2) := by decide +kernel
theorem dX8_copy_139 : decode cX8_copy 139 = .ok (.iload_n 3, 1) := by decide +kernel
theorem dX8_copy_140 : decode cX8_copy 140 = .ok (.imul, 1) := by decide +kernel
theorem dX8_copy_141 : decode cX8_copy 141 = .ok (.iload 4, 2) := by decide +kernel
theorem dX8_copy_143 : decode cX8_copy 143 = .ok (.iadd, 1) := by decide +kernel
theorem dX8_copy_144 : decode cX8_copy 144 = .ok (.iload 8, 2) := by decide +kernel
theorem dX8_copy_146 : decode cX8_copy 146 = .ok (.iadd, 1) := by decide +kernel
theorem dX8_copy_147 : decode cX8_copy 147 = .ok (.aload_n 0, 1) := by decide +kernel
theorem dX8_copy_148 : decode cX8_copy 148 = .ok (.getfield 23, 3) := by decide +kernel
theorem dX8_copy_151 : decode cX8_copy 151 = .ok (.bipush 40, 2) := by decide +kernel
theorem dX8_copy_153 : decode cX8_copy 153 = .ok (.iload_n 1, 1) := by decide +kernel
theorem dX8_copy_154 : decode cX8_copy 154 = .ok (.imul, 1) := by decide +kernel
theorem dX8_copy_155 : decode cX8_copy 155 = .ok (.iload_n 2, 1) := by decide +kernel
theorem dX8_copy_156 : decode cX8_copy 156 = .ok (.iadd, 1) := by decide +kernel
theorem dX8_copy_157 : decode cX8_copy 157 = .ok (.iload 8, 2) := by decide +kernel
theorem dX8_copy_159 : decode cX8_copy 159 = .ok (.iadd, 1) := by decide +kernel
theorem dX8_copy_160 : decode cX8_copy 160 = .ok (.iaload, 1) := by decide +kernel
theorem dX8_copy_161 : decode cX8_copy 161 = .ok (.iastore, 1) := by decide +kernel
theorem dX8_copy_162 : decode cX8_copy 162 = .ok (.iinc 7 1, 3) := by decide +kernel
theorem dX8_copy_165 : decode cX8_copy 165 = .ok (.goto (-58), 3) := by decide +kernel
theorem dX8_copy_168 : decode cX8_copy 168 = .ok (.aload_n 0, 1) := by decide +kernel
theorem dX8_copy_169 : decode cX8_copy 169 = .ok (.iload 5, 2) := by decide +kernel
theorem dX8_copy_171 : decode cX8_copy 171 = .ok (.invokevirtual 60, 3) := by decide +kernel
theorem dX8_copy_174 : decode cX8_copy 174 = .ok (.ireturn, 1) := by decide +kernel
theorem dX8_drop_0 : decode cX8_drop 0 = .ok (.iload_n 1, 1) := by decide +kernel
theorem dX8_drop_1 : decode cX8_drop 1 = .ok (.invokestatic 49, 3) := by decide +kernel
theorem dX8_drop_4 : decode cX8_drop 4 = .ok (.ifCond .ne 6, 3) := by decide +kernel
theorem dX8_drop_7 : decode cX8_drop 7 = .ok (.ldc 55, 2) := by decide +kernel
theorem dX8_drop_9 : decode cX8_drop 9 = .ok (.ireturn, 1) := by decide +kernel
theorem dX8_drop_10 : decode cX8_drop 10 = .ok (.aload_n 0, 1) := by decide +kernel
theorem dX8_drop_11 : decode cX8_drop 11 = .ok (.getfield 20, 3) := by decide +kernel
theorem dX8_drop_14 : decode cX8_drop 14 = .ok (.iload_n 1, 1) := by decide +kernel
theorem dX8_drop_15 : decode cX8_drop 15 = .ok (.iaload, 1) := by decide +kernel
theorem dX8_drop_16 : decode cX8_drop 16 = .ok (.ifCond .ge 9, 3) := by decide +kernel
theorem dX8_drop_19 : decode cX8_drop 19 = .ok (.aload_n 0, 1) := by decide +kernel
theorem dX8_drop_20 : decode cX8_drop 20 = .ok (.iconst 1, 1) := by decide +kernel
theorem dX8_drop_21 : decode cX8_drop 21 = .ok (.invokevirtual 56, 3) := by decide +kernel
theorem dX8_drop_24 : decode cX8_drop 24 = .ok (.ireturn, 1) := by decide +kernel
theorem dX8_drop_25 : decode cX8_drop 25 = .ok (.aload_n 0, 1) := by decide +kernel
theorem dX8_drop_26 : decode cX8_drop 26 = .ok (.getfield 20, 3) := by decide +kernel
theorem dX8_drop_29 : decode cX8_drop 29 = .ok (.iload_n 1, 1) := by decide +kernel
theorem dX8_drop_30 : decode cX8_drop 30 = .ok (.iaload, 1) := by decide +kernel
theorem dX8_drop_31 : decode cX8_drop 31 = .ok (.istore_n 2, 1) := by decide +kernel
theorem dX8_drop_32 : decode cX8_drop 32 = .ok (.aload_n 0, 1) := by decide +kernel
theorem dX8_drop_33 : decode cX8_drop 33 = .ok (.getfield 20, 3) := by decide +kernel
theorem dX8_drop_36 : decode cX8_drop 36 = .ok (.iload_n 1, 1) := by decide +kernel
theorem dX8_drop_37 : decode cX8_drop 37 = .ok (.iconst (-1), 1) := by decide +kernel
theorem dX8_drop_38 : decode cX8_drop 38 = .ok (.iastore, 1) := by decide +kernel
theorem dX8_drop_39 : decode cX8_drop 39 = .ok (.aload_n 0, 1) := by decide +kernel
theorem dX8_drop_40 : decode cX8_drop 40 = .ok (.iload_n 2, 1) := by decide +kernel
theorem dX8_drop_41 : decode cX8_drop 41 = .ok (.invokevirtual 60, 3) := by decide +kernel
theorem dX8_drop_44 : decode cX8_drop 44 = .ok (.ireturn, 1) := by decide +kernel
theorem dX8_feed_0 : decode cX8_feed 0 = .ok (.iload_n 1, 1) := by decide +kernel
theorem dX8_feed_1 : decode cX8_feed 1 = .ok (.i2l, 1) := by decide +kernel
theorem dX8_feed_2 : decode cX8_feed 2 = .ok (.lconst 0, 1) := by decide +kernel
theorem dX8_feed_3 : decode cX8_feed 3 = .ok (.ldc2_w 71, 3) := by decide +kernel
theorem dX8_feed_6 : decode cX8_feed 6 = .ok (.invokestatic 45, 3) := by decide +kernel
theorem dX8_feed_9 : decode cX8_feed 9 = .ok (.ifCond .ne 6, 3) := by decide +kernel
theorem dX8_feed_12 : decode cX8_feed 12 = .ok (.ldc 55, 2) := by decide +kernel
theorem dX8_feed_14 : decode cX8_feed 14 = .ok (.ireturn, 1) := by decide +kernel
theorem dX8_feed_15 : decode cX8_feed 15 = .ok (.aload_n 0, 1) := by decide +kernel
theorem dX8_feed_16 : decode cX8_feed 16 = .ok (.getfield 73, 3) := by decide +kernel
theorem dX8_feed_19 : decode cX8_feed 19 = .ok (.bipush 120, 2) := by decide +kernel
theorem dX8_feed_21 : decode cX8_feed 21 = .ok (.if_icmp .ne 6, 3) := by decide +kernel
theorem dX8_feed_24 : decode cX8_feed 24 = .ok (.ldc 76, 2) := by decide +kernel
theorem dX8_feed_26 : decode cX8_feed 26 = .ok (.ireturn, 1) := by decide +kernel
theorem dX8_feed_27 : decode cX8_feed 27 = .ok (.aload_n 0, 1) := by decide +kernel
theorem dX8_feed_28 : decode cX8_feed 28 = .ok (.getfield 26, 3) := by decide +kernel
theorem dX8_feed_31 : decode cX8_feed 31 = .ok (.aload_n 0, 1) := by decide +kernel
theorem dX8_feed_32 : decode cX8_feed 32 = .ok (.getfield 73, 3) := by decide +kernel
theorem dX8_feed_35 : decode cX8_feed 35 = .ok (.iload_n 1, 1) := by decide +kernel
theorem dX8_feed_36 : decode cX8_feed 36 = .ok (.iastore, 1) := by decide +kernel
theorem dX8_feed_37 : decode cX8_feed 37 = .ok (.aload_n 0, 1) := by decide +kernel
theorem dX8_feed_38 : decode cX8_feed 38 = .ok (.dup, 1) := by decide +kernel
theorem dX8_feed_39 : decode cX8_feed 39 = .ok (.getfield 73, 3) := by decide +kernel
theorem dX8_feed_42 : decode cX8_feed 42 = .ok (.iconst 1, 1) := by decide +kernel
theorem dX8_feed_43 : decode cX8_feed 43 = .ok (.iadd, 1) := by decide +kernel
theorem dX8_feed_44 : decode cX8_feed 44 = .ok (.putfield 73, 3) := by decide +kernel
theorem dX8_feed_47 : decode cX8_feed 47 = .ok (.aload_n 0, 1) := by decide +kernel
theorem dX8_feed_48 : decode cX8_feed 48 = .ok (.getfield 73, 3) := by decide +kernel
theorem dX8_feed_51 : decode cX8_feed 51 = .ok (.ireturn, 1) := by decide +kernel
theorem dX8_isLetter_0 : decode cX8_isLetter 0 = .ok (.aload_n 0, 1) := by decide +kernel
theorem dX8_isLetter_1 : decode cX8_isLetter 1 = .ok (.getfield 77, 3) := by decide +kernel
theorem dX8_isLetter_4 : decode cX8_isLetter 4 = .ok (.aload_n 0, 1) := by decide +kernel
theorem dX8_isLetter_5 : decode cX8_isLetter 5 = .ok (.getfield 73, 3) := by decide +kernel
theorem dX8_isLetter_8 : decode cX8_isLetter 8 = .ok (.if_icmp .ge 20, 3) := by decide +kernel
theorem dX8_isLetter_11 : decode cX8_isLetter 11 = .ok (.aload_n 0, 1) := by decide +kernel
theorem dX8_isLetter_12 : decode cX8_isLetter 12 = .ok (.getfield 26, 3) := by decide +kernel
theorem dX8_isLetter_15 : decode cX8_isLetter 15 = .ok (.aload_n 0, 1) := by decide +kernel
theorem dX8_isLetter_16 : decode cX8_isLetter 16 = .ok (.getfield 77, 3) := by decide +kernel
theorem dX8_isLetter_19 : decode cX8_isLetter 19 = .ok (.iaload, 1) := by decide +kernel
theorem dX8_isLetter_20 : decode cX8_isLetter 20 = .ok (.iload_n 1, 1) := by decide +kernel
theorem dX8_isLetter_21 : decode cX8_isLetter 21 = .ok (.if_icmp .ne 7, 3) := by decide +kernel
theorem dX8_isLetter_24 : decode cX8_isLetter 24 = .ok (.iconst 1, 1) := by decide +kernel
theorem dX8_isLetter_25 : decode cX8_isLetter 25 = .ok (.goto 4, 3) := by decide +kernel
theorem dX8_isLetter_28 : decode cX8_isLetter 28 = .ok (.iconst 0, 1) := by decide +kernel
theorem dX8_isLetter_29 : decode cX8_isLetter 29 = .ok (.ireturn, 1) := by decide +kernel
theorem dX8_isFigure_0 : decode cX8_isFigure 0 = .ok (.iload_n 1, 1) := by decide +kernel
theorem dX8_isFigure_1 : decode cX8_isFigure 1 = .ok (.aload_n 0, 1) := by decide +kernel
theorem dX8_isFigure_2 : decode cX8_isFigure 2 = .ok (.getfield 73, 3) := by decide +kernel
theorem dX8_isFigure_5 : decode cX8_isFigure 5 = .ok (.if_icmp .ge 26, 3) := by decide +kernel
theorem dX8_isFigure_8 : decode cX8_isFigure 8 = .ok (.aload_n 0, 1) := by decide +kernel
theorem dX8_isFigure_9 : decode cX8_isFigure 9 = .ok (.getfield 26, 3) := by decide +kernel
theorem dX8_isFigure_12 : decode cX8_isFigure 12 = .ok (.iload_n 1, 1) := by decide +kernel
theorem dX8_isFigure_13 : decode cX8_isFigure 13 = .ok (.iaload, 1) := by decide +kernel
theorem dX8_isFigure_14 : decode cX8_isFigure 14 = .ok (.i2l, 1) := by decide +kernel
theorem dX8_isFigure_15 : decode cX8_isFigure 15 = .ok (.ldc2_w 80, 3) := by decide +kernel
theorem dX8_isFigure_18 : decode cX8_isFigure 18 = .ok (.ldc2_w 82, 3) := by decide +kernel
theorem dX8_isFigure_21 : decode cX8_isFigure 21 = .ok (.invokestatic 45, 3) := by decide +kernel
theorem dX8_isFigure_24 : decode cX8_isFigure 24 = .ok (.ifCond .eq 7, 3) := by decide +kernel
theorem dX8_isFigure_27 : decode cX8_isFigure 27 = .ok (.iconst 1, 1) := by decide +kernel
theorem dX8_isFigure_28 : decode cX8_isFigure 28 = .ok (.goto 4, 3) := by decide +kernel
theorem dX8_isFigure_31 : decode cX8_isFigure 31 = .ok (.iconst 0, 1) := by decide +kernel
theorem dX8_isFigure_32 : decode cX8_isFigure 32 = .ok (.ireturn, 1) := by decide +kernel
theorem dX8_refuse_0 : decode cX8_refuse 0 = .ok (.aload_n 0, 1) := by decide +kernel
theorem dX8_refuse_1 : decode cX8_refuse 1 = .ok (.iload_n 1, 1) := by decide +kernel
theorem dX8_refuse_2 : decode cX8_refuse 2 = .ok (.putfield 84, 3) := by decide +kernel
theorem dX8_refuse_5 : decode cX8_refuse 5 = .ok (.iconst 0, 1) := by decide +kernel
theorem dX8_refuse_6 : decode cX8_refuse 6 = .ok (.ireturn, 1) := by decide +kernel
theorem dX8_sign_0 : decode cX8_sign 0 = .ok (.aload_n 0, 1) := by decide +kernel
theorem dX8_sign_1 : decode cX8_sign 1 = .ok (.iload_n 1, 1) := by decide +kernel
theorem dX8_sign_2 : decode cX8_sign 2 = .ok (.invokevirtual 87, 3) := by decide +kernel
theorem dX8_sign_5 : decode cX8_sign 5 = .ok (.ifCond .ne 9, 3) := by decide +kernel
theorem dX8_sign_8 : decode cX8_sign 8 = .ok (.aload_n 0, 1) := by decide +kernel
theorem dX8_sign_9 : decode cX8_sign 9 = .ok (.iconst 1, 1) := by decide +kernel
theorem dX8_sign_10 : decode cX8_sign 10 = .ok (.invokevirtual 90, 3) := by decide +kernel
theorem dX8_sign_13 : decode cX8_sign 13 = .ok (.ireturn, 1) := by decide +kernel
theorem dX8_sign_14 : decode cX8_sign 14 = .ok (.aload_n 0, 1) := by decide +kernel
theorem dX8_sign_15 : decode cX8_sign 15 = .ok (.dup, 1) := by decide +kernel
theorem dX8_sign_16 : decode cX8_sign 16 = .ok (.getfield 77, 3) := by decide +kernel
theorem dX8_sign_19 : decode cX8_sign 19 = .ok (.iconst 1, 1) := by decide +kernel
theorem dX8_sign_20 : decode cX8_sign 20 = .ok (.iadd, 1) := by decide +kernel
theorem dX8_sign_21 : decode cX8_sign 21 = .ok (.putfield 77, 3) := by decide +kernel
theorem dX8_sign_24 : decode cX8_sign 24 = .ok (.iconst 1, 1) := by decide +kernel
theorem dX8_sign_25 : decode cX8_sign 25 = .ok (.ireturn, 1) := by decide +kernel
theorem dX8_readsNumber_0 : decode cX8_readsNumber 0 = .ok (.aload_n 0, 1) := by decide +kernel
theorem dX8_readsNumber_1 : decode cX8_readsNumber 1 = .ok (.aload_n 0, 1) := by decide +kernel
theorem dX8_readsNumber_2 : decode cX8_readsNumber 2 = .ok (.getfield 77, 3) := by decide +kernel
theorem dX8_readsNumber_5 : decode cX8_readsNumber 5 = .ok (.invokevirtual 93, 3) := by decide +kernel
theorem dX8_readsNumber_8 : decode cX8_readsNumber 8 = .ok (.ifCond .eq 29, 3) := by decide +kernel
theorem dX8_readsNumber_11 : decode cX8_readsNumber 11 = .ok (.aload_n 0, 1) := by decide +kernel
theorem dX8_readsNumber_12 : decode cX8_readsNumber 12 = .ok (.aload_n 0, 1) := by decide +kernel
theorem dX8_readsNumber_13 : decode cX8_readsNumber 13 = .ok (.getfield 77, 3) := by decide +kernel
theorem dX8_readsNumber_16 : decode cX8_readsNumber 16 = .ok (.iconst 1, 1) := by decide +kernel
theorem dX8_readsNumber_17 : decode cX8_readsNumber 17 = .ok (.iadd, 1) := by decide +kernel
theorem dX8_readsNumber_18 : decode cX8_readsNumber 18 = .ok (.invokevirtual 93, 3) := by decide +kernel
theorem dX8_readsNumber_21 : decode cX8_readsNumber 21 = .ok (.ifCond .eq 22, 3) := by decide +kernel
theorem dX8_readsNumber_24 : decode cX8_readsNumber 24 = .ok (.aload_n 0, 1) := by decide +kernel
theorem dX8_readsNumber_25 : decode cX8_readsNumber 25 = .ok (.aload_n 0, 1) := by decide +kernel
theorem dX8_readsNumber_26 : decode cX8_readsNumber 26 = .ok (.getfield 77, 3) := by decide +kernel
theorem dX8_readsNumber_29 : decode cX8_readsNumber 29 = .ok (.iconst 2, 1) := by decide +kernel
theorem dX8_readsNumber_30 : decode cX8_readsNumber 30 = .ok (.iadd, 1) := by decide +kernel
theorem dX8_readsNumber_31 : decode cX8_readsNumber 31 = .ok (.invokevirtual 93, 3) := by decide +kernel
theorem dX8_readsNumber_34 : decode cX8_readsNumber 34 = .ok (.ifCond .eq 9, 3) := by decide +kernel
theorem dX8_readsNumber_37 : decode cX8_readsNumber 37 = .ok (.aload_n 0, 1) := by decide +kernel
theorem dX8_readsNumber_38 : decode cX8_readsNumber 38 = .ok (.iconst 1, 1) := by decide +kernel
theorem dX8_readsNumber_39 : decode cX8_readsNumber 39 = .ok (.invokevirtual 90, 3) := by decide +kernel
theorem dX8_readsNumber_42 : decode cX8_readsNumber 42 = .ok (.ireturn, 1) := by decide +kernel
theorem dX8_readsNumber_43 : decode cX8_readsNumber 43 = .ok (.aload_n 0, 1) := by decide +kernel
theorem dX8_readsNumber_44 : decode cX8_readsNumber 44 = .ok (.aload_n 0, 1) := by decide +kernel
theorem dX8_readsNumber_45 : decode cX8_readsNumber 45 = .ok (.getfield 26, 3) := by decide +kernel
theorem dX8_readsNumber_48 : decode cX8_readsNumber 48 = .ok (.aload_n 0, 1) := by decide +kernel
theorem dX8_readsNumber_49 : decode cX8_readsNumber 49 = .ok (.getfield 77, 3) := by decide +kernel
theorem dX8_readsNumber_52 : decode cX8_readsNumber 52 = .ok (.iaload, 1) := by decide +kernel
theorem dX8_readsNumber_53 : decode cX8_readsNumber 53 = .ok (.bipush 48, 2) := by decide +kernel
theorem dX8_readsNumber_55 : decode cX8_readsNumber 55 = .ok (.isub, 1) := by decide +kernel
theorem dX8_readsNumber_56 : decode cX8_readsNumber 56 = .ok (.putfield 96, 3) := by decide +kernel
theorem dX8_readsNumber_59 : decode cX8_readsNumber 59 = .ok (.aload_n 0, 1) := by decide +kernel
theorem dX8_readsNumber_60 : decode cX8_readsNumber 60 = .ok (.aload_n 0, 1) := by decide +kernel
theorem dX8_readsNumber_61 : decode cX8_readsNumber 61 = .ok (.getfield 77, 3) := by decide +kernel
theorem dX8_readsNumber_64 : decode cX8_readsNumber 64 = .ok (.iconst 1, 1) := by decide +kernel
theorem dX8_readsNumber_65 : decode cX8_readsNumber 65 = .ok (.iadd, 1) := by decide +kernel
theorem dX8_readsNumber_66 : decode cX8_readsNumber 66 = .ok (.invokevirtual 93, 3) := by decide +kernel
theorem dX8_readsNumber_69 : decode cX8_readsNumber 69 = .ok (.ifCond .eq 7, 3) := by decide +kernel
theorem dX8_readsNumber_72 : decode cX8_readsNumber 72 = .ok (.iconst 2, 1) := by decide +kernel
theorem dX8_readsNumber_73 : decode cX8_readsNumber 73 = .ok (.goto 4, 3) := by decide +kernel
theorem dX8_readsNumber_76 : decode cX8_readsNumber 76 = .ok (.iconst 1, 1) := by decide +kernel
theorem dX8_readsNumber_77 : decode cX8_readsNumber 77 = .ok (.istore_n 3, 1) := by decide +kernel
theorem dX8_readsNumber_78 : decode cX8_readsNumber 78 = .ok (.aload_n 0, 1) := by decide +kernel
theorem dX8_readsNumber_79 : decode cX8_readsNumber 79 = .ok (.iload_n 3, 1) := by decide +kernel
theorem dX8_readsNumber_80 : decode cX8_readsNumber 80 = .ok (.iconst 2, 1) := by decide +kernel
theorem dX8_readsNumber_81 : decode cX8_readsNumber 81 = .ok (.if_icmp .ne 28, 3) := by decide +kernel
theorem dX8_readsNumber_84 : decode cX8_readsNumber 84 = .ok (.bipush 10, 2) := by decide +kernel
theorem dX8_readsNumber_86 : decode cX8_readsNumber 86 = .ok (.aload_n 0, 1) := by decide +kernel
theorem dX8_readsNumber_87 : decode cX8_readsNumber 87 = .ok (.getfield 96, 3) := by decide +kernel
theorem dX8_readsNumber_90 : decode cX8_readsNumber 90 = .ok (.imul, 1) := by decide +kernel
theorem dX8_readsNumber_91 : decode cX8_readsNumber 91 = .ok (.aload_n 0, 1) := by decide +kernel
theorem dX8_readsNumber_92 : decode cX8_readsNumber 92 = .ok (.getfield 26, 3) := by decide +kernel
theorem dX8_readsNumber_95 : decode cX8_readsNumber 95 = .ok (.aload_n 0, 1) := by decide +kernel
theorem dX8_readsNumber_96 : decode cX8_readsNumber 96 = .ok (.getfield 77, 3) := by decide +kernel
theorem dX8_readsNumber_99 : decode cX8_readsNumber 99 = .ok (.iconst 1, 1) := by decide +kernel
theorem dX8_readsNumber_100 : decode cX8_readsNumber 100 = .ok (.iadd, 1) := by decide +kernel
theorem dX8_readsNumber_101 : decode cX8_readsNumber 101 = .ok (.iaload, 1) := by decide +kernel
theorem dX8_readsNumber_102 : decode cX8_readsNumber 102 = .ok (.iadd, 1) := by decide +kernel
theorem dX8_readsNumber_103 : decode cX8_readsNumber 103 = .ok (.bipush 48, 2) := by decide +kernel
theorem dX8_readsNumber_105 : decode cX8_readsNumber 105 = .ok (.isub, 1) := by decide +kernel
theorem dX8_readsNumber_106 : decode cX8_readsNumber 106 = .ok (.goto 7, 3) := by decide +kernel
theorem dX8_readsNumber_109 : decode cX8_readsNumber 109 = .ok (.aload_n 0, 1) := by decide +kernel
theorem dX8_readsNumber_110 : decode cX8_readsNumber 110 = .ok (.getfield 96, 3) := by decide +kernel
theorem dX8_readsNumber_113 : decode cX8_readsNumber 113 = .ok (.putfield 96, 3) := by decide +kernel
theorem dX8_readsNumber_116 : decode cX8_readsNumber 116 = .ok (.aload_n 0, 1) := by decide +kernel
theorem dX8_readsNumber_117 : decode cX8_readsNumber 117 = .ok (.getfield 96, 3) := by decide +kernel
theorem dX8_readsNumber_120 : decode cX8_readsNumber 120 = .ok (.i2l, 1) := by decide +kernel
theorem dX8_readsNumber_121 : decode cX8_readsNumber 121 = .ok (.iload_n 1, 1) := by decide +kernel
theorem dX8_readsNumber_122 : decode cX8_readsNumber 122 = .ok (.i2l, 1) := by decide +kernel
theorem dX8_readsNumber_123 : decode cX8_readsNumber 123 = .ok (.iload_n 2, 1) := by decide +kernel
theorem dX8_readsNumber_124 : decode cX8_readsNumber 124 = .ok (.i2l, 1) := by decide +kernel
theorem dX8_readsNumber_125 : decode cX8_readsNumber 125 = .ok (.invokestatic 45, 3) := by decide +kernel
theorem dX8_readsNumber_128 : decode cX8_readsNumber 128 = .ok (.ifCond .ne 9, 3) := by decide +kernel
theorem dX8_readsNumber_131 : decode cX8_readsNumber 131 = .ok (.aload_n 0, 1) := by decide +kernel
theorem dX8_readsNumber_132 : decode cX8_readsNumber 132 = .ok (.iconst 2, 1) := by decide +kernel
theorem dX8_readsNumber_133 : decode cX8_readsNumber 133 = .ok (.invokevirtual 90, 3) := by decide +kernel
theorem dX8_readsNumber_136 : decode cX8_readsNumber 136 = .ok (.ireturn, 1) := by decide +kernel
theorem dX8_readsNumber_137 : decode cX8_readsNumber 137 = .ok (.aload_n 0, 1) := by decide +kernel
theorem dX8_readsNumber_138 : decode cX8_readsNumber 138 = .ok (.dup, 1) := by decide +kernel
theorem dX8_readsNumber_139 : decode cX8_readsNumber 139 = .ok (.getfield 77, 3) := by decide +kernel
theorem dX8_readsNumber_142 : decode cX8_readsNumber 142 = .ok (.iload_n 3, 1) := by decide +kernel
theorem dX8_readsNumber_143 : decode cX8_readsNumber 143 = .ok (.iadd, 1) := by decide +kernel
theorem dX8_readsNumber_144 : decode cX8_readsNumber 144 = .ok (.putfield 77, 3) := by decide +kernel
theorem dX8_readsNumber_147 : decode cX8_readsNumber 147 = .ok (.iconst 1, 1) := by decide +kernel
theorem dX8_readsNumber_148 : decode cX8_readsNumber 148 = .ok (.ireturn, 1) := by decide +kernel
theorem dX8_readsLaw_0 : decode cX8_readsLaw 0 = .ok (.aload_n 0, 1) := by decide +kernel
theorem dX8_readsLaw_1 : decode cX8_readsLaw 1 = .ok (.bipush 98, 2) := by decide +kernel
theorem dX8_readsLaw_3 : decode cX8_readsLaw 3 = .ok (.invokevirtual 99, 3) := by decide +kernel
theorem dX8_readsLaw_6 : decode cX8_readsLaw 6 = .ok (.ifCond .eq 13, 3) := by decide +kernel
theorem dX8_readsLaw_9 : decode cX8_readsLaw 9 = .ok (.aload_n 0, 1) := by decide +kernel
theorem dX8_readsLaw_10 : decode cX8_readsLaw 10 = .ok (.iconst 0, 1) := by decide +kernel
theorem dX8_readsLaw_11 : decode cX8_readsLaw 11 = .ok (.bipush 20, 2) := by decide +kernel
theorem dX8_readsLaw_13 : decode cX8_readsLaw 13 = .ok (.invokevirtual 102, 3) := by decide +kernel
theorem dX8_readsLaw_16 : decode cX8_readsLaw 16 = .ok (.ifCond .ne 5, 3) := by decide +kernel
theorem dX8_readsLaw_19 : decode cX8_readsLaw 19 = .ok (.iconst 0, 1) := by decide +kernel
theorem dX8_readsLaw_20 : decode cX8_readsLaw 20 = .ok (.ireturn, 1) := by decide +kernel
theorem dX8_readsLaw_21 : decode cX8_readsLaw 21 = .ok (.aload_n 0, 1) := by decide +kernel
theorem dX8_readsLaw_22 : decode cX8_readsLaw 22 = .ok (.getfield 7, 3) := by decide +kernel
theorem dX8_readsLaw_25 : decode cX8_readsLaw 25 = .ok (.sipush 1324, 3) := by decide +kernel
theorem dX8_readsLaw_28 : decode cX8_readsLaw 28 = .ok (.aload_n 0, 1) := by decide +kernel
theorem dX8_readsLaw_29 : decode cX8_readsLaw 29 = .ok (.getfield 96, 3) := by decide +kernel
theorem dX8_readsLaw_32 : decode cX8_readsLaw 32 = .ok (.iastore, 1) := by decide +kernel
theorem dX8_readsLaw_33 : decode cX8_readsLaw 33 = .ok (.aload_n 0, 1) := by decide +kernel
theorem dX8_readsLaw_34 : decode cX8_readsLaw 34 = .ok (.bipush 44, 2) := by decide +kernel
theorem dX8_readsLaw_36 : decode cX8_readsLaw 36 = .ok (.invokevirtual 99, 3) := by decide +kernel
theorem dX8_readsLaw_39 : decode cX8_readsLaw 39 = .ok (.ifCond .eq 13, 3) := by decide +kernel
theorem dX8_readsLaw_42 : decode cX8_readsLaw 42 = .ok (.aload_n 0, 1) := by decide +kernel
theorem dX8_readsLaw_43 : decode cX8_readsLaw 43 = .ok (.iconst 1, 1) := by decide +kernel
theorem dX8_readsLaw_44 : decode cX8_readsLaw 44 = .ok (.bipush 20, 2) := by decide +kernel
theorem dX8_readsLaw_46 : decode cX8_readsLaw 46 = .ok (.invokevirtual 102, 3) := by decide +kernel
theorem dX8_readsLaw_49 : decode cX8_readsLaw 49 = .ok (.ifCond .ne 5, 3) := by decide +kernel
theorem dX8_readsLaw_52 : decode cX8_readsLaw 52 = .ok (.iconst 0, 1) := by decide +kernel
theorem dX8_readsLaw_53 : decode cX8_readsLaw 53 = .ok (.ireturn, 1) := by decide +kernel
theorem dX8_readsLaw_54 : decode cX8_readsLaw 54 = .ok (.aload_n 0, 1) := by decide +kernel
theorem dX8_readsLaw_55 : decode cX8_readsLaw 55 = .ok (.getfield 7, 3) := by decide +kernel
theorem dX8_readsLaw_58 : decode cX8_readsLaw 58 = .ok (.sipush 1325, 3) := by decide +kernel
theorem dX8_readsLaw_61 : decode cX8_readsLaw 61 = .ok (.aload_n 0, 1) := by decide +kernel
theorem dX8_readsLaw_62 : decode cX8_readsLaw 62 = .ok (.getfield 96, 3) := by decide +kernel
theorem dX8_readsLaw_65 : decode cX8_readsLaw 65 = .ok (.iastore, 1) := by decide +kernel
theorem dX8_readsLaw_66 : decode cX8_readsLaw 66 = .ok (.aload_n 0, 1) := by decide +kernel
theorem dX8_readsLaw_67 : decode cX8_readsLaw 67 = .ok (.bipush 59, 2) := by decide +kernel
theorem dX8_readsLaw_69 : decode cX8_readsLaw 69 = .ok (.invokevirtual 99, 3) := by decide +kernel
theorem dX8_readsLaw_72 : decode cX8_readsLaw 72 = .ok (.ireturn, 1) := by decide +kernel
theorem dX8_kindOfLetter_0 : decode cX8_kindOfLetter 0 = .ok (.iload_n 0, 1) := by decide +kernel
theorem dX8_kindOfLetter_1 : decode cX8_kindOfLetter 1 = .ok (.bipush 99, 2) := by decide +kernel
theorem dX8_kindOfLetter_3 : decode cX8_kindOfLetter 3 = .ok (.if_icmp .ne 7, 3) := by decide +kernel
theorem dX8_kindOfLetter_6 : decode cX8_kindOfLetter 6 = .ok (.iconst 1, 1) := by decide +kernel
theorem dX8_kindOfLetter_7 : decode cX8_kindOfLetter 7 = .ok (.goto 44, 3) := by decide +kernel
theorem dX8_kindOfLetter_10 : decode cX8_kindOfLetter 10 = .ok (.iload_n 0, 1) := by decide +kernel
theorem dX8_kindOfLetter_11 : decode cX8_kindOfLetter 11 = .ok (.bipush 107, 2) := by decide +kernel
theorem dX8_kindOfLetter_13 : decode cX8_kindOfLetter 13 = .ok (.if_icmp .ne 7, 3) := by decide +kernel
theorem dX8_kindOfLetter_16 : decode cX8_kindOfLetter 16 = .ok (.iconst 2, 1) := by decide +kernel
theorem dX8_kindOfLetter_17 : decode cX8_kindOfLetter 17 = .ok (.goto 34, 3) := by decide +kernel
theorem dX8_kindOfLetter_20 : decode cX8_kindOfLetter 20 = .ok (.iload_n 0, 1) := by decide +kernel
theorem dX8_kindOfLetter_21 : decode cX8_kindOfLetter 21 = .ok (.bipush 111, 2) := by decide +kernel
theorem dX8_kindOfLetter_23 : decode cX8_kindOfLetter 23 = .ok (.if_icmp .ne 7, 3) := by decide +kernel
theorem dX8_kindOfLetter_26 : decode cX8_kindOfLetter 26 = .ok (.iconst 3, 1) := by decide +kernel
theorem dX8_kindOfLetter_27 : decode cX8_kindOfLetter 27 = .ok (.goto 24, 3) := by decide +kernel
theorem dX8_kindOfLetter_30 : decode cX8_kindOfLetter 30 = .ok (.iload_n 0, 1) := by decide +kernel
theorem dX8_kindOfLetter_31 : decode cX8_kindOfLetter 31 = .ok (.bipush 121, 2) := by decide +kernel
theorem dX8_kindOfLetter_33 : decode cX8_kindOfLetter 33 = .ok (.if_icmp .ne 7, 3) := by decide +kernel
theorem dX8_kindOfLetter_36 : decode cX8_kindOfLetter 36 = .ok (.iconst 4, 1) := by decide +kernel
theorem dX8_kindOfLetter_37 : decode cX8_kindOfLetter 37 = .ok (.goto 14, 3) := by decide +kernel
theorem dX8_kindOfLetter_40 : decode cX8_kindOfLetter 40 = .ok (.iload_n 0, 1) := by decide +kernel
theorem dX8_kindOfLetter_41 : decode cX8_kindOfLetter 41 = .ok (.bipush 110, 2) := by decide +kernel
theorem dX8_kindOfLetter_43 : decode cX8_kindOfLetter 43 = .ok (.if_icmp .ne 7, 3) := by decide +kernel
theorem dX8_kindOfLetter_46 : decode cX8_kindOfLetter 46 = .ok (.iconst 5, 1) := by decide +kernel
theorem dX8_kindOfLetter_47 : decode cX8_kindOfLetter 47 = .ok (.goto 4, 3) := by decide +kernel
theorem dX8_kindOfLetter_50 : decode cX8_kindOfLetter 50 = .ok (.iconst 0, 1) := by decide +kernel
theorem dX8_kindOfLetter_51 : decode cX8_kindOfLetter 51 = .ok (.ireturn, 1) := by decide +kernel
theorem dX8_readsTeller_0 : decode cX8_readsTeller 0 = .ok (.aload_n 0, 1) := by decide +kernel
theorem dX8_readsTeller_1 : decode cX8_readsTeller 1 = .ok (.getfield 7, 3) := by decide +kernel
theorem dX8_readsTeller_4 : decode cX8_readsTeller 4 = .ok (.sipush 1323, 3) := by decide +kernel
theorem dX8_readsTeller_7 : decode cX8_readsTeller 7 = .ok (.iaload, 1) := by decide +kernel
theorem dX8_readsTeller_8 : decode cX8_readsTeller 8 = .ok (.istore_n 1, 1) := by decide +kernel
theorem dX8_readsTeller_9 : decode cX8_readsTeller 9 = .ok (.iload_n 1, 1) := by decide +kernel
theorem dX8_readsTeller_10 : decode cX8_readsTeller 10 = .ok (.iconst 4, 1) := by decide +kernel
theorem dX8_readsTeller_11 : decode cX8_readsTeller 11 = .ok (.if_icmp .ne 9, 3) := by decide +kernel
theorem dX8_readsTeller_14 : decode cX8_readsTeller 14 = .ok (.aload_n 0, 1) := by decide +kernel
theorem dX8_readsTeller_15 : decode cX8_readsTeller 15 = .ok (.iconst 3, 1) := by decide +kernel
theorem dX8_readsTeller_16 : decode cX8_readsTeller 16 = .ok (.invokevirtual 90, 3) := by decide +kernel
theorem dX8_readsTeller_19 : decode cX8_readsTeller 19 = .ok (.ireturn, 1) := by decide +kernel
theorem dX8_readsTeller_20 : decode cX8_readsTeller 20 = .ok (.aload_n 0, 1) := by decide +kernel
theorem dX8_readsTeller_21 : decode cX8_readsTeller 21 = .ok (.getfield 7, 3) := by decide +kernel
theorem dX8_readsTeller_24 : decode cX8_readsTeller 24 = .ok (.sipush 1352, 3) := by decide +kernel
theorem dX8_readsTeller_27 : decode cX8_readsTeller 27 = .ok (.iload_n 1, 1) := by decide +kernel
theorem dX8_readsTeller_28 : decode cX8_readsTeller 28 = .ok (.iadd, 1) := by decide +kernel
theorem dX8_readsTeller_29 : decode cX8_readsTeller 29 = .ok (.aload_n 0, 1) := by decide +kernel
theorem dX8_readsTeller_30 : decode cX8_readsTeller 30 = .ok (.getfield 26, 3) := by decide +kernel
theorem dX8_readsTeller_33 : decode cX8_readsTeller 33 = .ok (.aload_n 0, 1) := by decide +kernel
theorem dX8_readsTeller_34 : decode cX8_readsTeller 34 = .ok (.getfield 77, 3) := by decide +kernel
theorem dX8_readsTeller_37 : decode cX8_readsTeller 37 = .ok (.iaload, 1) := by decide +kernel
theorem dX8_readsTeller_38 : decode cX8_readsTeller 38 = .ok (.invokestatic 106, 3) := by decide +kernel
theorem dX8_readsTeller_41 : decode cX8_readsTeller 41 = .ok (.iastore, 1) := by decide +kernel
theorem dX8_readsTeller_42 : decode cX8_readsTeller 42 = .ok (.aload_n 0, 1) := by decide +kernel
theorem dX8_readsTeller_43 : decode cX8_readsTeller 43 = .ok (.dup, 1) := by decide +kernel
theorem dX8_readsTeller_44 : decode cX8_readsTeller 44 = .ok (.getfield 77, 3) := by decide +kernel
theorem dX8_readsTeller_47 : decode cX8_readsTeller 47 = .ok (.iconst 1, 1) := by decide +kernel
theorem dX8_readsTeller_48 : decode cX8_readsTeller 48 = .ok (.iadd, 1) := by decide +kernel
theorem dX8_readsTeller_49 : decode cX8_readsTeller 49 = .ok (.putfield 77, 3) := by decide +kernel
theorem dX8_readsTeller_52 : decode cX8_readsTeller 52 = .ok (.aload_n 0, 1) := by decide +kernel
theorem dX8_readsTeller_53 : decode cX8_readsTeller 53 = .ok (.iconst 0, 1) := by decide +kernel
theorem dX8_readsTeller_54 : decode cX8_readsTeller 54 = .ok (.bipush 60, 2) := by decide +kernel
theorem dX8_readsTeller_56 : decode cX8_readsTeller 56 = .ok (.invokevirtual 102, 3) := by decide +kernel
theorem dX8_readsTeller_59 : decode cX8_readsTeller 59 = .ok (.ifCond .ne 5, 3) := by decide +kernel
theorem dX8_readsTeller_62 : decode cX8_readsTeller 62 = .ok (.iconst 0, 1) := by decide +kernel
theorem dX8_readsTeller_63 : decode cX8_readsTeller 63 = .ok (.ireturn, 1) := by decide +kernel
theorem dX8_readsTeller_64 : decode cX8_readsTeller 64 = .ok (.aload_n 0, 1) := by decide +kernel
theorem dX8_readsTeller_65 : decode cX8_readsTeller 65 = .ok (.getfield 7, 3) := by decide +kernel
theorem dX8_readsTeller_68 : decode cX8_readsTeller 68 = .ok (.sipush 1356, 3) := by decide +kernel
theorem dX8_readsTeller_71 : decode cX8_readsTeller 71 = .ok (.iload_n 1, 1) := by decide +kernel
theorem dX8_readsTeller_72 : decode cX8_readsTeller 72 = .ok (.iadd, 1) := by decide +kernel
theorem dX8_readsTeller_73 : decode cX8_readsTeller 73 = .ok (.aload_n 0, 1) := by decide +kernel
theorem dX8_readsTeller_74 : decode cX8_readsTeller 74 = .ok (.getfield 96, 3) := by decide +kernel
theorem dX8_readsTeller_77 : decode cX8_readsTeller 77 = .ok (.iastore, 1) := by decide +kernel
theorem dX8_readsTeller_78 : decode cX8_readsTeller 78 = .ok (.aload_n 0, 1) := by decide +kernel
theorem dX8_readsTeller_79 : decode cX8_readsTeller 79 = .ok (.getfield 7, 3) := by decide +kernel
theorem dX8_readsTeller_82 : decode cX8_readsTeller 82 = .ok (.sipush 1364, 3) := by decide +kernel
theorem dX8_readsTeller_85 : decode cX8_readsTeller 85 = .ok (.iload_n 1, 1) := by decide +kernel
theorem dX8_readsTeller_86 : decode cX8_readsTeller 86 = .ok (.iadd, 1) := by decide +kernel
theorem dX8_readsTeller_87 : decode cX8_readsTeller 87 = .ok (.aload_n 0, 1) := by decide +kernel
theorem dX8_readsTeller_88 : decode cX8_readsTeller 88 = .ok (.getfield 96, 3) := by decide +kernel
theorem dX8_readsTeller_91 : decode cX8_readsTeller 91 = .ok (.iastore, 1) := by decide +kernel
theorem dX8_readsTeller_92 : decode cX8_readsTeller 92 = .ok (.aload_n 0, 1) := by decide +kernel
theorem dX8_readsTeller_93 : decode cX8_readsTeller 93 = .ok (.bipush 44, 2) := by decide +kernel
theorem dX8_readsTeller_95 : decode cX8_readsTeller 95 = .ok (.invokevirtual 99, 3) := by decide +kernel
theorem dX8_readsTeller_98 : decode cX8_readsTeller 98 = .ok (.ifCond .eq 13, 3) := by decide +kernel
theorem dX8_readsTeller_101 : decode cX8_readsTeller 101 = .ok (.aload_n 0, 1) := by decide +kernel
theorem dX8_readsTeller_102 : decode cX8_readsTeller 102 = .ok (.iconst 1, 1) := by decide +kernel
theorem dX8_readsTeller_103 : decode cX8_readsTeller 103 = .ok (.bipush 9, 2) := by decide +kernel
theorem dX8_readsTeller_105 : decode cX8_readsTeller 105 = .ok (.invokevirtual 102, 3) := by decide +kernel
theorem dX8_readsTeller_108 : decode cX8_readsTeller 108 = .ok (.ifCond .ne 5, 3) := by decide +kernel
theorem dX8_readsTeller_111 : decode cX8_readsTeller 111 = .ok (.iconst 0, 1) := by decide +kernel
theorem dX8_readsTeller_112 : decode cX8_readsTeller 112 = .ok (.ireturn, 1) := by decide +kernel
theorem dX8_readsTeller_113 : decode cX8_readsTeller 113 = .ok (.aload_n 0, 1) := by decide +kernel
theorem dX8_readsTeller_114 : decode cX8_readsTeller 114 = .ok (.getfield 7, 3) := by decide +kernel
theorem dX8_readsTeller_117 : decode cX8_readsTeller 117 = .ok (.sipush 1360, 3) := by decide +kernel
theorem dX8_readsTeller_120 : decode cX8_readsTeller 120 = .ok (.iload_n 1, 1) := by decide +kernel
theorem dX8_readsTeller_121 : decode cX8_readsTeller 121 = .ok (.iadd, 1) := by decide +kernel
theorem dX8_readsTeller_122 : decode cX8_readsTeller 122 = .ok (.aload_n 0, 1) := by decide +kernel
theorem dX8_readsTeller_123 : decode cX8_readsTeller 123 = .ok (.getfield 96, 3) := by decide +kernel
theorem dX8_readsTeller_126 : decode cX8_readsTeller 126 = .ok (.iastore, 1) := by decide +kernel
theorem dX8_readsTeller_127 : decode cX8_readsTeller 127 = .ok (.aload_n 0, 1) := by decide +kernel
theorem dX8_readsTeller_128 : decode cX8_readsTeller 128 = .ok (.getfield 7, 3) := by decide +kernel
theorem dX8_readsTeller_131 : decode cX8_readsTeller 131 = .ok (.sipush 1323, 3) := by decide +kernel
theorem dX8_readsTeller_134 : decode cX8_readsTeller 134 = .ok (.dup2, 1) := by decide +kernel
theorem dX8_readsTeller_135 : decode cX8_readsTeller 135 = .ok (.iaload, 1) := by decide +kernel
theorem dX8_readsTeller_136 : decode cX8_readsTeller 136 = .ok (.iconst 1, 1) := by decide +kernel
theorem dX8_readsTeller_137 : decode cX8_readsTeller 137 = .ok (.iadd, 1) := by decide +kernel
theorem dX8_readsTeller_138 : decode cX8_readsTeller 138 = .ok (.iastore, 1) := by decide +kernel
theorem dX8_readsTeller_139 : decode cX8_readsTeller 139 = .ok (.aload_n 0, 1) := by decide +kernel
theorem dX8_readsTeller_140 : decode cX8_readsTeller 140 = .ok (.bipush 59, 2) := by decide +kernel
theorem dX8_readsTeller_142 : decode cX8_readsTeller 142 = .ok (.invokevirtual 99, 3) := by decide +kernel
theorem dX8_readsTeller_145 : decode cX8_readsTeller 145 = .ok (.ireturn, 1) := by decide +kernel
theorem dX8_readsPaper_0 : decode cX8_readsPaper 0 = .ok (.aload_n 0, 1) := by decide +kernel
theorem dX8_readsPaper_1 : decode cX8_readsPaper 1 = .ok (.getfield 7, 3) := by decide +kernel
theorem dX8_readsPaper_4 : decode cX8_readsPaper 4 = .ok (.sipush 1330, 3) := by decide +kernel
theorem dX8_readsPaper_7 : decode cX8_readsPaper 7 = .ok (.iaload, 1) := by decide +kernel
theorem dX8_readsPaper_8 : decode cX8_readsPaper 8 = .ok (.istore_n 1, 1) := by decide +kernel
theorem dX8_readsPaper_9 : decode cX8_readsPaper 9 = .ok (.iload_n 1, 1) := by decide +kernel
theorem dX8_readsPaper_10 : decode cX8_readsPaper 10 = .ok (.bipush 7, 2) := by decide +kernel
theorem dX8_readsPaper_12 : decode cX8_readsPaper 12 = .ok (.if_icmp .ne 9, 3) := by decide +kernel
theorem dX8_readsPaper_15 : decode cX8_readsPaper 15 = .ok (.aload_n 0, 1) := by decide +kernel
theorem dX8_readsPaper_16 : decode cX8_readsPaper 16 = .ok (.iconst 3, 1) := by decide +kernel
theorem dX8_readsPaper_17 : decode cX8_readsPaper 17 = .ok (.invokevirtual 90, 3) := by decide +kernel
theorem dX8_readsPaper_20 : decode cX8_readsPaper 20 = .ok (.ireturn, 1) := by decide +kernel
theorem dX8_readsPaper_21 : decode cX8_readsPaper 21 = .ok (.aload_n 0, 1) := by decide +kernel
theorem dX8_readsPaper_22 : decode cX8_readsPaper 22 = .ok (.getfield 7, 3) := by decide +kernel
theorem dX8_readsPaper_25 : decode cX8_readsPaper 25 = .ok (.sipush 1345, 3) := by decide +kernel
theorem dX8_readsPaper_28 : decode cX8_readsPaper 28 = .ok (.iload_n 1, 1) := by decide +kernel
theorem dX8_readsPaper_29 : decode cX8_readsPaper 29 = .ok (.iadd, 1) := by decide +kernel
theorem dX8_readsPaper_30 : decode cX8_readsPaper 30 = .ok (.aload_n 0, 1) := by decide +kernel
theorem dX8_readsPaper_31 : decode cX8_readsPaper 31 = .ok (.getfield 26, 3) := by decide +kernel
theorem dX8_readsPaper_34 : decode cX8_readsPaper 34 = .ok (.aload_n 0, 1) := by decide +kernel
theorem dX8_readsPaper_35 : decode cX8_readsPaper 35 = .ok (.getfield 77, 3) := by decide +kernel
theorem dX8_readsPaper_38 : decode cX8_readsPaper 38 = .ok (.iaload, 1) := by decide +kernel
theorem dX8_readsPaper_39 : decode cX8_readsPaper 39 = .ok (.bipush 100, 2) := by decide +kernel
theorem dX8_readsPaper_41 : decode cX8_readsPaper 41 = .ok (.if_icmp .ne 7, 3) := by decide +kernel
theorem dX8_readsPaper_44 : decode cX8_readsPaper 44 = .ok (.iconst 1, 1) := by decide +kernel
theorem dX8_readsPaper_45 : decode cX8_readsPaper 45 = .ok (.goto 4, 3) := by decide +kernel
theorem dX8_readsPaper_48 : decode cX8_readsPaper 48 = .ok (.iconst 0, 1) := by decide +kernel
theorem dX8_readsPaper_49 : decode cX8_readsPaper 49 = .ok (.iastore, 1) := by decide +kernel
theorem dX8_readsPaper_50 : decode cX8_readsPaper 50 = .ok (.aload_n 0, 1) := by decide +kernel
theorem dX8_readsPaper_51 : decode cX8_readsPaper 51 = .ok (.dup, 1) := by decide +kernel
theorem dX8_readsPaper_52 : decode cX8_readsPaper 52 = .ok (.getfield 77, 3) := by decide +kernel
theorem dX8_readsPaper_55 : decode cX8_readsPaper 55 = .ok (.iconst 1, 1) := by decide +kernel
theorem dX8_readsPaper_56 : decode cX8_readsPaper 56 = .ok (.iadd, 1) := by decide +kernel
theorem dX8_readsPaper_57 : decode cX8_readsPaper 57 = .ok (.putfield 77, 3) := by decide +kernel
theorem dX8_readsPaper_60 : decode cX8_readsPaper 60 = .ok (.aload_n 0, 1) := by decide +kernel
theorem dX8_readsPaper_61 : decode cX8_readsPaper 61 = .ok (.iconst 1, 1) := by decide +kernel
theorem dX8_readsPaper_62 : decode cX8_readsPaper 62 = .ok (.bipush 30, 2) := by decide +kernel
theorem dX8_readsPaper_64 : decode cX8_readsPaper 64 = .ok (.invokevirtual 102, 3) := by decide +kernel
theorem dX8_readsPaper_67 : decode cX8_readsPaper 67 = .ok (.ifCond .ne 5, 3) := by decide +kernel
theorem dX8_readsPaper_70 : decode cX8_readsPaper 70 = .ok (.iconst 0, 1) := by decide +kernel
theorem dX8_readsPaper_71 : decode cX8_readsPaper 71 = .ok (.ireturn, 1) := by decide +kernel
theorem dX8_readsPaper_72 : decode cX8_readsPaper 72 = .ok (.aload_n 0, 1) := by decide +kernel
theorem dX8_readsPaper_73 : decode cX8_readsPaper 73 = .ok (.getfield 7, 3) := by decide +kernel
theorem dX8_readsPaper_76 : decode cX8_readsPaper 76 = .ok (.sipush 1338, 3) := by decide +kernel
theorem dX8_readsPaper_79 : decode cX8_readsPaper 79 = .ok (.iload_n 1, 1) := by decide +kernel
theorem dX8_readsPaper_80 : decode cX8_readsPaper 80 = .ok (.iadd, 1) := by decide +kernel
theorem dX8_readsPaper_81 : decode cX8_readsPaper 81 = .ok (.aload_n 0, 1) := by decide +kernel
theorem dX8_readsPaper_82 : decode cX8_readsPaper 82 = .ok (.getfield 96, 3) := by decide +kernel
theorem dX8_readsPaper_85 : decode cX8_readsPaper 85 = .ok (.iastore, 1) := by decide +kernel
theorem dX8_readsPaper_86 : decode cX8_readsPaper 86 = .ok (.aload_n 0, 1) := by decide +kernel
theorem dX8_readsPaper_87 : decode cX8_readsPaper 87 = .ok (.getfield 7, 3) := by decide +kernel
theorem dX8_readsPaper_90 : decode cX8_readsPaper 90 = .ok (.sipush 1331, 3) := by decide +kernel
theorem dX8_readsPaper_93 : decode cX8_readsPaper 93 = .ok (.iload_n 1, 1) := by decide +kernel
theorem dX8_readsPaper_94 : decode cX8_readsPaper 94 = .ok (.iadd, 1) := by decide +kernel
theorem dX8_readsPaper_95 : decode cX8_readsPaper 95 = .ok (.iload_n 1, 1) := by decide +kernel
theorem dX8_readsPaper_96 : decode cX8_readsPaper 96 = .ok (.iastore, 1) := by decide +kernel
theorem dX8_readsPaper_97 : decode cX8_readsPaper 97 = .ok (.aload_n 0, 1) := by decide +kernel
theorem dX8_readsPaper_98 : decode cX8_readsPaper 98 = .ok (.getfield 7, 3) := by decide +kernel
theorem dX8_readsPaper_101 : decode cX8_readsPaper 101 = .ok (.sipush 1330, 3) := by decide +kernel
theorem dX8_readsPaper_104 : decode cX8_readsPaper 104 = .ok (.dup2, 1) := by decide +kernel
theorem dX8_readsPaper_105 : decode cX8_readsPaper 105 = .ok (.iaload, 1) := by decide +kernel
theorem dX8_readsPaper_106 : decode cX8_readsPaper 106 = .ok (.iconst 1, 1) := by decide +kernel
theorem dX8_readsPaper_107 : decode cX8_readsPaper 107 = .ok (.iadd, 1) := by decide +kernel
theorem dX8_readsPaper_108 : decode cX8_readsPaper 108 = .ok (.iastore, 1) := by decide +kernel
theorem dX8_readsPaper_109 : decode cX8_readsPaper 109 = .ok (.aload_n 0, 1) := by decide +kernel
theorem dX8_readsPaper_110 : decode cX8_readsPaper 110 = .ok (.bipush 59, 2) := by decide +kernel
theorem dX8_readsPaper_112 : decode cX8_readsPaper 112 = .ok (.invokevirtual 99, 3) := by decide +kernel
theorem dX8_readsPaper_115 : decode cX8_readsPaper 115 = .ok (.ireturn, 1) := by decide +kernel
theorem dX8_isSort_0 : decode cX8_isSort 0 = .ok (.aload_n 0, 1) := by decide +kernel
theorem dX8_isSort_1 : decode cX8_isSort 1 = .ok (.getfield 77, 3) := by decide +kernel
theorem dX8_isSort_4 : decode cX8_isSort 4 = .ok (.aload_n 0, 1) := by decide +kernel
theorem dX8_isSort_5 : decode cX8_isSort 5 = .ok (.getfield 73, 3) := by decide +kernel
theorem dX8_isSort_8 : decode cX8_isSort 8 = .ok (.if_icmp .ge 22, 3) := by decide +kernel
theorem dX8_isSort_11 : decode cX8_isSort 11 = .ok (.aload_n 0, 1) := by decide +kernel
theorem dX8_isSort_12 : decode cX8_isSort 12 = .ok (.getfield 26, 3) := by decide +kernel
theorem dX8_isSort_15 : decode cX8_isSort 15 = .ok (.aload_n 0, 1) := by decide +kernel
theorem dX8_isSort_16 : decode cX8_isSort 16 = .ok (.getfield 77, 3) := by decide +kernel
theorem dX8_isSort_19 : decode cX8_isSort 19 = .ok (.iaload, 1) := by decide +kernel
theorem dX8_isSort_20 : decode cX8_isSort 20 = .ok (.invokestatic 106, 3) := by decide +kernel
theorem dX8_isSort_23 : decode cX8_isSort 23 = .ok (.ifCond .le 7, 3) := by decide +kernel
theorem dX8_isSort_26 : decode cX8_isSort 26 = .ok (.iconst 1, 1) := by decide +kernel
theorem dX8_isSort_27 : decode cX8_isSort 27 = .ok (.goto 4, 3) := by decide +kernel
theorem dX8_isSort_30 : decode cX8_isSort 30 = .ok (.iconst 0, 1) := by decide +kernel
theorem dX8_isSort_31 : decode cX8_isSort 31 = .ok (.ireturn, 1) := by decide +kernel
theorem dX8_reads_0 : decode cX8_reads 0 = .ok (.iconst 0, 1) := by decide +kernel
theorem dX8_reads_1 : decode cX8_reads 1 = .ok (.istore_n 1, 1) := by decide +kernel
theorem dX8_reads_2 : decode cX8_reads 2 = .ok (.iload_n 1, 1) := by decide +kernel
theorem dX8_reads_3 : decode cX8_reads 3 = .ok (.bipush 49, 2) := by decide +kernel
theorem dX8_reads_5 : decode cX8_reads 5 = .ok (.if_icmp .ge 38, 3) := by decide +kernel
theorem dX8_reads_8 : decode cX8_reads 8 = .ok (.aload_n 0, 1) := by decide +kernel
theorem dX8_reads_9 : decode cX8_reads 9 = .ok (.getfield 7, 3) := by decide +kernel
theorem dX8_reads_12 : decode cX8_reads 12 = .ok (.sipush 1323, 3) := by decide +kernel
theorem dX8_reads_15 : decode cX8_reads 15 = .ok (.iload_n 1, 1) := by decide +kernel
theorem dX8_reads_16 : decode cX8_reads 16 = .ok (.iadd, 1) := by decide +kernel
theorem dX8_reads_17 : decode cX8_reads 17 = .ok (.iload_n 1, 1) := by decide +kernel
theorem dX8_reads_18 : decode cX8_reads 18 = .ok (.i2l, 1) := by decide +kernel
theorem dX8_reads_19 : decode cX8_reads 19 = .ok (.ldc2_w 109, 3) := by decide +kernel
theorem dX8_reads_22 : decode cX8_reads 22 = .ok (.ldc2_w 111, 3) := by decide +kernel
theorem dX8_reads_25 : decode cX8_reads 25 = .ok (.invokestatic 45, 3) := by decide +kernel
theorem dX8_reads_28 : decode cX8_reads 28 = .ok (.ifCond .eq 7, 3) := by decide +kernel
theorem dX8_reads_31 : decode cX8_reads 31 = .ok (.iconst (-1), 1) := by decide +kernel
theorem dX8_reads_32 : decode cX8_reads 32 = .ok (.goto 4, 3) := by decide +kernel
theorem dX8_reads_35 : decode cX8_reads 35 = .ok (.iconst 0, 1) := by decide +kernel
theorem dX8_reads_36 : decode cX8_reads 36 = .ok (.iastore, 1) := by decide +kernel
theorem dX8_reads_37 : decode cX8_reads 37 = .ok (.iinc 1 1, 3) := by decide +kernel
theorem dX8_reads_40 : decode cX8_reads 40 = .ok (.goto (-38), 3) := by decide +kernel
theorem dX8_reads_43 : decode cX8_reads 43 = .ok (.aload_n 0, 1) := by decide +kernel
theorem dX8_reads_44 : decode cX8_reads 44 = .ok (.iconst 0, 1) := by decide +kernel
theorem dX8_reads_45 : decode cX8_reads 45 = .ok (.putfield 77, 3) := by decide +kernel
theorem dX8_reads_48 : decode cX8_reads 48 = .ok (.aload_n 0, 1) := by decide +kernel
theorem dX8_reads_49 : decode cX8_reads 49 = .ok (.invokevirtual 113, 3) := by decide +kernel
theorem dX8_reads_52 : decode cX8_reads 52 = .ok (.ifCond .ne 5, 3) := by decide +kernel
theorem dX8_reads_55 : decode cX8_reads 55 = .ok (.iconst 0, 1) := by decide +kernel
theorem dX8_reads_56 : decode cX8_reads 56 = .ok (.ireturn, 1) := by decide +kernel
theorem dX8_reads_57 : decode cX8_reads 57 = .ok (.aload_n 0, 1) := by decide +kernel
theorem dX8_reads_58 : decode cX8_reads 58 = .ok (.invokevirtual 117, 3) := by decide +kernel
theorem dX8_reads_61 : decode cX8_reads 61 = .ok (.ifCond .ne 9, 3) := by decide +kernel
theorem dX8_reads_64 : decode cX8_reads 64 = .ok (.aload_n 0, 1) := by decide +kernel
theorem dX8_reads_65 : decode cX8_reads 65 = .ok (.iconst 1, 1) := by decide +kernel
theorem dX8_reads_66 : decode cX8_reads 66 = .ok (.invokevirtual 90, 3) := by decide +kernel
theorem dX8_reads_69 : decode cX8_reads 69 = .ok (.ireturn, 1) := by decide +kernel
theorem dX8_reads_70 : decode cX8_reads 70 = .ok (.iconst 1, 1) := by decide +kernel
theorem dX8_reads_71 : decode cX8_reads 71 = .ok (.istore_n 1, 1) := by decide +kernel
theorem dX8_reads_72 : decode cX8_reads 72 = .ok (.iload_n 1, 1) := by decide +kernel
theorem dX8_reads_73 : decode cX8_reads 73 = .ok (.ifCond .eq 18, 3) := by decide +kernel
theorem dX8_reads_76 : decode cX8_reads 76 = .ok (.aload_n 0, 1) := by decide +kernel
theorem dX8_reads_77 : decode cX8_reads 77 = .ok (.invokevirtual 117, 3) := by decide +kernel
theorem dX8_reads_80 : decode cX8_reads 80 = .ok (.ifCond .eq 11, 3) := by decide +kernel
theorem dX8_reads_83 : decode cX8_reads 83 = .ok (.aload_n 0, 1) := by decide +kernel
theorem dX8_reads_84 : decode cX8_reads 84 = .ok (.invokevirtual 120, 3) := by decide +kernel
theorem dX8_reads_87 : decode cX8_reads 87 = .ok (.istore_n 1, 1) := by decide +kernel
theorem dX8_reads_88 : decode cX8_reads 88 = .ok (.goto (-16), 3) := by decide +kernel
theorem dX8_reads_91 : decode cX8_reads 91 = .ok (.iload_n 1, 1) := by decide +kernel
theorem dX8_reads_92 : decode cX8_reads 92 = .ok (.ifCond .eq 29, 3) := by decide +kernel
theorem dX8_reads_95 : decode cX8_reads 95 = .ok (.aload_n 0, 1) := by decide +kernel
theorem dX8_reads_96 : decode cX8_reads 96 = .ok (.bipush 100, 2) := by decide +kernel
theorem dX8_reads_98 : decode cX8_reads 98 = .ok (.invokevirtual 87, 3) := by decide +kernel
theorem dX8_reads_101 : decode cX8_reads 101 = .ok (.ifCond .ne 12, 3) := by decide +kernel
theorem dX8_reads_104 : decode cX8_reads 104 = .ok (.aload_n 0, 1) := by decide +kernel
theorem dX8_reads_105 : decode cX8_reads 105 = .ok (.bipush 112, 2) := by decide +kernel
theorem dX8_reads_107 : decode cX8_reads 107 = .ok (.invokevirtual 87, 3) := by decide +kernel
theorem dX8_reads_110 : decode cX8_reads 110 = .ok (.ifCond .eq 11, 3) := by decide +kernel
theorem dX8_reads_113 : decode cX8_reads 113 = .ok (.aload_n 0, 1) := by decide +kernel
theorem dX8_reads_114 : decode cX8_reads 114 = .ok (.invokevirtual 123, 3) := by decide +kernel
theorem dX8_reads_117 : decode cX8_reads 117 = .ok (.istore_n 1, 1) := by decide +kernel
theorem dX8_reads_118 : decode cX8_reads 118 = .ok (.goto (-27), 3) := by decide +kernel
theorem dX8_reads_121 : decode cX8_reads 121 = .ok (.iload_n 1, 1) := by decide +kernel
theorem dX8_reads_122 : decode cX8_reads 122 = .ok (.ifCond .eq 26, 3) := by decide +kernel
theorem dX8_reads_125 : decode cX8_reads 125 = .ok (.aload_n 0, 1) := by decide +kernel
theorem dX8_reads_126 : decode cX8_reads 126 = .ok (.getfield 77, 3) := by decide +kernel
theorem dX8_reads_129 : decode cX8_reads 129 = .ok (.aload_n 0, 1) := by decide +kernel
theorem dX8_reads_130 : decode cX8_reads 130 = .ok (.getfield 73, 3) := by decide +kernel
theorem dX8_reads_133 : decode cX8_reads 133 = .ok (.if_icmp .eq 11, 3) := by decide +kernel
theorem dX8_reads_136 : decode cX8_reads 136 = .ok (.aload_n 0, 1) := by decide +kernel
theorem dX8_reads_137 : decode cX8_reads 137 = .ok (.iconst 1, 1) := by decide +kernel
theorem dX8_reads_138 : decode cX8_reads 138 = .ok (.invokevirtual 90, 3) := by decide +kernel
theorem dX8_reads_141 : decode cX8_reads 141 = .ok (.ifCond .eq 7, 3) := by decide +kernel
theorem dX8_reads_144 : decode cX8_reads 144 = .ok (.iconst 1, 1) := by decide +kernel
theorem dX8_reads_145 : decode cX8_reads 145 = .ok (.goto 4, 3) := by decide +kernel
theorem dX8_reads_148 : decode cX8_reads 148 = .ok (.iconst 0, 1) := by decide +kernel
theorem dX8_reads_149 : decode cX8_reads 149 = .ok (.ireturn, 1) := by decide +kernel
theorem dX8_bank_0 : decode cX8_bank 0 = .ok (.aload_n 0, 1) := by decide +kernel
theorem dX8_bank_1 : decode cX8_bank 1 = .ok (.invokevirtual 126, 3) := by decide +kernel
theorem dX8_bank_4 : decode cX8_bank 4 = .ok (.istore_n 1, 1) := by decide +kernel
theorem dX8_bank_5 : decode cX8_bank 5 = .ok (.aload_n 0, 1) := by decide +kernel
theorem dX8_bank_6 : decode cX8_bank 6 = .ok (.iconst 0, 1) := by decide +kernel
theorem dX8_bank_7 : decode cX8_bank 7 = .ok (.putfield 73, 3) := by decide +kernel
theorem dX8_bank_10 : decode cX8_bank 10 = .ok (.iload_n 1, 1) := by decide +kernel
theorem dX8_bank_11 : decode cX8_bank 11 = .ok (.ifCond .ne 19, 3) := by decide +kernel
theorem dX8_bank_14 : decode cX8_bank 14 = .ok (.aload_n 0, 1) := by decide +kernel
theorem dX8_bank_15 : decode cX8_bank 15 = .ok (.aload_n 0, 1) := by decide +kernel
theorem dX8_bank_16 : decode cX8_bank 16 = .ok (.getfield 84, 3) := by decide +kernel
theorem dX8_bank_19 : decode cX8_bank 19 = .ok (.putfield 129, 3) := by decide +kernel
theorem dX8_bank_22 : decode cX8_bank 22 = .ok (.ldc 132, 2) := by decide +kernel
theorem dX8_bank_24 : decode cX8_bank 24 = .ok (.aload_n 0, 1) := by decide +kernel
theorem dX8_bank_25 : decode cX8_bank 25 = .ok (.getfield 77, 3) := by decide +kernel
theorem dX8_bank_28 : decode cX8_bank 28 = .ok (.isub, 1) := by decide +kernel
theorem dX8_bank_29 : decode cX8_bank 29 = .ok (.ireturn, 1) := by decide +kernel
theorem dX8_bank_30 : decode cX8_bank 30 = .ok (.aload_n 0, 1) := by decide +kernel
theorem dX8_bank_31 : decode cX8_bank 31 = .ok (.getfield 7, 3) := by decide +kernel
theorem dX8_bank_34 : decode cX8_bank 34 = .ok (.sipush 1329, 3) := by decide +kernel
theorem dX8_bank_37 : decode cX8_bank 37 = .ok (.iconst 1, 1) := by decide +kernel
theorem dX8_bank_38 : decode cX8_bank 38 = .ok (.aload_n 0, 1) := by decide +kernel
theorem dX8_bank_39 : decode cX8_bank 39 = .ok (.getfield 7, 3) := by decide +kernel
theorem dX8_bank_42 : decode cX8_bank 42 = .ok (.sipush 1323, 3) := by decide +kernel
theorem dX8_bank_45 : decode cX8_bank 45 = .ok (.iaload, 1) := by decide +kernel
theorem dX8_bank_46 : decode cX8_bank 46 = .ok (.ishl, 1) := by decide +kernel
theorem dX8_bank_47 : decode cX8_bank 47 = .ok (.iconst 1, 1) := by decide +kernel
theorem dX8_bank_48 : decode cX8_bank 48 = .ok (.isub, 1) := by decide +kernel
theorem dX8_bank_49 : decode cX8_bank 49 = .ok (.iastore, 1) := by decide +kernel
theorem dX8_bank_50 : decode cX8_bank 50 = .ok (.aload_n 0, 1) := by decide +kernel
theorem dX8_bank_51 : decode cX8_bank 51 = .ok (.sipush 1323, 3) := by decide +kernel
theorem dX8_bank_54 : decode cX8_bank 54 = .ok (.iconst 0, 1) := by decide +kernel
theorem dX8_bank_55 : decode cX8_bank 55 = .ok (.invokevirtual 133, 3) := by decide +kernel
theorem dX8_bank_58 : decode cX8_bank 58 = .ok (.aload_n 0, 1) := by decide +kernel
theorem dX8_bank_59 : decode cX8_bank 59 = .ok (.iconst 1, 1) := by decide +kernel
theorem dX8_bank_60 : decode cX8_bank 60 = .ok (.putfield 137, 3) := by decide +kernel
theorem dX8_bank_63 : decode cX8_bank 63 = .ok (.aload_n 0, 1) := by decide +kernel
theorem dX8_bank_64 : decode cX8_bank 64 = .ok (.iconst 0, 1) := by decide +kernel
theorem dX8_bank_65 : decode cX8_bank 65 = .ok (.putfield 141, 3) := by decide +kernel
theorem dX8_bank_68 : decode cX8_bank 68 = .ok (.aload_n 0, 1) := by decide +kernel
theorem dX8_bank_69 : decode cX8_bank 69 = .ok (.getfield 7, 3) := by decide +kernel
theorem dX8_bank_72 : decode cX8_bank 72 = .ok (.iconst 0, 1) := by decide +kernel
theorem dX8_bank_73 : decode cX8_bank 73 = .ok (.iaload, 1) := by decide +kernel
theorem dX8_bank_74 : decode cX8_bank 74 = .ok (.ireturn, 1) := by decide +kernel
theorem dX8_fault_0 : decode cX8_fault 0 = .ok (.aload_n 0, 1) := by decide +kernel
theorem dX8_fault_1 : decode cX8_fault 1 = .ok (.getfield 129, 3) := by decide +kernel
theorem dX8_fault_4 : decode cX8_fault 4 = .ok (.ireturn, 1) := by decide +kernel
theorem dX8_copyTown_0 : decode cX8_copyTown 0 = .ok (.iconst 0, 1) := by decide +kernel
theorem dX8_copyTown_1 : decode cX8_copyTown 1 = .ok (.istore_n 3, 1) := by decide +kernel
theorem dX8_copyTown_2 : decode cX8_copyTown 2 = .ok (.iload_n 3, 1) := by decide +kernel
theorem dX8_copyTown_3 : decode cX8_copyTown 3 = .ok (.bipush 49, 2) := by decide +kernel
theorem dX8_copyTown_5 : decode cX8_copyTown 5 = .ok (.if_icmp .ge 25, 3) := by decide +kernel
theorem dX8_copyTown_8 : decode cX8_copyTown 8 = .ok (.aload_n 0, 1) := by decide +kernel
theorem dX8_copyTown_9 : decode cX8_copyTown 9 = .ok (.getfield 7, 3) := by decide +kernel
theorem dX8_copyTown_12 : decode cX8_copyTown 12 = .ok (.iload_n 2, 1) := by decide +kernel
theorem dX8_copyTown_13 : decode cX8_copyTown 13 = .ok (.iload_n 3, 1) := by decide +kernel
theorem dX8_copyTown_14 : decode cX8_copyTown 14 = .ok (.iadd, 1) := by decide +kernel
theorem dX8_copyTown_15 : decode cX8_copyTown 15 = .ok (.aload_n 0, 1) := by decide +kernel
theorem dX8_copyTown_16 : decode cX8_copyTown 16 = .ok (.getfield 7, 3) := by decide +kernel
theorem dX8_copyTown_19 : decode cX8_copyTown 19 = .ok (.iload_n 1, 1) := by decide +kernel
theorem dX8_copyTown_20 : decode cX8_copyTown 20 = .ok (.iload_n 3, 1) := by decide +kernel
theorem dX8_copyTown_21 : decode cX8_copyTown 21 = .ok (.iadd, 1) := by decide +kernel
theorem dX8_copyTown_22 : decode cX8_copyTown 22 = .ok (.iaload, 1) := by decide +kernel
theorem dX8_copyTown_23 : decode cX8_copyTown 23 = .ok (.iastore, 1) := by decide +kernel
theorem dX8_copyTown_24 : decode cX8_copyTown 24 = .ok (.iinc 3 1, 3) := by decide +kernel
theorem dX8_copyTown_27 : decode cX8_copyTown 27 = .ok (.goto (-25), 3) := by decide +kernel
theorem dX8_copyTown_30 : decode cX8_copyTown 30 = .ok (.return_, 1) := by decide +kernel
theorem dX8_keepPast_0 : decode cX8_keepPast 0 = .ok (.iconst 0, 1) := by decide +kernel
theorem dX8_keepPast_1 : decode cX8_keepPast 1 = .ok (.istore_n 1, 1) := by decide +kernel
theorem dX8_keepPast_2 : decode cX8_keepPast 2 = .ok (.iload_n 1, 1) := by decide +kernel
theorem dX8_keepPast_3 : decode cX8_keepPast 3 = .ok (.sipush 1127, 3) := by decide +kernel
theorem dX8_keepPast_6 : decode cX8_keepPast 6 = .ok (.if_icmp .ge 36, 3) := by decide +kernel
theorem dX8_keepPast_9 : decode cX8_keepPast 9 = .ok (.aload_n 0, 1) := by decide +kernel
theorem dX8_keepPast_10 : decode cX8_keepPast 10 = .ok (.getfield 141, 3) := by decide +kernel
theorem dX8_keepPast_13 : decode cX8_keepPast 13 = .ok (.bipush 24, 2) := by decide +kernel
theorem dX8_keepPast_15 : decode cX8_keepPast 15 = .ok (.if_icmp .ne 27, 3) := by decide +kernel
theorem dX8_keepPast_18 : decode cX8_keepPast 18 = .ok (.aload_n 0, 1) := by decide +kernel
theorem dX8_keepPast_19 : decode cX8_keepPast 19 = .ok (.getfield 7, 3) := by decide +kernel
theorem dX8_keepPast_22 : decode cX8_keepPast 22 = .ok (.bipush 49, 2) := by decide +kernel
theorem dX8_keepPast_24 : decode cX8_keepPast 24 = .ok (.iload_n 1, 1) := by decide +kernel
theorem dX8_keepPast_25 : decode cX8_keepPast 25 = .ok (.iadd, 1) := by decide +kernel
theorem dX8_keepPast_26 : decode cX8_keepPast 26 = .ok (.aload_n 0, 1) := by decide +kernel
theorem dX8_keepPast_27 : decode cX8_keepPast 27 = .ok (.getfield 7, 3) := by decide +kernel
theorem dX8_keepPast_30 : decode cX8_keepPast 30 = .ok (.bipush 98, 2) := by decide +kernel
theorem dX8_keepPast_32 : decode cX8_keepPast 32 = .ok (.iload_n 1, 1) := by decide +kernel
theorem dX8_keepPast_33 : decode cX8_keepPast 33 = .ok (.iadd, 1) := by decide +kernel
theorem dX8_keepPast_34 : decode cX8_keepPast 34 = .ok (.iaload, 1) := by decide +kernel
theorem dX8_keepPast_35 : decode cX8_keepPast 35 = .ok (.iastore, 1) := by decide +kernel
theorem dX8_keepPast_36 : decode cX8_keepPast 36 = .ok (.iinc 1 1, 3) := by decide +kernel
theorem dX8_keepPast_39 : decode cX8_keepPast 39 = .ok (.goto (-37), 3) := by decide +kernel
theorem dX8_keepPast_42 : decode cX8_keepPast 42 = .ok (.aload_n 0, 1) := by decide +kernel
theorem dX8_keepPast_43 : decode cX8_keepPast 43 = .ok (.dup, 1) := by decide +kernel
theorem dX8_keepPast_44 : decode cX8_keepPast 44 = .ok (.getfield 141, 3) := by decide +kernel
theorem dX8_keepPast_47 : decode cX8_keepPast 47 = .ok (.aload_n 0, 1) := by decide +kernel
theorem dX8_keepPast_48 : decode cX8_keepPast 48 = .ok (.getfield 141, 3) := by decide +kernel
theorem dX8_keepPast_51 : decode cX8_keepPast 51 = .ok (.bipush 24, 2) := by decide +kernel
theorem dX8_keepPast_53 : decode cX8_keepPast 53 = .ok (.if_icmp .ne 7, 3) := by decide +kernel
theorem dX8_keepPast_56 : decode cX8_keepPast 56 = .ok (.iconst 1, 1) := by decide +kernel
theorem dX8_keepPast_57 : decode cX8_keepPast 57 = .ok (.goto 4, 3) := by decide +kernel
theorem dX8_keepPast_60 : decode cX8_keepPast 60 = .ok (.iconst 0, 1) := by decide +kernel
theorem dX8_keepPast_61 : decode cX8_keepPast 61 = .ok (.isub, 1) := by decide +kernel
theorem dX8_keepPast_62 : decode cX8_keepPast 62 = .ok (.putfield 141, 3) := by decide +kernel
theorem dX8_keepPast_65 : decode cX8_keepPast 65 = .ok (.aload_n 0, 1) := by decide +kernel
theorem dX8_keepPast_66 : decode cX8_keepPast 66 = .ok (.iconst 0, 1) := by decide +kernel
theorem dX8_keepPast_67 : decode cX8_keepPast 67 = .ok (.bipush 49, 2) := by decide +kernel
theorem dX8_keepPast_69 : decode cX8_keepPast 69 = .ok (.bipush 49, 2) := by decide +kernel
theorem dX8_keepPast_71 : decode cX8_keepPast 71 = .ok (.aload_n 0, 1) := by decide +kernel
theorem dX8_keepPast_72 : decode cX8_keepPast 72 = .ok (.getfield 141, 3) := by decide +kernel
theorem dX8_keepPast_75 : decode cX8_keepPast 75 = .ok (.imul, 1) := by decide +kernel
theorem dX8_keepPast_76 : decode cX8_keepPast 76 = .ok (.iadd, 1) := by decide +kernel
theorem dX8_keepPast_77 : decode cX8_keepPast 77 = .ok (.invokevirtual 133, 3) := by decide +kernel
theorem dX8_keepPast_80 : decode cX8_keepPast 80 = .ok (.aload_n 0, 1) := by decide +kernel
theorem dX8_keepPast_81 : decode cX8_keepPast 81 = .ok (.dup, 1) := by decide +kernel
theorem dX8_keepPast_82 : decode cX8_keepPast 82 = .ok (.getfield 141, 3) := by decide +kernel
theorem dX8_keepPast_85 : decode cX8_keepPast 85 = .ok (.iconst 1, 1) := by decide +kernel
theorem dX8_keepPast_86 : decode cX8_keepPast 86 = .ok (.iadd, 1) := by decide +kernel
theorem dX8_keepPast_87 : decode cX8_keepPast 87 = .ok (.putfield 141, 3) := by decide +kernel
theorem dX8_keepPast_90 : decode cX8_keepPast 90 = .ok (.return_, 1) := by decide +kernel
theorem dX8_undo_0 : decode cX8_undo 0 = .ok (.aload_n 0, 1) := by decide +kernel
theorem dX8_undo_1 : decode cX8_undo 1 = .ok (.getfield 141, 3) := by decide +kernel
theorem dX8_undo_4 : decode cX8_undo 4 = .ok (.ifCond .ne 6, 3) := by decide +kernel
theorem dX8_undo_7 : decode cX8_undo 7 = .ok (.ldc 144, 2) := by decide +kernel
theorem dX8_undo_9 : decode cX8_undo 9 = .ok (.ireturn, 1) := by decide +kernel
theorem dX8_undo_10 : decode cX8_undo 10 = .ok (.aload_n 0, 1) := by decide +kernel
theorem dX8_undo_11 : decode cX8_undo 11 = .ok (.dup, 1) := by decide +kernel
theorem dX8_undo_12 : decode cX8_undo 12 = .ok (.getfield 141, 3) := by decide +kernel
theorem dX8_undo_15 : decode cX8_undo 15 = .ok (.iconst 1, 1) := by decide +kernel
theorem dX8_undo_16 : decode cX8_undo 16 = .ok (.isub, 1) := by decide +kernel
theorem dX8_undo_17 : decode cX8_undo 17 = .ok (.putfield 141, 3) := by decide +kernel
theorem dX8_undo_20 : decode cX8_undo 20 = .ok (.aload_n 0, 1) := by decide +kernel
theorem dX8_undo_21 : decode cX8_undo 21 = .ok (.bipush 49, 2) := by decide +kernel
theorem dX8_undo_23 : decode cX8_undo 23 = .ok (.bipush 49, 2) := by decide +kernel
theorem dX8_undo_25 : decode cX8_undo 25 = .ok (.aload_n 0, 1) := by decide +kernel
theorem dX8_undo_26 : decode cX8_undo 26 = .ok (.getfield 141, 3) := by decide +kernel
theorem dX8_undo_29 : decode cX8_undo 29 = .ok (.imul, 1) := by decide +kernel
theorem dX8_undo_30 : decode cX8_undo 30 = .ok (.iadd, 1) := by decide +kernel
theorem dX8_undo_31 : decode cX8_undo 31 = .ok (.iconst 0, 1) := by decide +kernel
theorem dX8_undo_32 : decode cX8_undo 32 = .ok (.invokevirtual 133, 3) := by decide +kernel
theorem dX8_undo_35 : decode cX8_undo 35 = .ok (.aload_n 0, 1) := by decide +kernel
theorem dX8_undo_36 : decode cX8_undo 36 = .ok (.getfield 141, 3) := by decide +kernel
theorem dX8_undo_39 : decode cX8_undo 39 = .ok (.ireturn, 1) := by decide +kernel
theorem dX8_isTeller_0 : decode cX8_isTeller 0 = .ok (.iload_n 1, 1) := by decide +kernel
theorem dX8_isTeller_1 : decode cX8_isTeller 1 = .ok (.i2l, 1) := by decide +kernel
theorem dX8_isTeller_2 : decode cX8_isTeller 2 = .ok (.lconst 0, 1) := by decide +kernel
theorem dX8_isTeller_3 : decode cX8_isTeller 3 = .ok (.aload_n 0, 1) := by decide +kernel
theorem dX8_isTeller_4 : decode cX8_isTeller 4 = .ok (.getfield 7, 3) := by decide +kernel
theorem dX8_isTeller_7 : decode cX8_isTeller 7 = .ok (.iconst 0, 1) := by decide +kernel
theorem dX8_isTeller_8 : decode cX8_isTeller 8 = .ok (.iaload, 1) := by decide +kernel
theorem dX8_isTeller_9 : decode cX8_isTeller 9 = .ok (.iconst 1, 1) := by decide +kernel
theorem dX8_isTeller_10 : decode cX8_isTeller 10 = .ok (.isub, 1) := by decide +kernel
theorem dX8_isTeller_11 : decode cX8_isTeller 11 = .ok (.i2l, 1) := by decide +kernel
theorem dX8_isTeller_12 : decode cX8_isTeller 12 = .ok (.invokestatic 45, 3) := by decide +kernel
theorem dX8_isTeller_15 : decode cX8_isTeller 15 = .ok (.ireturn, 1) := by decide +kernel
theorem dX8_costOf_0 : decode cX8_costOf 0 = .ok (.iload_n 3, 1) := by decide +kernel
theorem dX8_costOf_1 : decode cX8_costOf 1 = .ok (.aload_n 0, 1) := by decide +kernel
theorem dX8_costOf_2 : decode cX8_costOf 2 = .ok (.getfield 7, 3) := by decide +kernel
theorem dX8_costOf_5 : decode cX8_costOf 5 = .ok (.iload_n 1, 1) := by decide +kernel
theorem dX8_costOf_6 : decode cX8_costOf 6 = .ok (.bipush 37, 2) := by decide +kernel
theorem dX8_costOf_8 : decode cX8_costOf 8 = .ok (.iadd, 1) := by decide +kernel
theorem dX8_costOf_9 : decode cX8_costOf 9 = .ok (.iload_n 2, 1) := by decide +kernel
theorem dX8_costOf_10 : decode cX8_costOf 10 = .ok (.iadd, 1) := by decide +kernel
theorem dX8_costOf_11 : decode cX8_costOf 11 = .ok (.iaload, 1) := by decide +kernel
theorem dX8_costOf_12 : decode cX8_costOf 12 = .ok (.isub, 1) := by decide +kernel
theorem dX8_costOf_13 : decode cX8_costOf 13 = .ok (.istore 4, 2) := by decide +kernel
theorem dX8_costOf_15 : decode cX8_costOf 15 = .ok (.iload 4, 2) := by decide +kernel
theorem dX8_costOf_17 : decode cX8_costOf 17 = .ok (.iconst 1, 1) := by decide +kernel
theorem dX8_costOf_18 : decode cX8_costOf 18 = .ok (.if_icmp .ge 7, 3) := by decide +kernel
theorem dX8_costOf_21 : decode cX8_costOf 21 = .ok (.iconst 1, 1) := by decide +kernel
theorem dX8_costOf_22 : decode cX8_costOf 22 = .ok (.goto 5, 3) := by decide +kernel
theorem dX8_costOf_25 : decode cX8_costOf 25 = .ok (.iload 4, 2) := by decide +kernel
theorem dX8_costOf_27 : decode cX8_costOf 27 = .ok (.istore 4, 2) := by decide +kernel
theorem dX8_costOf_29 : decode cX8_costOf 29 = .ok (.aload_n 0, 1) := by decide +kernel
theorem dX8_costOf_30 : decode cX8_costOf 30 = .ok (.getfield 7, 3) := by decide +kernel
theorem dX8_costOf_33 : decode cX8_costOf 33 = .ok (.iload_n 1, 1) := by decide +kernel
theorem dX8_costOf_34 : decode cX8_costOf 34 = .ok (.bipush 29, 2) := by decide +kernel
theorem dX8_costOf_36 : decode cX8_costOf 36 = .ok (.iadd, 1) := by decide +kernel
theorem dX8_costOf_37 : decode cX8_costOf 37 = .ok (.iload_n 2, 1) := by decide +kernel
theorem dX8_costOf_38 : decode cX8_costOf 38 = .ok (.iadd, 1) := by decide +kernel
theorem dX8_costOf_39 : decode cX8_costOf 39 = .ok (.iaload, 1) := by decide +kernel
theorem dX8_costOf_40 : decode cX8_costOf 40 = .ok (.tableswitch 49 1 4 #[32, 35, 42, 47], 32) := by decide +kernel
theorem dX8_costOf_72 : decode cX8_costOf 72 = .ok (.iload 4, 2) := by decide +kernel
theorem dX8_costOf_74 : decode cX8_costOf 74 = .ok (.ireturn, 1) := by decide +kernel
theorem dX8_costOf_75 : decode cX8_costOf 75 = .ok (.iload 4, 2) := by decide +kernel
theorem dX8_costOf_77 : decode cX8_costOf 77 = .ok (.iconst 2, 1) := by decide +kernel
theorem dX8_costOf_78 : decode cX8_costOf 78 = .ok (.idiv, 1) := by decide +kernel
theorem dX8_costOf_79 : decode cX8_costOf 79 = .ok (.iconst 1, 1) := by decide +kernel
theorem dX8_costOf_80 : decode cX8_costOf 80 = .ok (.iadd, 1) := by decide +kernel
theorem dX8_costOf_81 : decode cX8_costOf 81 = .ok (.ireturn, 1) := by decide +kernel
theorem dX8_costOf_82 : decode cX8_costOf 82 = .ok (.iload 4, 2) := by decide +kernel
theorem dX8_costOf_84 : decode cX8_costOf 84 = .ok (.iconst 2, 1) := by decide +kernel
theorem dX8_costOf_85 : decode cX8_costOf 85 = .ok (.iadd, 1) := by decide +kernel
theorem dX8_costOf_86 : decode cX8_costOf 86 = .ok (.ireturn, 1) := by decide +kernel
theorem dX8_costOf_87 : decode cX8_costOf 87 = .ok (.iload_n 3, 1) := by decide +kernel
theorem dX8_costOf_88 : decode cX8_costOf 88 = .ok (.ireturn, 1) := by decide +kernel
theorem dX8_costOf_89 : decode cX8_costOf 89 = .ok (.iload_n 3, 1) := by decide +kernel
theorem dX8_costOf_90 : decode cX8_costOf 90 = .ok (.bipush 9, 2) := by decide +kernel
theorem dX8_costOf_92 : decode cX8_costOf 92 = .ok (.if_icmp .le 8, 3) := by decide +kernel
theorem dX8_costOf_95 : decode cX8_costOf 95 = .ok (.bipush 9, 2) := by decide +kernel
theorem dX8_costOf_97 : decode cX8_costOf 97 = .ok (.goto 4, 3) := by decide +kernel
theorem dX8_costOf_100 : decode cX8_costOf 100 = .ok (.iload_n 3, 1) := by decide +kernel
theorem dX8_costOf_101 : decode cX8_costOf 101 = .ok (.ireturn, 1) := by decide +kernel
theorem dX8_mayPay_0 : decode cX8_mayPay 0 = .ok (.aload_n 0, 1) := by decide +kernel
theorem dX8_mayPay_1 : decode cX8_mayPay 1 = .ok (.getfield 7, 3) := by decide +kernel
theorem dX8_mayPay_4 : decode cX8_mayPay 4 = .ok (.iload_n 1, 1) := by decide +kernel
theorem dX8_mayPay_5 : decode cX8_mayPay 5 = .ok (.bipush 41, 2) := by decide +kernel
theorem dX8_mayPay_7 : decode cX8_mayPay 7 = .ok (.iadd, 1) := by decide +kernel
theorem dX8_mayPay_8 : decode cX8_mayPay 8 = .ok (.iload_n 2, 1) := by decide +kernel
theorem dX8_mayPay_9 : decode cX8_mayPay 9 = .ok (.iadd, 1) := by decide +kernel
theorem dX8_mayPay_10 : decode cX8_mayPay 10 = .ok (.iaload, 1) := by decide +kernel
theorem dX8_mayPay_11 : decode cX8_mayPay 11 = .ok (.aload_n 0, 1) := by decide +kernel
theorem dX8_mayPay_12 : decode cX8_mayPay 12 = .ok (.iload_n 1, 1) := by decide +kernel
theorem dX8_mayPay_13 : decode cX8_mayPay 13 = .ok (.iload_n 2, 1) := by decide +kernel
theorem dX8_mayPay_14 : decode cX8_mayPay 14 = .ok (.iload_n 3, 1) := by decide +kernel
theorem dX8_mayPay_15 : decode cX8_mayPay 15 = .ok (.invokevirtual 145, 3) := by decide +kernel
theorem dX8_mayPay_18 : decode cX8_mayPay 18 = .ok (.isub, 1) := by decide +kernel
theorem dX8_mayPay_19 : decode cX8_mayPay 19 = .ok (.aload_n 0, 1) := by decide +kernel
theorem dX8_mayPay_20 : decode cX8_mayPay 20 = .ok (.getfield 7, 3) := by decide +kernel
theorem dX8_mayPay_23 : decode cX8_mayPay 23 = .ok (.iload_n 1, 1) := by decide +kernel
theorem dX8_mayPay_24 : decode cX8_mayPay 24 = .ok (.iconst 1, 1) := by decide +kernel
theorem dX8_mayPay_25 : decode cX8_mayPay 25 = .ok (.iadd, 1) := by decide +kernel
theorem dX8_mayPay_26 : decode cX8_mayPay 26 = .ok (.iaload, 1) := by decide +kernel
theorem dX8_mayPay_27 : decode cX8_mayPay 27 = .ok (.if_icmp .lt 7, 3) := by decide +kernel
theorem dX8_mayPay_30 : decode cX8_mayPay 30 = .ok (.iconst 1, 1) := by decide +kernel
theorem dX8_mayPay_31 : decode cX8_mayPay 31 = .ok (.goto 4, 3) := by decide +kernel
theorem dX8_mayPay_34 : decode cX8_mayPay 34 = .ok (.iconst 0, 1) := by decide +kernel
theorem dX8_mayPay_35 : decode cX8_mayPay 35 = .ok (.ireturn, 1) := by decide +kernel
theorem dX8_whoServes_0 : decode cX8_whoServes 0 = .ok (.aload_n 0, 1) := by decide +kernel
theorem dX8_whoServes_1 : decode cX8_whoServes 1 = .ok (.getfield 7, 3) := by decide +kernel
theorem dX8_whoServes_4 : decode cX8_whoServes 4 = .ok (.iload_n 1, 1) := by decide +kernel
theorem dX8_whoServes_5 : decode cX8_whoServes 5 = .ok (.bipush 15, 2) := by decide +kernel
theorem dX8_whoServes_7 : decode cX8_whoServes 7 = .ok (.iadd, 1) := by decide +kernel
theorem dX8_whoServes_8 : decode cX8_whoServes 8 = .ok (.iload_n 2, 1) := by decide +kernel
theorem dX8_whoServes_9 : decode cX8_whoServes 9 = .ok (.iadd, 1) := by decide +kernel
theorem dX8_whoServes_10 : decode cX8_whoServes 10 = .ok (.iaload, 1) := by decide +kernel
theorem dX8_whoServes_11 : decode cX8_whoServes 11 = .ok (.istore_n 3, 1) := by decide +kernel
theorem dX8_whoServes_12 : decode cX8_whoServes 12 = .ok (.ldc 149, 2) := by decide +kernel
theorem dX8_whoServes_14 : decode cX8_whoServes 14 = .ok (.istore 4, 2) := by decide +kernel
theorem dX8_whoServes_16 : decode cX8_whoServes 16 = .ok (.iconst 0, 1) := by decide +kernel
theorem dX8_whoServes_17 : decode cX8_whoServes 17 = .ok (.istore 5, 2) := by decide +kernel
theorem dX8_whoServes_19 : decode cX8_whoServes 19 = .ok (.iload 5, 2) := by decide +kernel
theorem dX8_whoServes_21 : decode cX8_whoServes 21 = .ok (.aload_n 0, 1) := by decide +kernel
theorem dX8_whoServes_22 : decode cX8_whoServes 22 = .ok (.getfield 7, 3) := by decide +kernel
theorem dX8_whoServes_25 : decode cX8_whoServes 25 = .ok (.iload_n 1, 1) := by decide +kernel
theorem dX8_whoServes_26 : decode cX8_whoServes 26 = .ok (.iconst 0, 1) := by decide +kernel
theorem dX8_whoServes_27 : decode cX8_whoServes 27 = .ok (.iadd, 1) := by decide +kernel
theorem dX8_whoServes_28 : decode cX8_whoServes 28 = .ok (.iaload, 1) := by decide +kernel
theorem dX8_whoServes_29 : decode cX8_whoServes 29 = .ok (.if_icmp .ge 163, 3) := by decide +kernel
theorem dX8_whoServes_32 : decode cX8_whoServes 32 = .ok (.aload_n 0, 1) := by decide +kernel
theorem dX8_whoServes_33 : decode cX8_whoServes 33 = .ok (.getfield 7, 3) := by decide +kernel
theorem dX8_whoServes_36 : decode cX8_whoServes 36 = .ok (.iload_n 1, 1) := by decide +kernel
theorem dX8_whoServes_37 : decode cX8_whoServes 37 = .ok (.bipush 6, 2) := by decide +kernel
theorem dX8_whoServes_39 : decode cX8_whoServes 39 = .ok (.iadd, 1) := by decide +kernel
theorem dX8_whoServes_40 : decode cX8_whoServes 40 = .ok (.iaload, 1) := by decide +kernel
theorem dX8_whoServes_41 : decode cX8_whoServes 41 = .ok (.iload 5, 2) := by decide +kernel
theorem dX8_whoServes_43 : decode cX8_whoServes 43 = .ok (.invokestatic 150, 3) := by decide +kernel
theorem dX8_whoServes_46 : decode cX8_whoServes 46 = .ok (.ifCond .eq 32, 3) := by decide +kernel
theorem dX8_whoServes_49 : decode cX8_whoServes 49 = .ok (.aload_n 0, 1) := by decide +kernel
theorem dX8_whoServes_50 : decode cX8_whoServes 50 = .ok (.getfield 7, 3) := by decide +kernel
theorem dX8_whoServes_53 : decode cX8_whoServes 53 = .ok (.iload_n 1, 1) := by decide +kernel
theorem dX8_whoServes_54 : decode cX8_whoServes 54 = .ok (.bipush 22, 2) := by decide +kernel
theorem dX8_whoServes_56 : decode cX8_whoServes 56 = .ok (.iadd, 1) := by decide +kernel
theorem dX8_whoServes_57 : decode cX8_whoServes 57 = .ok (.iload_n 2, 1) := by decide +kernel
theorem dX8_whoServes_58 : decode cX8_whoServes 58 = .ok (.iadd, 1) := by decide +kernel
theorem dX8_whoServes_59 : decode cX8_whoServes 59 = .ok (.iaload, 1) := by decide +kernel
theorem dX8_whoServes_60 : decode cX8_whoServes 60 = .ok (.ifCond .eq 14, 3) := by decide +kernel
theorem dX8_whoServes_63 : decode cX8_whoServes 63 = .ok (.aload_n 0, 1) := by decide +kernel
theorem dX8_whoServes_64 : decode cX8_whoServes 64 = .ok (.iload_n 1, 1) := by decide +kernel
theorem dX8_whoServes_65 : decode cX8_whoServes 65 = .ok (.iload 5, 2) := by decide +kernel
theorem dX8_whoServes_67 : decode cX8_whoServes 67 = .ok (.iload_n 3, 1) := by decide +kernel
theorem dX8_whoServes_68 : decode cX8_whoServes 68 = .ok (.invokevirtual 153, 3) := by decide +kernel
theorem dX8_whoServes_71 : decode cX8_whoServes 71 = .ok (.ifCond .eq 7, 3) := by decide +kernel
theorem dX8_whoServes_74 : decode cX8_whoServes 74 = .ok (.iconst 1, 1) := by decide +kernel
theorem dX8_whoServes_75 : decode cX8_whoServes 75 = .ok (.goto 4, 3) := by decide +kernel
theorem dX8_whoServes_78 : decode cX8_whoServes 78 = .ok (.iconst 0, 1) := by decide +kernel
theorem dX8_whoServes_79 : decode cX8_whoServes 79 = .ok (.istore 6, 2) := by decide +kernel
theorem dX8_whoServes_81 : decode cX8_whoServes 81 = .ok (.iload 4, 2) := by decide +kernel
theorem dX8_whoServes_83 : decode cX8_whoServes 83 = .ok (.ldc 149, 2) := by decide +kernel
theorem dX8_whoServes_85 : decode cX8_whoServes 85 = .ok (.if_icmp .eq 75, 3) := by decide +kernel
theorem dX8_whoServes_88 : decode cX8_whoServes 88 = .ok (.aload_n 0, 1) := by decide +kernel
theorem dX8_whoServes_89 : decode cX8_whoServes 89 = .ok (.getfield 7, 3) := by decide +kernel
theorem dX8_whoServes_92 : decode cX8_whoServes 92 = .ok (.iload_n 1, 1) := by decide +kernel
theorem dX8_whoServes_93 : decode cX8_whoServes 93 = .ok (.bipush 22, 2) := by decide +kernel
theorem dX8_whoServes_95 : decode cX8_whoServes 95 = .ok (.iadd, 1) := by decide +kernel
theorem dX8_whoServes_96 : decode cX8_whoServes 96 = .ok (.iload_n 2, 1) := by decide +kernel
theorem dX8_whoServes_97 : decode cX8_whoServes 97 = .ok (.iadd, 1) := by decide +kernel
theorem dX8_whoServes_98 : decode cX8_whoServes 98 = .ok (.iaload, 1) := by decide +kernel
theorem dX8_whoServes_99 : decode cX8_whoServes 99 = .ok (.iconst 1, 1) := by decide +kernel
theorem dX8_whoServes_100 : decode cX8_whoServes 100 = .ok (.if_icmp .ne 33, 3) := by decide +kernel
theorem dX8_whoServes_103 : decode cX8_whoServes 103 = .ok (.aload_n 0, 1) := by decide +kernel
theorem dX8_whoServes_104 : decode cX8_whoServes 104 = .ok (.getfield 7, 3) := by decide +kernel
theorem dX8_whoServes_107 : decode cX8_whoServes 107 = .ok (.iload_n 1, 1) := by decide +kernel
theorem dX8_whoServes_108 : decode cX8_whoServes 108 = .ok (.bipush 41, 2) := by decide +kernel
theorem dX8_whoServes_110 : decode cX8_whoServes 110 = .ok (.iadd, 1) := by decide +kernel
theorem dX8_whoServes_111 : decode cX8_whoServes 111 = .ok (.iload 5, 2) := by decide +kernel
theorem dX8_whoServes_113 : decode cX8_whoServes 113 = .ok (.iadd, 1) := by decide +kernel
theorem dX8_whoServes_114 : decode cX8_whoServes 114 = .ok (.iaload, 1) := by decide +kernel
theorem dX8_whoServes_115 : decode cX8_whoServes 115 = .ok (.aload_n 0, 1) := by decide +kernel
theorem dX8_whoServes_116 : decode cX8_whoServes 116 = .ok (.getfield 7, 3) := by decide +kernel
theorem dX8_whoServes_119 : decode cX8_whoServes 119 = .ok (.iload_n 1, 1) := by decide +kernel
theorem dX8_whoServes_120 : decode cX8_whoServes 120 = .ok (.bipush 41, 2) := by decide +kernel
theorem dX8_whoServes_122 : decode cX8_whoServes 122 = .ok (.iadd, 1) := by decide +kernel
theorem dX8_whoServes_123 : decode cX8_whoServes 123 = .ok (.iload 4, 2) := by decide +kernel
theorem dX8_whoServes_125 : decode cX8_whoServes 125 = .ok (.iadd, 1) := by decide +kernel
theorem dX8_whoServes_126 : decode cX8_whoServes 126 = .ok (.iaload, 1) := by decide +kernel
theorem dX8_whoServes_127 : decode cX8_whoServes 127 = .ok (.if_icmp .le 37, 3) := by decide +kernel
theorem dX8_whoServes_130 : decode cX8_whoServes 130 = .ok (.goto 30, 3) := by decide +kernel
theorem dX8_whoServes_133 : decode cX8_whoServes 133 = .ok (.aload_n 0, 1) := by decide +kernel
theorem dX8_whoServes_134 : decode cX8_whoServes 134 = .ok (.getfield 7, 3) := by decide +kernel
theorem dX8_whoServes_137 : decode cX8_whoServes 137 = .ok (.iload_n 1, 1) := by decide +kernel
theorem dX8_whoServes_138 : decode cX8_whoServes 138 = .ok (.bipush 41, 2) := by decide +kernel
theorem dX8_whoServes_140 : decode cX8_whoServes 140 = .ok (.iadd, 1) := by decide +kernel
theorem dX8_whoServes_141 : decode cX8_whoServes 141 = .ok (.iload 5, 2) := by decide +kernel
theorem dX8_whoServes_143 : decode cX8_whoServes 143 = .ok (.iadd, 1) := by decide +kernel
theorem dX8_whoServes_144 : decode cX8_whoServes 144 = .ok (.iaload, 1) := by decide +kernel
theorem dX8_whoServes_145 : decode cX8_whoServes 145 = .ok (.aload_n 0, 1) := by decide +kernel
theorem dX8_whoServes_146 : decode cX8_whoServes 146 = .ok (.getfield 7, 3) := by decide +kernel
theorem dX8_whoServes_149 : decode cX8_whoServes 149 = .ok (.iload_n 1, 1) := by decide +kernel
theorem dX8_whoServes_150 : decode cX8_whoServes 150 = .ok (.bipush 41, 2) := by decide +kernel
theorem dX8_whoServes_152 : decode cX8_whoServes 152 = .ok (.iadd, 1) := by decide +kernel
theorem dX8_whoServes_153 : decode cX8_whoServes 153 = .ok (.iload 4, 2) := by decide +kernel
theorem dX8_whoServes_155 : decode cX8_whoServes 155 = .ok (.iadd, 1) := by decide +kernel
theorem dX8_whoServes_156 : decode cX8_whoServes 156 = .ok (.iaload, 1) := by decide +kernel
theorem dX8_whoServes_157 : decode cX8_whoServes 157 = .ok (.if_icmp .ge 7, 3) := by decide +kernel
theorem dX8_whoServes_160 : decode cX8_whoServes 160 = .ok (.iconst 1, 1) := by decide +kernel
theorem dX8_whoServes_161 : decode cX8_whoServes 161 = .ok (.goto 4, 3) := by decide +kernel
theorem dX8_whoServes_164 : decode cX8_whoServes 164 = .ok (.iconst 0, 1) := by decide +kernel
theorem dX8_whoServes_165 : decode cX8_whoServes 165 = .ok (.istore 7, 2) := by decide +kernel
theorem dX8_whoServes_167 : decode cX8_whoServes 167 = .ok (.iload 6, 2) := by decide +kernel
theorem dX8_whoServes_169 : decode cX8_whoServes 169 = .ok (.ifCond .eq 13, 3) := by decide +kernel
theorem dX8_whoServes_172 : decode cX8_whoServes 172 = .ok (.iload 7, 2) := by decide +kernel
theorem dX8_whoServes_174 : decode cX8_whoServes 174 = .ok (.ifCond .eq 8, 3) := by decide +kernel
theorem dX8_whoServes_177 : decode cX8_whoServes 177 = .ok (.iload 5, 2) := by decide +kernel
theorem dX8_whoServes_179 : decode cX8_whoServes 179 = .ok (.goto 5, 3) := by decide +kernel
theorem dX8_whoServes_182 : decode cX8_whoServes 182 = .ok (.iload 4, 2) := by decide +kernel
theorem dX8_whoServes_184 : decode cX8_whoServes 184 = .ok (.istore 4, 2) := by decide +kernel
theorem dX8_whoServes_186 : decode cX8_whoServes 186 = .ok (.iinc 5 1, 3) := by decide +kernel
theorem dX8_whoServes_189 : decode cX8_whoServes 189 = .ok (.goto (-170), 3) := by decide +kernel
theorem dX8_whoServes_192 : decode cX8_whoServes 192 = .ok (.iload 4, 2) := by decide +kernel
theorem dX8_whoServes_194 : decode cX8_whoServes 194 = .ok (.ireturn, 1) := by decide +kernel
theorem dX8_takeFrom_0 : decode cX8_takeFrom 0 = .ok (.aload_n 0, 1) := by decide +kernel
theorem dX8_takeFrom_1 : decode cX8_takeFrom 1 = .ok (.getfield 7, 3) := by decide +kernel
theorem dX8_takeFrom_4 : decode cX8_takeFrom 4 = .ok (.iload_n 1, 1) := by decide +kernel
theorem dX8_takeFrom_5 : decode cX8_takeFrom 5 = .ok (.bipush 15, 2) := by decide +kernel
theorem dX8_takeFrom_7 : decode cX8_takeFrom 7 = .ok (.iadd, 1) := by decide +kernel
theorem dX8_takeFrom_8 : decode cX8_takeFrom 8 = .ok (.iload_n 3, 1) := by decide +kernel
theorem dX8_takeFrom_9 : decode cX8_takeFrom 9 = .ok (.iadd, 1) := by decide +kernel
theorem dX8_takeFrom_10 : decode cX8_takeFrom 10 = .ok (.iaload, 1) := by decide +kernel
theorem dX8_takeFrom_11 : decode cX8_takeFrom 11 = .ok (.istore 4, 2) := by decide +kernel
theorem dX8_takeFrom_13 : decode cX8_takeFrom 13 = .ok (.aload_n 0, 1) := by decide +kernel
theorem dX8_takeFrom_14 : decode cX8_takeFrom 14 = .ok (.getfield 7, 3) := by decide +kernel
theorem dX8_takeFrom_17 : decode cX8_takeFrom 17 = .ok (.iload_n 1, 1) := by decide +kernel
theorem dX8_takeFrom_18 : decode cX8_takeFrom 18 = .ok (.bipush 41, 2) := by decide +kernel
theorem dX8_takeFrom_20 : decode cX8_takeFrom 20 = .ok (.iadd, 1) := by decide +kernel
theorem dX8_takeFrom_21 : decode cX8_takeFrom 21 = .ok (.iload_n 2, 1) := by decide +kernel
theorem dX8_takeFrom_22 : decode cX8_takeFrom 22 = .ok (.iadd, 1) := by decide +kernel
theorem dX8_takeFrom_23 : decode cX8_takeFrom 23 = .ok (.iaload, 1) := by decide +kernel
theorem dX8_takeFrom_24 : decode cX8_takeFrom 24 = .ok (.aload_n 0, 1) := by decide +kernel
theorem dX8_takeFrom_25 : decode cX8_takeFrom 25 = .ok (.getfield 7, 3) := by decide +kernel
theorem dX8_takeFrom_28 : decode cX8_takeFrom 28 = .ok (.iload_n 1, 1) := by decide +kernel
theorem dX8_takeFrom_29 : decode cX8_takeFrom 29 = .ok (.bipush 22, 2) := by decide +kernel
theorem dX8_takeFrom_31 : decode cX8_takeFrom 31 = .ok (.iadd, 1) := by decide +kernel
theorem dX8_takeFrom_32 : decode cX8_takeFrom 32 = .ok (.iload_n 3, 1) := by decide +kernel
theorem dX8_takeFrom_33 : decode cX8_takeFrom 33 = .ok (.iadd, 1) := by decide +kernel
theorem dX8_takeFrom_34 : decode cX8_takeFrom 34 = .ok (.iaload, 1) := by decide +kernel
theorem dX8_takeFrom_35 : decode cX8_takeFrom 35 = .ok (.iconst 1, 1) := by decide +kernel
theorem dX8_takeFrom_36 : decode cX8_takeFrom 36 = .ok (.if_icmp .ne 15, 3) := by decide +kernel
theorem dX8_takeFrom_39 : decode cX8_takeFrom 39 = .ok (.aload_n 0, 1) := by decide +kernel
theorem dX8_takeFrom_40 : decode cX8_takeFrom 40 = .ok (.iload_n 1, 1) := by decide +kernel
theorem dX8_takeFrom_41 : decode cX8_takeFrom 41 = .ok (.iload_n 2, 1) := by decide +kernel
theorem dX8_takeFrom_42 : decode cX8_takeFrom 42 = .ok (.iload 4, 2) := by decide +kernel
theorem dX8_takeFrom_44 : decode cX8_takeFrom 44 = .ok (.invokevirtual 145, 3) := by decide +kernel
theorem dX8_takeFrom_47 : decode cX8_takeFrom 47 = .ok (.ineg, 1) := by decide +kernel
theorem dX8_takeFrom_48 : decode cX8_takeFrom 48 = .ok (.goto 5, 3) := by decide +kernel
theorem dX8_takeFrom_51 : decode cX8_takeFrom 51 = .ok (.iload 4, 2) := by decide +kernel
theorem dX8_takeFrom_53 : decode cX8_takeFrom 53 = .ok (.iadd, 1) := by decide +kernel
theorem dX8_takeFrom_54 : decode cX8_takeFrom 54 = .ok (.istore 5, 2) := by decide +kernel
theorem dX8_takeFrom_56 : decode cX8_takeFrom 56 = .ok (.aload_n 0, 1) := by decide +kernel
theorem dX8_takeFrom_57 : decode cX8_takeFrom 57 = .ok (.getfield 7, 3) := by decide +kernel
theorem dX8_takeFrom_60 : decode cX8_takeFrom 60 = .ok (.iload_n 1, 1) := by decide +kernel
theorem dX8_takeFrom_61 : decode cX8_takeFrom 61 = .ok (.bipush 41, 2) := by decide +kernel
theorem dX8_takeFrom_63 : decode cX8_takeFrom 63 = .ok (.iadd, 1) := by decide +kernel
theorem dX8_takeFrom_64 : decode cX8_takeFrom 64 = .ok (.iload_n 2, 1) := by decide +kernel
theorem dX8_takeFrom_65 : decode cX8_takeFrom 65 = .ok (.iadd, 1) := by decide +kernel
theorem dX8_takeFrom_66 : decode cX8_takeFrom 66 = .ok (.iload 5, 2) := by decide +kernel
theorem dX8_takeFrom_68 : decode cX8_takeFrom 68 = .ok (.bipush 99, 2) := by decide +kernel
theorem dX8_takeFrom_70 : decode cX8_takeFrom 70 = .ok (.if_icmp .le 8, 3) := by decide +kernel
theorem dX8_takeFrom_73 : decode cX8_takeFrom 73 = .ok (.bipush 99, 2) := by decide +kernel
theorem dX8_takeFrom_75 : decode cX8_takeFrom 75 = .ok (.goto 5, 3) := by decide +kernel
theorem dX8_takeFrom_78 : decode cX8_takeFrom 78 = .ok (.iload 5, 2) := by decide +kernel
theorem dX8_takeFrom_80 : decode cX8_takeFrom 80 = .ok (.iastore, 1) := by decide +kernel
theorem dX8_takeFrom_81 : decode cX8_takeFrom 81 = .ok (.return_, 1) := by decide +kernel
theorem dX8_leaveFirst_0 : decode cX8_leaveFirst 0 = .ok (.iconst 1, 1) := by decide +kernel
theorem dX8_leaveFirst_1 : decode cX8_leaveFirst 1 = .ok (.istore_n 2, 1) := by decide +kernel
theorem dX8_leaveFirst_2 : decode cX8_leaveFirst 2 = .ok (.iload_n 2, 1) := by decide +kernel
theorem dX8_leaveFirst_3 : decode cX8_leaveFirst 3 = .ok (.aload_n 0, 1) := by decide +kernel
theorem dX8_leaveFirst_4 : decode cX8_leaveFirst 4 = .ok (.getfield 7, 3) := by decide +kernel
theorem dX8_leaveFirst_7 : decode cX8_leaveFirst 7 = .ok (.iload_n 1, 1) := by decide +kernel
theorem dX8_leaveFirst_8 : decode cX8_leaveFirst 8 = .ok (.bipush 7, 2) := by decide +kernel
theorem dX8_leaveFirst_10 : decode cX8_leaveFirst 10 = .ok (.iadd, 1) := by decide +kernel
theorem dX8_leaveFirst_11 : decode cX8_leaveFirst 11 = .ok (.iaload, 1) := by decide +kernel
theorem dX8_leaveFirst_12 : decode cX8_leaveFirst 12 = .ok (.if_icmp .ge 33, 3) := by decide +kernel
theorem dX8_leaveFirst_15 : decode cX8_leaveFirst 15 = .ok (.aload_n 0, 1) := by decide +kernel
theorem dX8_leaveFirst_16 : decode cX8_leaveFirst 16 = .ok (.getfield 7, 3) := by decide +kernel
theorem dX8_leaveFirst_19 : decode cX8_leaveFirst 19 = .ok (.iload_n 1, 1) := by decide +kernel
theorem dX8_leaveFirst_20 : decode cX8_leaveFirst 20 = .ok (.bipush 8, 2) := by decide +kernel
theorem dX8_leaveFirst_22 : decode cX8_leaveFirst 22 = .ok (.iadd, 1) := by decide +kernel
theorem dX8_leaveFirst_23 : decode cX8_leaveFirst 23 = .ok (.iload_n 2, 1) := by decide +kernel
theorem dX8_leaveFirst_24 : decode cX8_leaveFirst 24 = .ok (.iadd, 1) := by decide +kernel
theorem dX8_leaveFirst_25 : decode cX8_leaveFirst 25 = .ok (.iconst 1, 1) := by decide +kernel
theorem dX8_leaveFirst_26 : decode cX8_leaveFirst 26 = .ok (.isub, 1) := by decide +kernel
theorem dX8_leaveFirst_27 : decode cX8_leaveFirst 27 = .ok (.aload_n 0, 1) := by decide +kernel
theorem dX8_leaveFirst_28 : decode cX8_leaveFirst 28 = .ok (.getfield 7, 3) := by decide +kernel
theorem dX8_leaveFirst_31 : decode cX8_leaveFirst 31 = .ok (.iload_n 1, 1) := by decide +kernel
theorem dX8_leaveFirst_32 : decode cX8_leaveFirst 32 = .ok (.bipush 8, 2) := by decide +kernel
theorem dX8_leaveFirst_34 : decode cX8_leaveFirst 34 = .ok (.iadd, 1) := by decide +kernel
theorem dX8_leaveFirst_35 : decode cX8_leaveFirst 35 = .ok (.iload_n 2, 1) := by decide +kernel
theorem dX8_leaveFirst_36 : decode cX8_leaveFirst 36 = .ok (.iadd, 1) := by decide +kernel
theorem dX8_leaveFirst_37 : decode cX8_leaveFirst 37 = .ok (.iaload, 1) := by decide +kernel
theorem dX8_leaveFirst_38 : decode cX8_leaveFirst 38 = .ok (.iastore, 1) := by decide +kernel
theorem dX8_leaveFirst_39 : decode cX8_leaveFirst 39 = .ok (.iinc 2 1, 3) := by decide +kernel
theorem dX8_leaveFirst_42 : decode cX8_leaveFirst 42 = .ok (.goto (-40), 3) := by decide +kernel
theorem dX8_leaveFirst_45 : decode cX8_leaveFirst 45 = .ok (.aload_n 0, 1) := by decide +kernel
theorem dX8_leaveFirst_46 : decode cX8_leaveFirst 46 = .ok (.getfield 7, 3) := by decide +kernel
theorem dX8_leaveFirst_49 : decode cX8_leaveFirst 49 = .ok (.iload_n 1, 1) := by decide +kernel
theorem dX8_leaveFirst_50 : decode cX8_leaveFirst 50 = .ok (.bipush 7, 2) := by decide +kernel
theorem dX8_leaveFirst_52 : decode cX8_leaveFirst 52 = .ok (.iadd, 1) := by decide +kernel
theorem dX8_leaveFirst_53 : decode cX8_leaveFirst 53 = .ok (.dup2, 1) := by decide +kernel
theorem dX8_leaveFirst_54 : decode cX8_leaveFirst 54 = .ok (.iaload, 1) := by decide +kernel
theorem dX8_leaveFirst_55 : decode cX8_leaveFirst 55 = .ok (.iconst 1, 1) := by decide +kernel
theorem dX8_leaveFirst_56 : decode cX8_leaveFirst 56 = .ok (.isub, 1) := by decide +kernel
theorem dX8_leaveFirst_57 : decode cX8_leaveFirst 57 = .ok (.iastore, 1) := by decide +kernel
theorem dX8_leaveFirst_58 : decode cX8_leaveFirst 58 = .ok (.return_, 1) := by decide +kernel
theorem dX8_pass_0 : decode cX8_pass 0 = .ok (.ldc 149, 2) := by decide +kernel
theorem dX8_pass_2 : decode cX8_pass 2 = .ok (.istore_n 2, 1) := by decide +kernel
theorem dX8_pass_3 : decode cX8_pass 3 = .ok (.aload_n 0, 1) := by decide +kernel
theorem dX8_pass_4 : decode cX8_pass 4 = .ok (.getfield 7, 3) := by decide +kernel
theorem dX8_pass_7 : decode cX8_pass 7 = .ok (.iload_n 1, 1) := by decide +kernel
theorem dX8_pass_8 : decode cX8_pass 8 = .ok (.bipush 7, 2) := by decide +kernel
theorem dX8_pass_10 : decode cX8_pass 10 = .ok (.iadd, 1) := by decide +kernel
theorem dX8_pass_11 : decode cX8_pass 11 = .ok (.iaload, 1) := by decide +kernel
theorem dX8_pass_12 : decode cX8_pass 12 = .ok (.ifCond .le 80, 3) := by decide +kernel
theorem dX8_pass_15 : decode cX8_pass 15 = .ok (.aload_n 0, 1) := by decide +kernel
theorem dX8_pass_16 : decode cX8_pass 16 = .ok (.getfield 7, 3) := by decide +kernel
theorem dX8_pass_19 : decode cX8_pass 19 = .ok (.iload_n 1, 1) := by decide +kernel
theorem dX8_pass_20 : decode cX8_pass 20 = .ok (.bipush 8, 2) := by decide +kernel
theorem dX8_pass_22 : decode cX8_pass 22 = .ok (.iadd, 1) := by decide +kernel
theorem dX8_pass_23 : decode cX8_pass 23 = .ok (.iaload, 1) := by decide +kernel
theorem dX8_pass_24 : decode cX8_pass 24 = .ok (.istore_n 3, 1) := by decide +kernel
theorem dX8_pass_25 : decode cX8_pass 25 = .ok (.aload_n 0, 1) := by decide +kernel
theorem dX8_pass_26 : decode cX8_pass 26 = .ok (.iload_n 1, 1) := by decide +kernel
theorem dX8_pass_27 : decode cX8_pass 27 = .ok (.iload_n 3, 1) := by decide +kernel
theorem dX8_pass_28 : decode cX8_pass 28 = .ok (.invokevirtual 156, 3) := by decide +kernel
theorem dX8_pass_31 : decode cX8_pass 31 = .ok (.istore_n 2, 1) := by decide +kernel
theorem dX8_pass_32 : decode cX8_pass 32 = .ok (.iload_n 2, 1) := by decide +kernel
theorem dX8_pass_33 : decode cX8_pass 33 = .ok (.ldc 149, 2) := by decide +kernel
theorem dX8_pass_35 : decode cX8_pass 35 = .ok (.if_icmp .ne 18, 3) := by decide +kernel
theorem dX8_pass_38 : decode cX8_pass 38 = .ok (.aload_n 0, 1) := by decide +kernel
theorem dX8_pass_39 : decode cX8_pass 39 = .ok (.getfield 7, 3) := by decide +kernel
theorem dX8_pass_42 : decode cX8_pass 42 = .ok (.iload_n 1, 1) := by decide +kernel
theorem dX8_pass_43 : decode cX8_pass 43 = .ok (.iconst 5, 1) := by decide +kernel
theorem dX8_pass_44 : decode cX8_pass 44 = .ok (.iadd, 1) := by decide +kernel
theorem dX8_pass_45 : decode cX8_pass 45 = .ok (.dup2, 1) := by decide +kernel
theorem dX8_pass_46 : decode cX8_pass 46 = .ok (.iaload, 1) := by decide +kernel
theorem dX8_pass_47 : decode cX8_pass 47 = .ok (.iconst 1, 1) := by decide +kernel
theorem dX8_pass_48 : decode cX8_pass 48 = .ok (.iadd, 1) := by decide +kernel
theorem dX8_pass_49 : decode cX8_pass 49 = .ok (.iastore, 1) := by decide +kernel
theorem dX8_pass_50 : decode cX8_pass 50 = .ok (.goto 37, 3) := by decide +kernel
theorem dX8_pass_53 : decode cX8_pass 53 = .ok (.aload_n 0, 1) := by decide +kernel
theorem dX8_pass_54 : decode cX8_pass 54 = .ok (.iload_n 1, 1) := by decide +kernel
theorem dX8_pass_55 : decode cX8_pass 55 = .ok (.iload_n 2, 1) := by decide +kernel
theorem dX8_pass_56 : decode cX8_pass 56 = .ok (.iload_n 3, 1) := by decide +kernel
theorem dX8_pass_57 : decode cX8_pass 57 = .ok (.invokevirtual 159, 3) := by decide +kernel
theorem dX8_pass_60 : decode cX8_pass 60 = .ok (.aload_n 0, 1) := by decide +kernel
theorem dX8_pass_61 : decode cX8_pass 61 = .ok (.getfield 7, 3) := by decide +kernel
theorem dX8_pass_64 : decode cX8_pass 64 = .ok (.iload_n 1, 1) := by decide +kernel
theorem dX8_pass_65 : decode cX8_pass 65 = .ok (.iconst 4, 1) := by decide +kernel
theorem dX8_pass_66 : decode cX8_pass 66 = .ok (.iadd, 1) := by decide +kernel
theorem dX8_pass_67 : decode cX8_pass 67 = .ok (.dup2, 1) := by decide +kernel
theorem dX8_pass_68 : decode cX8_pass 68 = .ok (.iaload, 1) := by decide +kernel
theorem dX8_pass_69 : decode cX8_pass 69 = .ok (.iconst 1, 1) := by decide +kernel
theorem dX8_pass_70 : decode cX8_pass 70 = .ok (.iadd, 1) := by decide +kernel
theorem dX8_pass_71 : decode cX8_pass 71 = .ok (.iastore, 1) := by decide +kernel
theorem dX8_pass_72 : decode cX8_pass 72 = .ok (.aload_n 0, 1) := by decide +kernel
theorem dX8_pass_73 : decode cX8_pass 73 = .ok (.getfield 7, 3) := by decide +kernel
theorem dX8_pass_76 : decode cX8_pass 76 = .ok (.iload_n 1, 1) := by decide +kernel
theorem dX8_pass_77 : decode cX8_pass 77 = .ok (.bipush 45, 2) := by decide +kernel
theorem dX8_pass_79 : decode cX8_pass 79 = .ok (.iadd, 1) := by decide +kernel
theorem dX8_pass_80 : decode cX8_pass 80 = .ok (.iload_n 2, 1) := by decide +kernel
theorem dX8_pass_81 : decode cX8_pass 81 = .ok (.iadd, 1) := by decide +kernel
theorem dX8_pass_82 : decode cX8_pass 82 = .ok (.dup2, 1) := by decide +kernel
theorem dX8_pass_83 : decode cX8_pass 83 = .ok (.iaload, 1) := by decide +kernel
theorem dX8_pass_84 : decode cX8_pass 84 = .ok (.iconst 1, 1) := by decide +kernel
theorem dX8_pass_85 : decode cX8_pass 85 = .ok (.iadd, 1) := by decide +kernel
theorem dX8_pass_86 : decode cX8_pass 86 = .ok (.iastore, 1) := by decide +kernel
theorem dX8_pass_87 : decode cX8_pass 87 = .ok (.aload_n 0, 1) := by decide +kernel
theorem dX8_pass_88 : decode cX8_pass 88 = .ok (.iload_n 1, 1) := by decide +kernel
theorem dX8_pass_89 : decode cX8_pass 89 = .ok (.invokevirtual 163, 3) := by decide +kernel
theorem dX8_pass_92 : decode cX8_pass 92 = .ok (.aload_n 0, 1) := by decide +kernel
theorem dX8_pass_93 : decode cX8_pass 93 = .ok (.getfield 7, 3) := by decide +kernel
theorem dX8_pass_96 : decode cX8_pass 96 = .ok (.iload_n 1, 1) := by decide +kernel
theorem dX8_pass_97 : decode cX8_pass 97 = .ok (.iconst 3, 1) := by decide +kernel
theorem dX8_pass_98 : decode cX8_pass 98 = .ok (.iadd, 1) := by decide +kernel
theorem dX8_pass_99 : decode cX8_pass 99 = .ok (.dup2, 1) := by decide +kernel
theorem dX8_pass_100 : decode cX8_pass 100 = .ok (.iaload, 1) := by decide +kernel
theorem dX8_pass_101 : decode cX8_pass 101 = .ok (.iconst 1, 1) := by decide +kernel
theorem dX8_pass_102 : decode cX8_pass 102 = .ok (.iadd, 1) := by decide +kernel
theorem dX8_pass_103 : decode cX8_pass 103 = .ok (.iastore, 1) := by decide +kernel
theorem dX8_pass_104 : decode cX8_pass 104 = .ok (.iconst 0, 1) := by decide +kernel
theorem dX8_pass_105 : decode cX8_pass 105 = .ok (.istore_n 3, 1) := by decide +kernel
theorem dX8_pass_106 : decode cX8_pass 106 = .ok (.iload_n 3, 1) := by decide +kernel
theorem dX8_pass_107 : decode cX8_pass 107 = .ok (.aload_n 0, 1) := by decide +kernel
theorem dX8_pass_108 : decode cX8_pass 108 = .ok (.getfield 7, 3) := by decide +kernel
theorem dX8_pass_111 : decode cX8_pass 111 = .ok (.iload_n 1, 1) := by decide +kernel
theorem dX8_pass_112 : decode cX8_pass 112 = .ok (.iconst 0, 1) := by decide +kernel
theorem dX8_pass_113 : decode cX8_pass 113 = .ok (.iadd, 1) := by decide +kernel
theorem dX8_pass_114 : decode cX8_pass 114 = .ok (.iaload, 1) := by decide +kernel
theorem dX8_pass_115 : decode cX8_pass 115 = .ok (.if_icmp .ge 88, 3) := by decide +kernel
theorem dX8_pass_118 : decode cX8_pass 118 = .ok (.aload_n 0, 1) := by decide +kernel
theorem dX8_pass_119 : decode cX8_pass 119 = .ok (.getfield 7, 3) := by decide +kernel
theorem dX8_pass_122 : decode cX8_pass 122 = .ok (.iload_n 1, 1) := by decide +kernel
theorem dX8_pass_123 : decode cX8_pass 123 = .ok (.iconst 3, 1) := by decide +kernel
theorem dX8_pass_124 : decode cX8_pass 124 = .ok (.iadd, 1) := by decide +kernel
theorem dX8_pass_125 : decode cX8_pass 125 = .ok (.iaload, 1) := by decide +kernel
theorem dX8_pass_126 : decode cX8_pass 126 = .ok (.aload_n 0, 1) := by decide +kernel
theorem dX8_pass_127 : decode cX8_pass 127 = .ok (.getfield 7, 3) := by decide +kernel
theorem dX8_pass_130 : decode cX8_pass 130 = .ok (.iload_n 1, 1) := by decide +kernel
theorem dX8_pass_131 : decode cX8_pass 131 = .ok (.iconst 2, 1) := by decide +kernel
theorem dX8_pass_132 : decode cX8_pass 132 = .ok (.iadd, 1) := by decide +kernel
theorem dX8_pass_133 : decode cX8_pass 133 = .ok (.iaload, 1) := by decide +kernel
theorem dX8_pass_134 : decode cX8_pass 134 = .ok (.irem, 1) := by decide +kernel
theorem dX8_pass_135 : decode cX8_pass 135 = .ok (.ifCond .ne 68, 3) := by decide +kernel
theorem dX8_pass_138 : decode cX8_pass 138 = .ok (.aload_n 0, 1) := by decide +kernel
theorem dX8_pass_139 : decode cX8_pass 139 = .ok (.getfield 7, 3) := by decide +kernel
theorem dX8_pass_142 : decode cX8_pass 142 = .ok (.iload_n 1, 1) := by decide +kernel
theorem dX8_pass_143 : decode cX8_pass 143 = .ok (.bipush 41, 2) := by decide +kernel
theorem dX8_pass_145 : decode cX8_pass 145 = .ok (.iadd, 1) := by decide +kernel
theorem dX8_pass_146 : decode cX8_pass 146 = .ok (.iload_n 3, 1) := by decide +kernel
theorem dX8_pass_147 : decode cX8_pass 147 = .ok (.iadd, 1) := by decide +kernel
theorem dX8_pass_148 : decode cX8_pass 148 = .ok (.dup2, 1) := by decide +kernel
theorem dX8_pass_149 : decode cX8_pass 149 = .ok (.iaload, 1) := by decide +kernel
theorem dX8_pass_150 : decode cX8_pass 150 = .ok (.aload_n 0, 1) := by decide +kernel
theorem dX8_pass_151 : decode cX8_pass 151 = .ok (.getfield 7, 3) := by decide +kernel
theorem dX8_pass_154 : decode cX8_pass 154 = .ok (.iload_n 1, 1) := by decide +kernel
theorem dX8_pass_155 : decode cX8_pass 155 = .ok (.bipush 29, 2) := by decide +kernel
theorem dX8_pass_157 : decode cX8_pass 157 = .ok (.iadd, 1) := by decide +kernel
theorem dX8_pass_158 : decode cX8_pass 158 = .ok (.iload_n 3, 1) := by decide +kernel
theorem dX8_pass_159 : decode cX8_pass 159 = .ok (.iadd, 1) := by decide +kernel
theorem dX8_pass_160 : decode cX8_pass 160 = .ok (.iaload, 1) := by decide +kernel
theorem dX8_pass_161 : decode cX8_pass 161 = .ok (.iconst 5, 1) := by decide +kernel
theorem dX8_pass_162 : decode cX8_pass 162 = .ok (.if_icmp .ne 32, 3) := by decide +kernel
theorem dX8_pass_165 : decode cX8_pass 165 = .ok (.aload_n 0, 1) := by decide +kernel
theorem dX8_pass_166 : decode cX8_pass 166 = .ok (.getfield 7, 3) := by decide +kernel
theorem dX8_pass_169 : decode cX8_pass 169 = .ok (.iload_n 1, 1) := by decide +kernel
theorem dX8_pass_170 : decode cX8_pass 170 = .ok (.bipush 41, 2) := by decide +kernel
theorem dX8_pass_172 : decode cX8_pass 172 = .ok (.iadd, 1) := by decide +kernel
theorem dX8_pass_173 : decode cX8_pass 173 = .ok (.iload_n 3, 1) := by decide +kernel
theorem dX8_pass_174 : decode cX8_pass 174 = .ok (.iadd, 1) := by decide +kernel
theorem dX8_pass_175 : decode cX8_pass 175 = .ok (.iaload, 1) := by decide +kernel
theorem dX8_pass_176 : decode cX8_pass 176 = .ok (.aload_n 0, 1) := by decide +kernel
theorem dX8_pass_177 : decode cX8_pass 177 = .ok (.getfield 7, 3) := by decide +kernel
theorem dX8_pass_180 : decode cX8_pass 180 = .ok (.iload_n 1, 1) := by decide +kernel
theorem dX8_pass_181 : decode cX8_pass 181 = .ok (.bipush 33, 2) := by decide +kernel
theorem dX8_pass_183 : decode cX8_pass 183 = .ok (.iadd, 1) := by decide +kernel
theorem dX8_pass_184 : decode cX8_pass 184 = .ok (.iload_n 3, 1) := by decide +kernel
theorem dX8_pass_185 : decode cX8_pass 185 = .ok (.iadd, 1) := by decide +kernel
theorem dX8_pass_186 : decode cX8_pass 186 = .ok (.iaload, 1) := by decide +kernel
theorem dX8_pass_187 : decode cX8_pass 187 = .ok (.if_icmp .ge 7, 3) := by decide +kernel
theorem dX8_pass_190 : decode cX8_pass 190 = .ok (.iconst 1, 1) := by decide +kernel
theorem dX8_pass_191 : decode cX8_pass 191 = .ok (.goto 4, 3) := by decide +kernel
theorem dX8_pass_194 : decode cX8_pass 194 = .ok (.iconst 0, 1) := by decide +kernel
theorem dX8_pass_195 : decode cX8_pass 195 = .ok (.iadd, 1) := by decide +kernel
theorem dX8_pass_196 : decode cX8_pass 196 = .ok (.iastore, 1) := by decide +kernel
theorem dX8_pass_197 : decode cX8_pass 197 = .ok (.iinc 3 1, 3) := by decide +kernel
theorem dX8_pass_200 : decode cX8_pass 200 = .ok (.goto (-94), 3) := by decide +kernel
theorem dX8_pass_203 : decode cX8_pass 203 = .ok (.iload_n 2, 1) := by decide +kernel
theorem dX8_pass_204 : decode cX8_pass 204 = .ok (.ireturn, 1) := by decide +kernel
theorem dX8_passes_0 : decode cX8_passes 0 = .ok (.iconst 0, 1) := by decide +kernel
theorem dX8_passes_1 : decode cX8_passes 1 = .ok (.istore_n 3, 1) := by decide +kernel
theorem dX8_passes_2 : decode cX8_passes 2 = .ok (.iload_n 3, 1) := by decide +kernel
theorem dX8_passes_3 : decode cX8_passes 3 = .ok (.iload_n 2, 1) := by decide +kernel
theorem dX8_passes_4 : decode cX8_passes 4 = .ok (.if_icmp .ge 15, 3) := by decide +kernel
theorem dX8_passes_7 : decode cX8_passes 7 = .ok (.aload_n 0, 1) := by decide +kernel
theorem dX8_passes_8 : decode cX8_passes 8 = .ok (.iload_n 1, 1) := by decide +kernel
theorem dX8_passes_9 : decode cX8_passes 9 = .ok (.invokevirtual 167, 3) := by decide +kernel
theorem dX8_passes_12 : decode cX8_passes 12 = .ok (.pop, 1) := by decide +kernel
theorem dX8_passes_13 : decode cX8_passes 13 = .ok (.iinc 3 1, 3) := by decide +kernel
theorem dX8_passes_16 : decode cX8_passes 16 = .ok (.goto (-14), 3) := by decide +kernel
theorem dX8_passes_19 : decode cX8_passes 19 = .ok (.return_, 1) := by decide +kernel
theorem dX8_serve_0 : decode cX8_serve 0 = .ok (.aload_n 0, 1) := by decide +kernel
theorem dX8_serve_1 : decode cX8_serve 1 = .ok (.getfield 137, 3) := by decide +kernel
theorem dX8_serve_4 : decode cX8_serve 4 = .ok (.ifCond .ne 6, 3) := by decide +kernel
theorem dX8_serve_7 : decode cX8_serve 7 = .ok (.ldc 144, 2) := by decide +kernel
theorem dX8_serve_9 : decode cX8_serve 9 = .ok (.ireturn, 1) := by decide +kernel
theorem dX8_serve_10 : decode cX8_serve 10 = .ok (.iload_n 1, 1) := by decide +kernel
theorem dX8_serve_11 : decode cX8_serve 11 = .ok (.i2l, 1) := by decide +kernel
theorem dX8_serve_12 : decode cX8_serve 12 = .ok (.lconst 1, 1) := by decide +kernel
theorem dX8_serve_13 : decode cX8_serve 13 = .ok (.ldc2_w 170, 3) := by decide +kernel
theorem dX8_serve_16 : decode cX8_serve 16 = .ok (.invokestatic 45, 3) := by decide +kernel
theorem dX8_serve_19 : decode cX8_serve 19 = .ok (.ifCond .ne 6, 3) := by decide +kernel
theorem dX8_serve_22 : decode cX8_serve 22 = .ok (.ldc 55, 2) := by decide +kernel
theorem dX8_serve_24 : decode cX8_serve 24 = .ok (.ireturn, 1) := by decide +kernel
theorem dX8_serve_25 : decode cX8_serve 25 = .ok (.aload_n 0, 1) := by decide +kernel
theorem dX8_serve_26 : decode cX8_serve 26 = .ok (.getfield 7, 3) := by decide +kernel
theorem dX8_serve_29 : decode cX8_serve 29 = .ok (.iconst 3, 1) := by decide +kernel
theorem dX8_serve_30 : decode cX8_serve 30 = .ok (.iaload, 1) := by decide +kernel
theorem dX8_serve_31 : decode cX8_serve 31 = .ok (.iload_n 1, 1) := by decide +kernel
theorem dX8_serve_32 : decode cX8_serve 32 = .ok (.iadd, 1) := by decide +kernel
theorem dX8_serve_33 : decode cX8_serve 33 = .ok (.sipush 999, 3) := by decide +kernel
theorem dX8_serve_36 : decode cX8_serve 36 = .ok (.if_icmp .le 6, 3) := by decide +kernel
theorem dX8_serve_39 : decode cX8_serve 39 = .ok (.ldc 76, 2) := by decide +kernel
theorem dX8_serve_41 : decode cX8_serve 41 = .ok (.ireturn, 1) := by decide +kernel
theorem dX8_serve_42 : decode cX8_serve 42 = .ok (.iconst 0, 1) := by decide +kernel
theorem dX8_serve_43 : decode cX8_serve 43 = .ok (.istore_n 2, 1) := by decide +kernel
theorem dX8_serve_44 : decode cX8_serve 44 = .ok (.iload_n 2, 1) := by decide +kernel
theorem dX8_serve_45 : decode cX8_serve 45 = .ok (.iload_n 1, 1) := by decide +kernel
theorem dX8_serve_46 : decode cX8_serve 46 = .ok (.if_icmp .ge 19, 3) := by decide +kernel
theorem dX8_serve_49 : decode cX8_serve 49 = .ok (.aload_n 0, 1) := by decide +kernel
theorem dX8_serve_50 : decode cX8_serve 50 = .ok (.invokevirtual 172, 3) := by decide +kernel
theorem dX8_serve_53 : decode cX8_serve 53 = .ok (.aload_n 0, 1) := by decide +kernel
theorem dX8_serve_54 : decode cX8_serve 54 = .ok (.iconst 0, 1) := by decide +kernel
theorem dX8_serve_55 : decode cX8_serve 55 = .ok (.invokevirtual 167, 3) := by decide +kernel
theorem dX8_serve_58 : decode cX8_serve 58 = .ok (.pop, 1) := by decide +kernel
theorem dX8_serve_59 : decode cX8_serve 59 = .ok (.iinc 2 1, 3) := by decide +kernel
theorem dX8_serve_62 : decode cX8_serve 62 = .ok (.goto (-18), 3) := by decide +kernel
theorem dX8_serve_65 : decode cX8_serve 65 = .ok (.aload_n 0, 1) := by decide +kernel
theorem dX8_serve_66 : decode cX8_serve 66 = .ok (.getfield 7, 3) := by decide +kernel
theorem dX8_serve_69 : decode cX8_serve 69 = .ok (.bipush 7, 2) := by decide +kernel
theorem dX8_serve_71 : decode cX8_serve 71 = .ok (.iaload, 1) := by decide +kernel
theorem dX8_serve_72 : decode cX8_serve 72 = .ok (.ireturn, 1) := by decide +kernel
theorem dX8_counter_0 : decode cX8_counter 0 = .ok (.aload_n 0, 1) := by decide +kernel
theorem dX8_counter_1 : decode cX8_counter 1 = .ok (.iload_n 1, 1) := by decide +kernel
theorem dX8_counter_2 : decode cX8_counter 2 = .ok (.invokevirtual 175, 3) := by decide +kernel
theorem dX8_counter_5 : decode cX8_counter 5 = .ok (.ifCond .eq 13, 3) := by decide +kernel
theorem dX8_counter_8 : decode cX8_counter 8 = .ok (.iload_n 2, 1) := by decide +kernel
theorem dX8_counter_9 : decode cX8_counter 9 = .ok (.i2l, 1) := by decide +kernel
theorem dX8_counter_10 : decode cX8_counter 10 = .ok (.lconst 0, 1) := by decide +kernel
theorem dX8_counter_11 : decode cX8_counter 11 = .ok (.lconst 1, 1) := by decide +kernel
theorem dX8_counter_12 : decode cX8_counter 12 = .ok (.invokestatic 45, 3) := by decide +kernel
theorem dX8_counter_15 : decode cX8_counter 15 = .ok (.ifCond .ne 6, 3) := by decide +kernel
theorem dX8_counter_18 : decode cX8_counter 18 = .ok (.ldc 55, 2) := by decide +kernel
theorem dX8_counter_20 : decode cX8_counter 20 = .ok (.ireturn, 1) := by decide +kernel
theorem dX8_counter_21 : decode cX8_counter 21 = .ok (.aload_n 0, 1) := by decide +kernel
theorem dX8_counter_22 : decode cX8_counter 22 = .ok (.getfield 7, 3) := by decide +kernel
theorem dX8_counter_25 : decode cX8_counter 25 = .ok (.bipush 6, 2) := by decide +kernel
theorem dX8_counter_27 : decode cX8_counter 27 = .ok (.iaload, 1) := by decide +kernel
theorem dX8_counter_28 : decode cX8_counter 28 = .ok (.iload_n 1, 1) := by decide +kernel
theorem dX8_counter_29 : decode cX8_counter 29 = .ok (.invokestatic 150, 3) := by decide +kernel
theorem dX8_counter_32 : decode cX8_counter 32 = .ok (.iload_n 2, 1) := by decide +kernel
theorem dX8_counter_33 : decode cX8_counter 33 = .ok (.iconst 1, 1) := by decide +kernel
theorem dX8_counter_34 : decode cX8_counter 34 = .ok (.if_icmp .ne 7, 3) := by decide +kernel
theorem dX8_counter_37 : decode cX8_counter 37 = .ok (.iconst 1, 1) := by decide +kernel
theorem dX8_counter_38 : decode cX8_counter 38 = .ok (.goto 4, 3) := by decide +kernel
theorem dX8_counter_41 : decode cX8_counter 41 = .ok (.iconst 0, 1) := by decide +kernel
theorem dX8_counter_42 : decode cX8_counter 42 = .ok (.if_icmp .ne 6, 3) := by decide +kernel
theorem dX8_counter_45 : decode cX8_counter 45 = .ok (.ldc 144, 2) := by decide +kernel
theorem dX8_counter_47 : decode cX8_counter 47 = .ok (.ireturn, 1) := by decide +kernel
theorem dX8_counter_48 : decode cX8_counter 48 = .ok (.aload_n 0, 1) := by decide +kernel
theorem dX8_counter_49 : decode cX8_counter 49 = .ok (.invokevirtual 172, 3) := by decide +kernel
theorem dX8_counter_52 : decode cX8_counter 52 = .ok (.aload_n 0, 1) := by decide +kernel
theorem dX8_counter_53 : decode cX8_counter 53 = .ok (.getfield 7, 3) := by decide +kernel
theorem dX8_counter_56 : decode cX8_counter 56 = .ok (.bipush 6, 2) := by decide +kernel
theorem dX8_counter_58 : decode cX8_counter 58 = .ok (.dup2, 1) := by decide +kernel
theorem dX8_counter_59 : decode cX8_counter 59 = .ok (.iaload, 1) := by decide +kernel
theorem dX8_counter_60 : decode cX8_counter 60 = .ok (.iconst 1, 1) := by decide +kernel
theorem dX8_counter_61 : decode cX8_counter 61 = .ok (.iload_n 1, 1) := by decide +kernel
theorem dX8_counter_62 : decode cX8_counter 62 = .ok (.ishl, 1) := by decide +kernel
theorem dX8_counter_63 : decode cX8_counter 63 = .ok (.ixor, 1) := by decide +kernel
theorem dX8_counter_64 : decode cX8_counter 64 = .ok (.iastore, 1) := by decide +kernel
theorem dX8_counter_65 : decode cX8_counter 65 = .ok (.aload_n 0, 1) := by decide +kernel
theorem dX8_counter_66 : decode cX8_counter 66 = .ok (.getfield 7, 3) := by decide +kernel
theorem dX8_counter_69 : decode cX8_counter 69 = .ok (.bipush 6, 2) := by decide +kernel
theorem dX8_counter_71 : decode cX8_counter 71 = .ok (.iaload, 1) := by decide +kernel
theorem dX8_counter_72 : decode cX8_counter 72 = .ok (.ireturn, 1) := by decide +kernel
theorem dX8_isWaiting_0 : decode cX8_isWaiting 0 = .ok (.iconst 0, 1) := by decide +kernel
theorem dX8_isWaiting_1 : decode cX8_isWaiting 1 = .ok (.istore_n 3, 1) := by decide +kernel
theorem dX8_isWaiting_2 : decode cX8_isWaiting 2 = .ok (.iconst 0, 1) := by decide +kernel
theorem dX8_isWaiting_3 : decode cX8_isWaiting 3 = .ok (.istore 4, 2) := by decide +kernel
theorem dX8_isWaiting_5 : decode cX8_isWaiting 5 = .ok (.iload 4, 2) := by decide +kernel
theorem dX8_isWaiting_7 : decode cX8_isWaiting 7 = .ok (.aload_n 0, 1) := by decide +kernel
theorem dX8_isWaiting_8 : decode cX8_isWaiting 8 = .ok (.getfield 7, 3) := by decide +kernel
theorem dX8_isWaiting_11 : decode cX8_isWaiting 11 = .ok (.iload_n 1, 1) := by decide +kernel
theorem dX8_isWaiting_12 : decode cX8_isWaiting 12 = .ok (.bipush 7, 2) := by decide +kernel
theorem dX8_isWaiting_14 : decode cX8_isWaiting 14 = .ok (.iadd, 1) := by decide +kernel
theorem dX8_isWaiting_15 : decode cX8_isWaiting 15 = .ok (.iaload, 1) := by decide +kernel
theorem dX8_isWaiting_16 : decode cX8_isWaiting 16 = .ok (.if_icmp .ge 35, 3) := by decide +kernel
theorem dX8_isWaiting_19 : decode cX8_isWaiting 19 = .ok (.iload_n 3, 1) := by decide +kernel
theorem dX8_isWaiting_20 : decode cX8_isWaiting 20 = .ok (.ifCond .ne 19, 3) := by decide +kernel
theorem dX8_isWaiting_23 : decode cX8_isWaiting 23 = .ok (.aload_n 0, 1) := by decide +kernel
theorem dX8_isWaiting_24 : decode cX8_isWaiting 24 = .ok (.getfield 7, 3) := by decide +kernel
theorem dX8_isWaiting_27 : decode cX8_isWaiting 27 = .ok (.iload_n 1, 1) := by decide +kernel
theorem dX8_isWaiting_28 : decode cX8_isWaiting 28 = .ok (.bipush 8, 2) := by decide +kernel
theorem dX8_isWaiting_30 : decode cX8_isWaiting 30 = .ok (.iadd, 1) := by decide +kernel
theorem dX8_isWaiting_31 : decode cX8_isWaiting 31 = .ok (.iload 4, 2) := by decide +kernel
theorem dX8_isWaiting_33 : decode cX8_isWaiting 33 = .ok (.iadd, 1) := by decide +kernel
theorem dX8_isWaiting_34 : decode cX8_isWaiting 34 = .ok (.iaload, 1) := by decide +kernel
theorem dX8_isWaiting_35 : decode cX8_isWaiting 35 = .ok (.iload_n 2, 1) := by decide +kernel
theorem dX8_isWaiting_36 : decode cX8_isWaiting 36 = .ok (.if_icmp .ne 7, 3) := by decide +kernel
theorem dX8_isWaiting_39 : decode cX8_isWaiting 39 = .ok (.iconst 1, 1) := by decide +kernel
theorem dX8_isWaiting_40 : decode cX8_isWaiting 40 = .ok (.goto 4, 3) := by decide +kernel
theorem dX8_isWaiting_43 : decode cX8_isWaiting 43 = .ok (.iconst 0, 1) := by decide +kernel
theorem dX8_isWaiting_44 : decode cX8_isWaiting 44 = .ok (.istore_n 3, 1) := by decide +kernel
theorem dX8_isWaiting_45 : decode cX8_isWaiting 45 = .ok (.iinc 4 1, 3) := by decide +kernel
theorem dX8_isWaiting_48 : decode cX8_isWaiting 48 = .ok (.goto (-43), 3) := by decide +kernel
theorem dX8_isWaiting_51 : decode cX8_isWaiting 51 = .ok (.iload_n 3, 1) := by decide +kernel
theorem dX8_isWaiting_52 : decode cX8_isWaiting 52 = .ok (.ireturn, 1) := by decide +kernel
theorem dX8_comes_0 : decode cX8_comes 0 = .ok (.iconst 0, 1) := by decide +kernel
theorem dX8_comes_1 : decode cX8_comes 1 = .ok (.istore 4, 2) := by decide +kernel
theorem dX8_comes_3 : decode cX8_comes 3 = .ok (.aload_n 0, 1) := by decide +kernel
theorem dX8_comes_4 : decode cX8_comes 4 = .ok (.iload_n 1, 1) := by decide +kernel
theorem dX8_comes_5 : decode cX8_comes 5 = .ok (.iload 4, 2) := by decide +kernel
theorem dX8_comes_7 : decode cX8_comes 7 = .ok (.invokevirtual 178, 3) := by decide +kernel
theorem dX8_comes_10 : decode cX8_comes 10 = .ok (.ifCond .eq 9, 3) := by decide +kernel
theorem dX8_comes_13 : decode cX8_comes 13 = .ok (.iinc 4 1, 3) := by decide +kernel
theorem dX8_comes_16 : decode cX8_comes 16 = .ok (.goto (-13), 3) := by decide +kernel
theorem dX8_comes_19 : decode cX8_comes 19 = .ok (.aload_n 0, 1) := by decide +kernel
theorem dX8_comes_20 : decode cX8_comes 20 = .ok (.getfield 7, 3) := by decide +kernel
theorem dX8_comes_23 : decode cX8_comes 23 = .ok (.iload_n 1, 1) := by decide +kernel
theorem dX8_comes_24 : decode cX8_comes 24 = .ok (.bipush 15, 2) := by decide +kernel
theorem dX8_comes_26 : decode cX8_comes 26 = .ok (.iadd, 1) := by decide +kernel
theorem dX8_comes_27 : decode cX8_comes 27 = .ok (.iload 4, 2) := by decide +kernel
theorem dX8_comes_29 : decode cX8_comes 29 = .ok (.iadd, 1) := by decide +kernel
theorem dX8_comes_30 : decode cX8_comes 30 = .ok (.iload_n 3, 1) := by decide +kernel
theorem dX8_comes_31 : decode cX8_comes 31 = .ok (.iastore, 1) := by decide +kernel
theorem dX8_comes_32 : decode cX8_comes 32 = .ok (.aload_n 0, 1) := by decide +kernel
theorem dX8_comes_33 : decode cX8_comes 33 = .ok (.getfield 7, 3) := by decide +kernel
theorem dX8_comes_36 : decode cX8_comes 36 = .ok (.iload_n 1, 1) := by decide +kernel
theorem dX8_comes_37 : decode cX8_comes 37 = .ok (.bipush 22, 2) := by decide +kernel
theorem dX8_comes_39 : decode cX8_comes 39 = .ok (.iadd, 1) := by decide +kernel
theorem dX8_comes_40 : decode cX8_comes 40 = .ok (.iload 4, 2) := by decide +kernel
theorem dX8_comes_42 : decode cX8_comes 42 = .ok (.iadd, 1) := by decide +kernel
theorem dX8_comes_43 : decode cX8_comes 43 = .ok (.iload_n 2, 1) := by decide +kernel
theorem dX8_comes_44 : decode cX8_comes 44 = .ok (.iastore, 1) := by decide +kernel
theorem dX8_comes_45 : decode cX8_comes 45 = .ok (.aload_n 0, 1) := by decide +kernel
theorem dX8_comes_46 : decode cX8_comes 46 = .ok (.getfield 7, 3) := by decide +kernel
theorem dX8_comes_49 : decode cX8_comes 49 = .ok (.iload_n 1, 1) := by decide +kernel
theorem dX8_comes_50 : decode cX8_comes 50 = .ok (.bipush 8, 2) := by decide +kernel
theorem dX8_comes_52 : decode cX8_comes 52 = .ok (.iadd, 1) := by decide +kernel
theorem dX8_comes_53 : decode cX8_comes 53 = .ok (.aload_n 0, 1) := by decide +kernel
theorem dX8_comes_54 : decode cX8_comes 54 = .ok (.getfield 7, 3) := by decide +kernel
theorem dX8_comes_57 : decode cX8_comes 57 = .ok (.iload_n 1, 1) := by decide +kernel
theorem dX8_comes_58 : decode cX8_comes 58 = .ok (.bipush 7, 2) := by decide +kernel
theorem dX8_comes_60 : decode cX8_comes 60 = .ok (.iadd, 1) := by decide +kernel
theorem dX8_comes_61 : decode cX8_comes 61 = .ok (.iaload, 1) := by decide +kernel
theorem dX8_comes_62 : decode cX8_comes 62 = .ok (.iadd, 1) := by decide +kernel
theorem dX8_comes_63 : decode cX8_comes 63 = .ok (.iload 4, 2) := by decide +kernel
theorem dX8_comes_65 : decode cX8_comes 65 = .ok (.iastore, 1) := by decide +kernel
theorem dX8_comes_66 : decode cX8_comes 66 = .ok (.aload_n 0, 1) := by decide +kernel
theorem dX8_comes_67 : decode cX8_comes 67 = .ok (.getfield 7, 3) := by decide +kernel
theorem dX8_comes_70 : decode cX8_comes 70 = .ok (.iload_n 1, 1) := by decide +kernel
theorem dX8_comes_71 : decode cX8_comes 71 = .ok (.bipush 7, 2) := by decide +kernel
theorem dX8_comes_73 : decode cX8_comes 73 = .ok (.iadd, 1) := by decide +kernel
theorem dX8_comes_74 : decode cX8_comes 74 = .ok (.dup2, 1) := by decide +kernel
theorem dX8_comes_75 : decode cX8_comes 75 = .ok (.iaload, 1) := by decide +kernel
theorem dX8_comes_76 : decode cX8_comes 76 = .ok (.iconst 1, 1) := by decide +kernel
theorem dX8_comes_77 : decode cX8_comes 77 = .ok (.iadd, 1) := by decide +kernel
theorem dX8_comes_78 : decode cX8_comes 78 = .ok (.iastore, 1) := by decide +kernel
theorem dX8_comes_79 : decode cX8_comes 79 = .ok (.iload 4, 2) := by decide +kernel
theorem dX8_comes_81 : decode cX8_comes 81 = .ok (.ireturn, 1) := by decide +kernel
theorem dX8_come_0 : decode cX8_come 0 = .ok (.aload_n 0, 1) := by decide +kernel
theorem dX8_come_1 : decode cX8_come 1 = .ok (.getfield 137, 3) := by decide +kernel
theorem dX8_come_4 : decode cX8_come 4 = .ok (.ifCond .ne 6, 3) := by decide +kernel
theorem dX8_come_7 : decode cX8_come 7 = .ok (.ldc 144, 2) := by decide +kernel
theorem dX8_come_9 : decode cX8_come 9 = .ok (.ireturn, 1) := by decide +kernel
theorem dX8_come_10 : decode cX8_come 10 = .ok (.iload_n 1, 1) := by decide +kernel
theorem dX8_come_11 : decode cX8_come 11 = .ok (.i2l, 1) := by decide +kernel
theorem dX8_come_12 : decode cX8_come 12 = .ok (.lconst 0, 1) := by decide +kernel
theorem dX8_come_13 : decode cX8_come 13 = .ok (.lconst 1, 1) := by decide +kernel
theorem dX8_come_14 : decode cX8_come 14 = .ok (.invokestatic 45, 3) := by decide +kernel
theorem dX8_come_17 : decode cX8_come 17 = .ok (.ifCond .eq 15, 3) := by decide +kernel
theorem dX8_come_20 : decode cX8_come 20 = .ok (.iload_n 2, 1) := by decide +kernel
theorem dX8_come_21 : decode cX8_come 21 = .ok (.i2l, 1) := by decide +kernel
theorem dX8_come_22 : decode cX8_come 22 = .ok (.lconst 1, 1) := by decide +kernel
theorem dX8_come_23 : decode cX8_come 23 = .ok (.ldc2_w 181, 3) := by decide +kernel
theorem dX8_come_26 : decode cX8_come 26 = .ok (.invokestatic 45, 3) := by decide +kernel
theorem dX8_come_29 : decode cX8_come 29 = .ok (.ifCond .ne 6, 3) := by decide +kernel
theorem dX8_come_32 : decode cX8_come 32 = .ok (.ldc 55, 2) := by decide +kernel
theorem dX8_come_34 : decode cX8_come 34 = .ok (.ireturn, 1) := by decide +kernel
theorem dX8_come_35 : decode cX8_come 35 = .ok (.aload_n 0, 1) := by decide +kernel
theorem dX8_come_36 : decode cX8_come 36 = .ok (.getfield 7, 3) := by decide +kernel
theorem dX8_come_39 : decode cX8_come 39 = .ok (.bipush 7, 2) := by decide +kernel
theorem dX8_come_41 : decode cX8_come 41 = .ok (.iaload, 1) := by decide +kernel
theorem dX8_come_42 : decode cX8_come 42 = .ok (.bipush 7, 2) := by decide +kernel
theorem dX8_come_44 : decode cX8_come 44 = .ok (.if_icmp .ne 6, 3) := by decide +kernel
theorem dX8_come_47 : decode cX8_come 47 = .ok (.ldc 76, 2) := by decide +kernel
theorem dX8_come_49 : decode cX8_come 49 = .ok (.ireturn, 1) := by decide +kernel
theorem dX8_come_50 : decode cX8_come 50 = .ok (.aload_n 0, 1) := by decide +kernel
theorem dX8_come_51 : decode cX8_come 51 = .ok (.invokevirtual 172, 3) := by decide +kernel
theorem dX8_come_54 : decode cX8_come 54 = .ok (.aload_n 0, 1) := by decide +kernel
theorem dX8_come_55 : decode cX8_come 55 = .ok (.iconst 0, 1) := by decide +kernel
theorem dX8_come_56 : decode cX8_come 56 = .ok (.iload_n 1, 1) := by decide +kernel
theorem dX8_come_57 : decode cX8_come 57 = .ok (.iload_n 2, 1) := by decide +kernel
theorem dX8_come_58 : decode cX8_come 58 = .ok (.invokevirtual 183, 3) := by decide +kernel
theorem dX8_come_61 : decode cX8_come 61 = .ok (.ireturn, 1) := by decide +kernel
theorem dX8_dismiss_0 : decode cX8_dismiss 0 = .ok (.aload_n 0, 1) := by decide +kernel
theorem dX8_dismiss_1 : decode cX8_dismiss 1 = .ok (.getfield 137, 3) := by decide +kernel
theorem dX8_dismiss_4 : decode cX8_dismiss 4 = .ok (.ifCond .eq 13, 3) := by decide +kernel
theorem dX8_dismiss_7 : decode cX8_dismiss 7 = .ok (.aload_n 0, 1) := by decide +kernel
theorem dX8_dismiss_8 : decode cX8_dismiss 8 = .ok (.getfield 7, 3) := by decide +kernel
theorem dX8_dismiss_11 : decode cX8_dismiss 11 = .ok (.bipush 7, 2) := by decide +kernel
theorem dX8_dismiss_13 : decode cX8_dismiss 13 = .ok (.iaload, 1) := by decide +kernel
theorem dX8_dismiss_14 : decode cX8_dismiss 14 = .ok (.ifCond .ne 6, 3) := by decide +kernel
theorem dX8_dismiss_17 : decode cX8_dismiss 17 = .ok (.ldc 144, 2) := by decide +kernel
theorem dX8_dismiss_19 : decode cX8_dismiss 19 = .ok (.ireturn, 1) := by decide +kernel
theorem dX8_dismiss_20 : decode cX8_dismiss 20 = .ok (.aload_n 0, 1) := by decide +kernel
theorem dX8_dismiss_21 : decode cX8_dismiss 21 = .ok (.invokevirtual 172, 3) := by decide +kernel
theorem dX8_dismiss_24 : decode cX8_dismiss 24 = .ok (.aload_n 0, 1) := by decide +kernel
theorem dX8_dismiss_25 : decode cX8_dismiss 25 = .ok (.getfield 7, 3) := by decide +kernel
theorem dX8_dismiss_28 : decode cX8_dismiss 28 = .ok (.bipush 8, 2) := by decide +kernel
theorem dX8_dismiss_30 : decode cX8_dismiss 30 = .ok (.iaload, 1) := by decide +kernel
theorem dX8_dismiss_31 : decode cX8_dismiss 31 = .ok (.istore_n 1, 1) := by decide +kernel
theorem dX8_dismiss_32 : decode cX8_dismiss 32 = .ok (.aload_n 0, 1) := by decide +kernel
theorem dX8_dismiss_33 : decode cX8_dismiss 33 = .ok (.iconst 0, 1) := by decide +kernel
theorem dX8_dismiss_34 : decode cX8_dismiss 34 = .ok (.invokevirtual 163, 3) := by decide +kernel
theorem dX8_dismiss_37 : decode cX8_dismiss 37 = .ok (.aload_n 0, 1) := by decide +kernel
theorem dX8_dismiss_38 : decode cX8_dismiss 38 = .ok (.getfield 7, 3) := by decide +kernel
theorem dX8_dismiss_41 : decode cX8_dismiss 41 = .ok (.iconst 5, 1) := by decide +kernel
theorem dX8_dismiss_42 : decode cX8_dismiss 42 = .ok (.dup2, 1) := by decide +kernel
theorem dX8_dismiss_43 : decode cX8_dismiss 43 = .ok (.iaload, 1) := by decide +kernel
theorem dX8_dismiss_44 : decode cX8_dismiss 44 = .ok (.iconst 1, 1) := by decide +kernel
theorem dX8_dismiss_45 : decode cX8_dismiss 45 = .ok (.iadd, 1) := by decide +kernel
theorem dX8_dismiss_46 : decode cX8_dismiss 46 = .ok (.iastore, 1) := by decide +kernel
theorem dX8_dismiss_47 : decode cX8_dismiss 47 = .ok (.iload_n 1, 1) := by decide +kernel
theorem dX8_dismiss_48 : decode cX8_dismiss 48 = .ok (.ireturn, 1) := by decide +kernel
theorem dX8_swap_0 : decode cX8_swap 0 = .ok (.aload_n 0, 1) := by decide +kernel
theorem dX8_swap_1 : decode cX8_swap 1 = .ok (.getfield 137, 3) := by decide +kernel
theorem dX8_swap_4 : decode cX8_swap 4 = .ok (.ifCond .eq 14, 3) := by decide +kernel
theorem dX8_swap_7 : decode cX8_swap 7 = .ok (.aload_n 0, 1) := by decide +kernel
theorem dX8_swap_8 : decode cX8_swap 8 = .ok (.getfield 7, 3) := by decide +kernel
theorem dX8_swap_11 : decode cX8_swap 11 = .ok (.bipush 7, 2) := by decide +kernel
theorem dX8_swap_13 : decode cX8_swap 13 = .ok (.iaload, 1) := by decide +kernel
theorem dX8_swap_14 : decode cX8_swap 14 = .ok (.iconst 2, 1) := by decide +kernel
theorem dX8_swap_15 : decode cX8_swap 15 = .ok (.if_icmp .ge 6, 3) := by decide +kernel
theorem dX8_swap_18 : decode cX8_swap 18 = .ok (.ldc 144, 2) := by decide +kernel
theorem dX8_swap_20 : decode cX8_swap 20 = .ok (.ireturn, 1) := by decide +kernel
theorem dX8_swap_21 : decode cX8_swap 21 = .ok (.aload_n 0, 1) := by decide +kernel
theorem dX8_swap_22 : decode cX8_swap 22 = .ok (.invokevirtual 172, 3) := by decide +kernel
theorem dX8_swap_25 : decode cX8_swap 25 = .ok (.aload_n 0, 1) := by decide +kernel
theorem dX8_swap_26 : decode cX8_swap 26 = .ok (.getfield 7, 3) := by decide +kernel
theorem dX8_swap_29 : decode cX8_swap 29 = .ok (.bipush 8, 2) := by decide +kernel
theorem dX8_swap_31 : decode cX8_swap 31 = .ok (.iaload, 1) := by decide +kernel
theorem dX8_swap_32 : decode cX8_swap 32 = .ok (.istore_n 1, 1) := by decide +kernel
theorem dX8_swap_33 : decode cX8_swap 33 = .ok (.aload_n 0, 1) := by decide +kernel
theorem dX8_swap_34 : decode cX8_swap 34 = .ok (.getfield 7, 3) := by decide +kernel
theorem dX8_swap_37 : decode cX8_swap 37 = .ok (.bipush 8, 2) := by decide +kernel
theorem dX8_swap_39 : decode cX8_swap 39 = .ok (.aload_n 0, 1) := by decide +kernel
theorem dX8_swap_40 : decode cX8_swap 40 = .ok (.getfield 7, 3) := by decide +kernel
theorem dX8_swap_43 : decode cX8_swap 43 = .ok (.bipush 9, 2) := by decide +kernel
theorem dX8_swap_45 : decode cX8_swap 45 = .ok (.iaload, 1) := by decide +kernel
theorem dX8_swap_46 : decode cX8_swap 46 = .ok (.iastore, 1) := by decide +kernel
theorem dX8_swap_47 : decode cX8_swap 47 = .ok (.aload_n 0, 1) := by decide +kernel
theorem dX8_swap_48 : decode cX8_swap 48 = .ok (.getfield 7, 3) := by decide +kernel
theorem dX8_swap_51 : decode cX8_swap 51 = .ok (.bipush 9, 2) := by decide +kernel
theorem dX8_swap_53 : decode cX8_swap 53 = .ok (.iload_n 1, 1) := by decide +kernel
theorem dX8_swap_54 : decode cX8_swap 54 = .ok (.iastore, 1) := by decide +kernel
theorem dX8_swap_55 : decode cX8_swap 55 = .ok (.aload_n 0, 1) := by decide +kernel
theorem dX8_swap_56 : decode cX8_swap 56 = .ok (.getfield 7, 3) := by decide +kernel
theorem dX8_swap_59 : decode cX8_swap 59 = .ok (.bipush 8, 2) := by decide +kernel
theorem dX8_swap_61 : decode cX8_swap 61 = .ok (.iaload, 1) := by decide +kernel
theorem dX8_swap_62 : decode cX8_swap 62 = .ok (.ireturn, 1) := by decide +kernel
theorem dX8_teller_0 : decode cX8_teller 0 = .ok (.aload_n 0, 1) := by decide +kernel
theorem dX8_teller_1 : decode cX8_teller 1 = .ok (.iload_n 1, 1) := by decide +kernel
theorem dX8_teller_2 : decode cX8_teller 2 = .ok (.invokevirtual 175, 3) := by decide +kernel
theorem dX8_teller_5 : decode cX8_teller 5 = .ok (.ifCond .ne 6, 3) := by decide +kernel
theorem dX8_teller_8 : decode cX8_teller 8 = .ok (.ldc 55, 2) := by decide +kernel
theorem dX8_teller_10 : decode cX8_teller 10 = .ok (.ireturn, 1) := by decide +kernel
theorem dX8_teller_11 : decode cX8_teller 11 = .ok (.iload_n 2, 1) := by decide +kernel
theorem dX8_teller_12 : decode cX8_teller 12 = .ok (.tableswitch 88 0 4 #[36, 46, 56, 66, 78], 36) := by decide +kernel
theorem dX8_teller_48 : decode cX8_teller 48 = .ok (.aload_n 0, 1) := by decide +kernel
theorem dX8_teller_49 : decode cX8_teller 49 = .ok (.getfield 7, 3) := by decide +kernel
theorem dX8_teller_52 : decode cX8_teller 52 = .ok (.bipush 33, 2) := by decide +kernel
theorem dX8_teller_54 : decode cX8_teller 54 = .ok (.iload_n 1, 1) := by decide +kernel
theorem dX8_teller_55 : decode cX8_teller 55 = .ok (.iadd, 1) := by decide +kernel
theorem dX8_teller_56 : decode cX8_teller 56 = .ok (.iaload, 1) := by decide +kernel
theorem dX8_teller_57 : decode cX8_teller 57 = .ok (.ireturn, 1) := by decide +kernel
theorem dX8_teller_58 : decode cX8_teller 58 = .ok (.aload_n 0, 1) := by decide +kernel
theorem dX8_teller_59 : decode cX8_teller 59 = .ok (.getfield 7, 3) := by decide +kernel
theorem dX8_teller_62 : decode cX8_teller 62 = .ok (.bipush 37, 2) := by decide +kernel
theorem dX8_teller_64 : decode cX8_teller 64 = .ok (.iload_n 1, 1) := by decide +kernel
theorem dX8_teller_65 : decode cX8_teller 65 = .ok (.iadd, 1) := by decide +kernel
theorem dX8_teller_66 : decode cX8_teller 66 = .ok (.iaload, 1) := by decide +kernel
theorem dX8_teller_67 : decode cX8_teller 67 = .ok (.ireturn, 1) := by decide +kernel
theorem dX8_teller_68 : decode cX8_teller 68 = .ok (.aload_n 0, 1) := by decide +kernel
theorem dX8_teller_69 : decode cX8_teller 69 = .ok (.getfield 7, 3) := by decide +kernel
theorem dX8_teller_72 : decode cX8_teller 72 = .ok (.bipush 41, 2) := by decide +kernel
theorem dX8_teller_74 : decode cX8_teller 74 = .ok (.iload_n 1, 1) := by decide +kernel
theorem dX8_teller_75 : decode cX8_teller 75 = .ok (.iadd, 1) := by decide +kernel
theorem dX8_teller_76 : decode cX8_teller 76 = .ok (.iaload, 1) := by decide +kernel
theorem dX8_teller_77 : decode cX8_teller 77 = .ok (.ireturn, 1) := by decide +kernel
theorem dX8_teller_78 : decode cX8_teller 78 = .ok (.aload_n 0, 1) := by decide +kernel
theorem dX8_teller_79 : decode cX8_teller 79 = .ok (.getfield 7, 3) := by decide +kernel
theorem dX8_teller_82 : decode cX8_teller 82 = .ok (.bipush 6, 2) := by decide +kernel
theorem dX8_teller_84 : decode cX8_teller 84 = .ok (.iaload, 1) := by decide +kernel
theorem dX8_teller_85 : decode cX8_teller 85 = .ok (.iload_n 1, 1) := by decide +kernel
theorem dX8_teller_86 : decode cX8_teller 86 = .ok (.ishr, 1) := by decide +kernel
theorem dX8_teller_87 : decode cX8_teller 87 = .ok (.iconst 1, 1) := by decide +kernel
theorem dX8_teller_88 : decode cX8_teller 88 = .ok (.iand, 1) := by decide +kernel
theorem dX8_teller_89 : decode cX8_teller 89 = .ok (.ireturn, 1) := by decide +kernel
theorem dX8_teller_90 : decode cX8_teller 90 = .ok (.aload_n 0, 1) := by decide +kernel
theorem dX8_teller_91 : decode cX8_teller 91 = .ok (.getfield 7, 3) := by decide +kernel
theorem dX8_teller_94 : decode cX8_teller 94 = .ok (.bipush 45, 2) := by decide +kernel
theorem dX8_teller_96 : decode cX8_teller 96 = .ok (.iload_n 1, 1) := by decide +kernel
theorem dX8_teller_97 : decode cX8_teller 97 = .ok (.iadd, 1) := by decide +kernel
theorem dX8_teller_98 : decode cX8_teller 98 = .ok (.iaload, 1) := by decide +kernel
theorem dX8_teller_99 : decode cX8_teller 99 = .ok (.ireturn, 1) := by decide +kernel
theorem dX8_teller_100 : decode cX8_teller 100 = .ok (.ldc 55, 2) := by decide +kernel
theorem dX8_teller_102 : decode cX8_teller 102 = .ok (.ireturn, 1) := by decide +kernel
theorem dX8_isPaper_0 : decode cX8_isPaper 0 = .ok (.iload_n 1, 1) := by decide +kernel
theorem dX8_isPaper_1 : decode cX8_isPaper 1 = .ok (.i2l, 1) := by decide +kernel
theorem dX8_isPaper_2 : decode cX8_isPaper 2 = .ok (.lconst 0, 1) := by decide +kernel
theorem dX8_isPaper_3 : decode cX8_isPaper 3 = .ok (.ldc2_w 186, 3) := by decide +kernel
theorem dX8_isPaper_6 : decode cX8_isPaper 6 = .ok (.invokestatic 45, 3) := by decide +kernel
theorem dX8_isPaper_9 : decode cX8_isPaper 9 = .ok (.ifCond .eq 20, 3) := by decide +kernel
theorem dX8_isPaper_12 : decode cX8_isPaper 12 = .ok (.aload_n 0, 1) := by decide +kernel
theorem dX8_isPaper_13 : decode cX8_isPaper 13 = .ok (.getfield 7, 3) := by decide +kernel
theorem dX8_isPaper_16 : decode cX8_isPaper 16 = .ok (.bipush 22, 2) := by decide +kernel
theorem dX8_isPaper_18 : decode cX8_isPaper 18 = .ok (.iload_n 1, 1) := by decide +kernel
theorem dX8_isPaper_19 : decode cX8_isPaper 19 = .ok (.iadd, 1) := by decide +kernel
theorem dX8_isPaper_20 : decode cX8_isPaper 20 = .ok (.iaload, 1) := by decide +kernel
theorem dX8_isPaper_21 : decode cX8_isPaper 21 = .ok (.iconst (-1), 1) := by decide +kernel
theorem dX8_isPaper_22 : decode cX8_isPaper 22 = .ok (.if_icmp .eq 7, 3) := by decide +kernel
theorem dX8_isPaper_25 : decode cX8_isPaper 25 = .ok (.iconst 1, 1) := by decide +kernel
theorem dX8_isPaper_26 : decode cX8_isPaper 26 = .ok (.goto 4, 3) := by decide +kernel
theorem dX8_isPaper_29 : decode cX8_isPaper 29 = .ok (.iconst 0, 1) := by decide +kernel
theorem dX8_isPaper_30 : decode cX8_isPaper 30 = .ok (.ireturn, 1) := by decide +kernel
theorem dX8_placeOf_0 : decode cX8_placeOf 0 = .ok (.ldc 149, 2) := by decide +kernel
theorem dX8_placeOf_2 : decode cX8_placeOf 2 = .ok (.istore_n 2, 1) := by decide +kernel
theorem dX8_placeOf_3 : decode cX8_placeOf 3 = .ok (.iconst 0, 1) := by decide +kernel
theorem dX8_placeOf_4 : decode cX8_placeOf 4 = .ok (.istore_n 3, 1) := by decide +kernel
theorem dX8_placeOf_5 : decode cX8_placeOf 5 = .ok (.iload_n 3, 1) := by decide +kernel
theorem dX8_placeOf_6 : decode cX8_placeOf 6 = .ok (.aload_n 0, 1) := by decide +kernel
theorem dX8_placeOf_7 : decode cX8_placeOf 7 = .ok (.getfield 7, 3) := by decide +kernel
theorem dX8_placeOf_10 : decode cX8_placeOf 10 = .ok (.bipush 7, 2) := by decide +kernel
theorem dX8_placeOf_12 : decode cX8_placeOf 12 = .ok (.iaload, 1) := by decide +kernel
theorem dX8_placeOf_13 : decode cX8_placeOf 13 = .ok (.if_icmp .ge 28, 3) := by decide +kernel
theorem dX8_placeOf_16 : decode cX8_placeOf 16 = .ok (.aload_n 0, 1) := by decide +kernel
theorem dX8_placeOf_17 : decode cX8_placeOf 17 = .ok (.getfield 7, 3) := by decide +kernel
theorem dX8_placeOf_20 : decode cX8_placeOf 20 = .ok (.bipush 8, 2) := by decide +kernel
theorem dX8_placeOf_22 : decode cX8_placeOf 22 = .ok (.iload_n 3, 1) := by decide +kernel
theorem dX8_placeOf_23 : decode cX8_placeOf 23 = .ok (.iadd, 1) := by decide +kernel
theorem dX8_placeOf_24 : decode cX8_placeOf 24 = .ok (.iaload, 1) := by decide +kernel
theorem dX8_placeOf_25 : decode cX8_placeOf 25 = .ok (.iload_n 1, 1) := by decide +kernel
theorem dX8_placeOf_26 : decode cX8_placeOf 26 = .ok (.if_icmp .ne 7, 3) := by decide +kernel
theorem dX8_placeOf_29 : decode cX8_placeOf 29 = .ok (.iload_n 3, 1) := by decide +kernel
theorem dX8_placeOf_30 : decode cX8_placeOf 30 = .ok (.goto 4, 3) := by decide +kernel
theorem dX8_placeOf_33 : decode cX8_placeOf 33 = .ok (.iload_n 2, 1) := by decide +kernel
theorem dX8_placeOf_34 : decode cX8_placeOf 34 = .ok (.istore_n 2, 1) := by decide +kernel
theorem dX8_placeOf_35 : decode cX8_placeOf 35 = .ok (.iinc 3 1, 3) := by decide +kernel
theorem dX8_placeOf_38 : decode cX8_placeOf 38 = .ok (.goto (-33), 3) := by decide +kernel
theorem dX8_placeOf_41 : decode cX8_placeOf 41 = .ok (.iload_n 2, 1) := by decide +kernel
theorem dX8_placeOf_42 : decode cX8_placeOf 42 = .ok (.ireturn, 1) := by decide +kernel
theorem dX8_paper_0 : decode cX8_paper 0 = .ok (.aload_n 0, 1) := by decide +kernel
theorem dX8_paper_1 : decode cX8_paper 1 = .ok (.iload_n 1, 1) := by decide +kernel
theorem dX8_paper_2 : decode cX8_paper 2 = .ok (.invokevirtual 188, 3) := by decide +kernel
theorem dX8_paper_5 : decode cX8_paper 5 = .ok (.ifCond .eq 15, 3) := by decide +kernel
theorem dX8_paper_8 : decode cX8_paper 8 = .ok (.iload_n 2, 1) := by decide +kernel
theorem dX8_paper_9 : decode cX8_paper 9 = .ok (.i2l, 1) := by decide +kernel
theorem dX8_paper_10 : decode cX8_paper 10 = .ok (.lconst 0, 1) := by decide +kernel
theorem dX8_paper_11 : decode cX8_paper 11 = .ok (.ldc2_w 53, 3) := by decide +kernel
theorem dX8_paper_14 : decode cX8_paper 14 = .ok (.invokestatic 45, 3) := by decide +kernel
theorem dX8_paper_17 : decode cX8_paper 17 = .ok (.ifCond .ne 6, 3) := by decide +kernel
theorem dX8_paper_20 : decode cX8_paper 20 = .ok (.ldc 55, 2) := by decide +kernel
theorem dX8_paper_22 : decode cX8_paper 22 = .ok (.ireturn, 1) := by decide +kernel
theorem dX8_paper_23 : decode cX8_paper 23 = .ok (.iload_n 2, 1) := by decide +kernel
theorem dX8_paper_24 : decode cX8_paper 24 = .ok (.ifCond .ne 15, 3) := by decide +kernel
theorem dX8_paper_27 : decode cX8_paper 27 = .ok (.aload_n 0, 1) := by decide +kernel
theorem dX8_paper_28 : decode cX8_paper 28 = .ok (.getfield 7, 3) := by decide +kernel
theorem dX8_paper_31 : decode cX8_paper 31 = .ok (.bipush 15, 2) := by decide +kernel
theorem dX8_paper_33 : decode cX8_paper 33 = .ok (.iload_n 1, 1) := by decide +kernel
theorem dX8_paper_34 : decode cX8_paper 34 = .ok (.iadd, 1) := by decide +kernel
theorem dX8_paper_35 : decode cX8_paper 35 = .ok (.iaload, 1) := by decide +kernel
theorem dX8_paper_36 : decode cX8_paper 36 = .ok (.goto 25, 3) := by decide +kernel
theorem dX8_paper_39 : decode cX8_paper 39 = .ok (.iload_n 2, 1) := by decide +kernel
theorem dX8_paper_40 : decode cX8_paper 40 = .ok (.iconst 1, 1) := by decide +kernel
theorem dX8_paper_41 : decode cX8_paper 41 = .ok (.if_icmp .ne 15, 3) := by decide +kernel
theorem dX8_paper_44 : decode cX8_paper 44 = .ok (.aload_n 0, 1) := by decide +kernel
theorem dX8_paper_45 : decode cX8_paper 45 = .ok (.getfield 7, 3) := by decide +kernel
theorem dX8_paper_48 : decode cX8_paper 48 = .ok (.bipush 22, 2) := by decide +kernel
theorem dX8_paper_50 : decode cX8_paper 50 = .ok (.iload_n 1, 1) := by decide +kernel
theorem dX8_paper_51 : decode cX8_paper 51 = .ok (.iadd, 1) := by decide +kernel
theorem dX8_paper_52 : decode cX8_paper 52 = .ok (.iaload, 1) := by decide +kernel
theorem dX8_paper_53 : decode cX8_paper 53 = .ok (.goto 8, 3) := by decide +kernel
theorem dX8_paper_56 : decode cX8_paper 56 = .ok (.aload_n 0, 1) := by decide +kernel
theorem dX8_paper_57 : decode cX8_paper 57 = .ok (.iload_n 1, 1) := by decide +kernel
theorem dX8_paper_58 : decode cX8_paper 58 = .ok (.invokevirtual 191, 3) := by decide +kernel
theorem dX8_paper_61 : decode cX8_paper 61 = .ok (.ireturn, 1) := by decide +kernel
theorem dX8_cost_0 : decode cX8_cost 0 = .ok (.aload_n 0, 1) := by decide +kernel
theorem dX8_cost_1 : decode cX8_cost 1 = .ok (.iload_n 1, 1) := by decide +kernel
theorem dX8_cost_2 : decode cX8_cost 2 = .ok (.invokevirtual 175, 3) := by decide +kernel
theorem dX8_cost_5 : decode cX8_cost 5 = .ok (.ifCond .eq 25, 3) := by decide +kernel
theorem dX8_cost_8 : decode cX8_cost 8 = .ok (.iload_n 2, 1) := by decide +kernel
theorem dX8_cost_9 : decode cX8_cost 9 = .ok (.i2l, 1) := by decide +kernel
theorem dX8_cost_10 : decode cX8_cost 10 = .ok (.lconst 1, 1) := by decide +kernel
theorem dX8_cost_11 : decode cX8_cost 11 = .ok (.ldc2_w 181, 3) := by decide +kernel
theorem dX8_cost_14 : decode cX8_cost 14 = .ok (.invokestatic 45, 3) := by decide +kernel
theorem dX8_cost_17 : decode cX8_cost 17 = .ok (.ifCond .eq 13, 3) := by decide +kernel
theorem dX8_cost_20 : decode cX8_cost 20 = .ok (.aload_n 0, 1) := by decide +kernel
theorem dX8_cost_21 : decode cX8_cost 21 = .ok (.iconst 0, 1) := by decide +kernel
theorem dX8_cost_22 : decode cX8_cost 22 = .ok (.iload_n 1, 1) := by decide +kernel
theorem dX8_cost_23 : decode cX8_cost 23 = .ok (.iload_n 2, 1) := by decide +kernel
theorem dX8_cost_24 : decode cX8_cost 24 = .ok (.invokevirtual 145, 3) := by decide +kernel
theorem dX8_cost_27 : decode cX8_cost 27 = .ok (.goto 5, 3) := by decide +kernel
theorem dX8_cost_30 : decode cX8_cost 30 = .ok (.ldc 55, 2) := by decide +kernel
theorem dX8_cost_32 : decode cX8_cost 32 = .ok (.ireturn, 1) := by decide +kernel
theorem dX8_queue_0 : decode cX8_queue 0 = .ok (.aload_n 0, 1) := by decide +kernel
theorem dX8_queue_1 : decode cX8_queue 1 = .ok (.getfield 137, 3) := by decide +kernel
theorem dX8_queue_4 : decode cX8_queue 4 = .ok (.ifCond .ne 6, 3) := by decide +kernel
theorem dX8_queue_7 : decode cX8_queue 7 = .ok (.ldc 144, 2) := by decide +kernel
theorem dX8_queue_9 : decode cX8_queue 9 = .ok (.ireturn, 1) := by decide +kernel
theorem dX8_queue_10 : decode cX8_queue 10 = .ok (.iload_n 1, 1) := by decide +kernel
theorem dX8_queue_11 : decode cX8_queue 11 = .ok (.ifCond .ge 8, 3) := by decide +kernel
theorem dX8_queue_14 : decode cX8_queue 14 = .ok (.ldc 55, 2) := by decide +kernel
theorem dX8_queue_16 : decode cX8_queue 16 = .ok (.goto 28, 3) := by decide +kernel
theorem dX8_queue_19 : decode cX8_queue 19 = .ok (.iload_n 1, 1) := by decide +kernel
theorem dX8_queue_20 : decode cX8_queue 20 = .ok (.aload_n 0, 1) := by decide +kernel
theorem dX8_queue_21 : decode cX8_queue 21 = .ok (.getfield 7, 3) := by decide +kernel
theorem dX8_queue_24 : decode cX8_queue 24 = .ok (.bipush 7, 2) := by decide +kernel
theorem dX8_queue_26 : decode cX8_queue 26 = .ok (.iaload, 1) := by decide +kernel
theorem dX8_queue_27 : decode cX8_queue 27 = .ok (.if_icmp .ge 15, 3) := by decide +kernel
theorem dX8_queue_30 : decode cX8_queue 30 = .ok (.aload_n 0, 1) := by decide +kernel
theorem dX8_queue_31 : decode cX8_queue 31 = .ok (.getfield 7, 3) := by decide +kernel
theorem dX8_queue_34 : decode cX8_queue 34 = .ok (.bipush 8, 2) := by decide +kernel
theorem dX8_queue_36 : decode cX8_queue 36 = .ok (.iload_n 1, 1) := by decide +kernel
theorem dX8_queue_37 : decode cX8_queue 37 = .ok (.iadd, 1) := by decide +kernel
theorem dX8_queue_38 : decode cX8_queue 38 = .ok (.iaload, 1) := by decide +kernel
theorem dX8_queue_39 : decode cX8_queue 39 = .ok (.goto 5, 3) := by decide +kernel
theorem dX8_queue_42 : decode cX8_queue 42 = .ok (.ldc 149, 2) := by decide +kernel
theorem dX8_queue_44 : decode cX8_queue 44 = .ok (.ireturn, 1) := by decide +kernel
theorem dX8_layTried_0 : decode cX8_layTried 0 = .ok (.aload_n 0, 1) := by decide +kernel
theorem dX8_layTried_1 : decode cX8_layTried 1 = .ok (.iconst 0, 1) := by decide +kernel
theorem dX8_layTried_2 : decode cX8_layTried 2 = .ok (.sipush 1323, 3) := by decide +kernel
theorem dX8_layTried_5 : decode cX8_layTried 5 = .ok (.invokevirtual 133, 3) := by decide +kernel
theorem dX8_layTried_8 : decode cX8_layTried 8 = .ok (.aload_n 0, 1) := by decide +kernel
theorem dX8_layTried_9 : decode cX8_layTried 9 = .ok (.sipush 1323, 3) := by decide +kernel
theorem dX8_layTried_12 : decode cX8_layTried 12 = .ok (.iload_n 1, 1) := by decide +kernel
theorem dX8_layTried_13 : decode cX8_layTried 13 = .ok (.invokevirtual 194, 3) := by decide +kernel
theorem dX8_layTried_16 : decode cX8_layTried 16 = .ok (.return_, 1) := by decide +kernel
theorem dX8_ahead_0 : decode cX8_ahead 0 = .ok (.aload_n 0, 1) := by decide +kernel
theorem dX8_ahead_1 : decode cX8_ahead 1 = .ok (.iload_n 1, 1) := by decide +kernel
theorem dX8_ahead_2 : decode cX8_ahead 2 = .ok (.invokevirtual 175, 3) := by decide +kernel
theorem dX8_ahead_5 : decode cX8_ahead 5 = .ok (.ifCond .eq 15, 3) := by decide +kernel
theorem dX8_ahead_8 : decode cX8_ahead 8 = .ok (.iload_n 2, 1) := by decide +kernel
theorem dX8_ahead_9 : decode cX8_ahead 9 = .ok (.i2l, 1) := by decide +kernel
theorem dX8_ahead_10 : decode cX8_ahead 10 = .ok (.lconst 0, 1) := by decide +kernel
theorem dX8_ahead_11 : decode cX8_ahead 11 = .ok (.ldc2_w 197, 3) := by decide +kernel
theorem dX8_ahead_14 : decode cX8_ahead 14 = .ok (.invokestatic 45, 3) := by decide +kernel
theorem dX8_ahead_17 : decode cX8_ahead 17 = .ok (.ifCond .ne 6, 3) := by decide +kernel
theorem dX8_ahead_20 : decode cX8_ahead 20 = .ok (.ldc 55, 2) := by decide +kernel
theorem dX8_ahead_22 : decode cX8_ahead 22 = .ok (.ireturn, 1) := by decide +kernel
theorem dX8_ahead_23 : decode cX8_ahead 23 = .ok (.aload_n 0, 1) := by decide +kernel
theorem dX8_ahead_24 : decode cX8_ahead 24 = .ok (.iload_n 2, 1) := by decide +kernel
theorem dX8_ahead_25 : decode cX8_ahead 25 = .ok (.invokevirtual 199, 3) := by decide +kernel
theorem dX8_ahead_28 : decode cX8_ahead 28 = .ok (.aload_n 0, 1) := by decide +kernel
theorem dX8_ahead_29 : decode cX8_ahead 29 = .ok (.getfield 7, 3) := by decide +kernel
theorem dX8_ahead_32 : decode cX8_ahead 32 = .ok (.sipush 1364, 3) := by decide +kernel
theorem dX8_ahead_35 : decode cX8_ahead 35 = .ok (.iload_n 1, 1) := by decide +kernel
theorem dX8_ahead_36 : decode cX8_ahead 36 = .ok (.iadd, 1) := by decide +kernel
theorem dX8_ahead_37 : decode cX8_ahead 37 = .ok (.iaload, 1) := by decide +kernel
theorem dX8_ahead_38 : decode cX8_ahead 38 = .ok (.ireturn, 1) := by decide +kernel
theorem dX8_waiting_0 : decode cX8_waiting 0 = .ok (.aload_n 0, 1) := by decide +kernel
theorem dX8_waiting_1 : decode cX8_waiting 1 = .ok (.getfield 137, 3) := by decide +kernel
theorem dX8_waiting_4 : decode cX8_waiting 4 = .ok (.ifCond .ne 6, 3) := by decide +kernel
theorem dX8_waiting_7 : decode cX8_waiting 7 = .ok (.ldc 144, 2) := by decide +kernel
theorem dX8_waiting_9 : decode cX8_waiting 9 = .ok (.ireturn, 1) := by decide +kernel
theorem dX8_waiting_10 : decode cX8_waiting 10 = .ok (.iload_n 1, 1) := by decide +kernel
theorem dX8_waiting_11 : decode cX8_waiting 11 = .ok (.i2l, 1) := by decide +kernel
theorem dX8_waiting_12 : decode cX8_waiting 12 = .ok (.lconst 0, 1) := by decide +kernel
theorem dX8_waiting_13 : decode cX8_waiting 13 = .ok (.ldc2_w 197, 3) := by decide +kernel
theorem dX8_waiting_16 : decode cX8_waiting 16 = .ok (.invokestatic 45, 3) := by decide +kernel
theorem dX8_waiting_19 : decode cX8_waiting 19 = .ok (.ifCond .ne 6, 3) := by decide +kernel
theorem dX8_waiting_22 : decode cX8_waiting 22 = .ok (.ldc 55, 2) := by decide +kernel
theorem dX8_waiting_24 : decode cX8_waiting 24 = .ok (.ireturn, 1) := by decide +kernel
theorem dX8_waiting_25 : decode cX8_waiting 25 = .ok (.aload_n 0, 1) := by decide +kernel
theorem dX8_waiting_26 : decode cX8_waiting 26 = .ok (.iload_n 1, 1) := by decide +kernel
theorem dX8_waiting_27 : decode cX8_waiting 27 = .ok (.invokevirtual 199, 3) := by decide +kernel
theorem dX8_waiting_30 : decode cX8_waiting 30 = .ok (.iconst 0, 1) := by decide +kernel
theorem dX8_waiting_31 : decode cX8_waiting 31 = .ok (.istore_n 2, 1) := by decide +kernel
theorem dX8_waiting_32 : decode cX8_waiting 32 = .ok (.iconst 0, 1) := by decide +kernel
theorem dX8_waiting_33 : decode cX8_waiting 33 = .ok (.istore_n 3, 1) := by decide +kernel
theorem dX8_waiting_34 : decode cX8_waiting 34 = .ok (.iload_n 3, 1) := by decide +kernel
theorem dX8_waiting_35 : decode cX8_waiting 35 = .ok (.aload_n 0, 1) := by decide +kernel
theorem dX8_waiting_36 : decode cX8_waiting 36 = .ok (.getfield 7, 3) := by decide +kernel
theorem dX8_waiting_39 : decode cX8_waiting 39 = .ok (.sipush 1330, 3) := by decide +kernel
theorem dX8_waiting_42 : decode cX8_waiting 42 = .ok (.iaload, 1) := by decide +kernel
theorem dX8_waiting_43 : decode cX8_waiting 43 = .ok (.if_icmp .ge 24, 3) := by decide +kernel
theorem dX8_waiting_46 : decode cX8_waiting 46 = .ok (.iload_n 2, 1) := by decide +kernel
theorem dX8_waiting_47 : decode cX8_waiting 47 = .ok (.iconst 1, 1) := by decide +kernel
theorem dX8_waiting_48 : decode cX8_waiting 48 = .ok (.aload_n 0, 1) := by decide +kernel
theorem dX8_waiting_49 : decode cX8_waiting 49 = .ok (.getfield 7, 3) := by decide +kernel
theorem dX8_waiting_52 : decode cX8_waiting 52 = .ok (.sipush 1331, 3) := by decide +kernel
theorem dX8_waiting_55 : decode cX8_waiting 55 = .ok (.iload_n 3, 1) := by decide +kernel
theorem dX8_waiting_56 : decode cX8_waiting 56 = .ok (.iadd, 1) := by decide +kernel
theorem dX8_waiting_57 : decode cX8_waiting 57 = .ok (.iaload, 1) := by decide +kernel
theorem dX8_waiting_58 : decode cX8_waiting 58 = .ok (.ishl, 1) := by decide +kernel
theorem dX8_waiting_59 : decode cX8_waiting 59 = .ok (.ior, 1) := by decide +kernel
theorem dX8_waiting_60 : decode cX8_waiting 60 = .ok (.istore_n 2, 1) := by decide +kernel
theorem dX8_waiting_61 : decode cX8_waiting 61 = .ok (.iinc 3 1, 3) := by decide +kernel
theorem dX8_waiting_64 : decode cX8_waiting 64 = .ok (.goto (-30), 3) := by decide +kernel
theorem dX8_waiting_67 : decode cX8_waiting 67 = .ok (.iload_n 2, 1) := by decide +kernel
theorem dX8_waiting_68 : decode cX8_waiting 68 = .ok (.ireturn, 1) := by decide +kernel
theorem dX8_server_0 : decode cX8_server 0 = .ok (.aload_n 0, 1) := by decide +kernel
theorem dX8_server_1 : decode cX8_server 1 = .ok (.iload_n 1, 1) := by decide +kernel
theorem dX8_server_2 : decode cX8_server 2 = .ok (.invokevirtual 188, 3) := by decide +kernel
theorem dX8_server_5 : decode cX8_server 5 = .ok (.ifCond .ne 6, 3) := by decide +kernel
theorem dX8_server_8 : decode cX8_server 8 = .ok (.ldc 55, 2) := by decide +kernel
theorem dX8_server_10 : decode cX8_server 10 = .ok (.ireturn, 1) := by decide +kernel
theorem dX8_server_11 : decode cX8_server 11 = .ok (.aload_n 0, 1) := by decide +kernel
theorem dX8_server_12 : decode cX8_server 12 = .ok (.iload_n 1, 1) := by decide +kernel
theorem dX8_server_13 : decode cX8_server 13 = .ok (.invokevirtual 191, 3) := by decide +kernel
theorem dX8_server_16 : decode cX8_server 16 = .ok (.istore_n 2, 1) := by decide +kernel
theorem dX8_server_17 : decode cX8_server 17 = .ok (.iload_n 2, 1) := by decide +kernel
theorem dX8_server_18 : decode cX8_server 18 = .ok (.ldc 149, 2) := by decide +kernel
theorem dX8_server_20 : decode cX8_server 20 = .ok (.if_icmp .ne 6, 3) := by decide +kernel
theorem dX8_server_23 : decode cX8_server 23 = .ok (.ldc 144, 2) := by decide +kernel
theorem dX8_server_25 : decode cX8_server 25 = .ok (.ireturn, 1) := by decide +kernel
theorem dX8_server_26 : decode cX8_server 26 = .ok (.aload_n 0, 1) := by decide +kernel
theorem dX8_server_27 : decode cX8_server 27 = .ok (.iload_n 2, 1) := by decide +kernel
theorem dX8_server_28 : decode cX8_server 28 = .ok (.invokevirtual 199, 3) := by decide +kernel
theorem dX8_server_31 : decode cX8_server 31 = .ok (.aload_n 0, 1) := by decide +kernel
theorem dX8_server_32 : decode cX8_server 32 = .ok (.sipush 1323, 3) := by decide +kernel
theorem dX8_server_35 : decode cX8_server 35 = .ok (.invokevirtual 167, 3) := by decide +kernel
theorem dX8_server_38 : decode cX8_server 38 = .ok (.ireturn, 1) := by decide +kernel
theorem dX8_holds_0 : decode cX8_holds 0 = .ok (.aload_n 0, 1) := by decide +kernel
theorem dX8_holds_1 : decode cX8_holds 1 = .ok (.getfield 137, 3) := by decide +kernel
theorem dX8_holds_4 : decode cX8_holds 4 = .ok (.ifCond .ne 6, 3) := by decide +kernel
theorem dX8_holds_7 : decode cX8_holds 7 = .ok (.ldc 144, 2) := by decide +kernel
theorem dX8_holds_9 : decode cX8_holds 9 = .ok (.ireturn, 1) := by decide +kernel
theorem dX8_holds_10 : decode cX8_holds 10 = .ok (.aload_n 0, 1) := by decide +kernel
theorem dX8_holds_11 : decode cX8_holds 11 = .ok (.iconst 0, 1) := by decide +kernel
theorem dX8_holds_12 : decode cX8_holds 12 = .ok (.invokevirtual 199, 3) := by decide +kernel
theorem dX8_holds_15 : decode cX8_holds 15 = .ok (.iconst 0, 1) := by decide +kernel
theorem dX8_holds_16 : decode cX8_holds 16 = .ok (.istore_n 1, 1) := by decide +kernel
theorem dX8_holds_17 : decode cX8_holds 17 = .ok (.iload_n 1, 1) := by decide +kernel
theorem dX8_holds_18 : decode cX8_holds 18 = .ok (.aload_n 0, 1) := by decide +kernel
theorem dX8_holds_19 : decode cX8_holds 19 = .ok (.getfield 7, 3) := by decide +kernel
theorem dX8_holds_22 : decode cX8_holds 22 = .ok (.bipush 7, 2) := by decide +kernel
theorem dX8_holds_24 : decode cX8_holds 24 = .ok (.iaload, 1) := by decide +kernel
theorem dX8_holds_25 : decode cX8_holds 25 = .ok (.if_icmp .ge 21, 3) := by decide +kernel
theorem dX8_holds_28 : decode cX8_holds 28 = .ok (.aload_n 0, 1) := by decide +kernel
theorem dX8_holds_29 : decode cX8_holds 29 = .ok (.sipush 1323, 3) := by decide +kernel
theorem dX8_holds_32 : decode cX8_holds 32 = .ok (.invokevirtual 167, 3) := by decide +kernel
theorem dX8_holds_35 : decode cX8_holds 35 = .ok (.ldc 149, 2) := by decide +kernel
theorem dX8_holds_37 : decode cX8_holds 37 = .ok (.if_icmp .eq 9, 3) := by decide +kernel
theorem dX8_holds_40 : decode cX8_holds 40 = .ok (.iinc 1 1, 3) := by decide +kernel
theorem dX8_holds_43 : decode cX8_holds 43 = .ok (.goto (-26), 3) := by decide +kernel
theorem dX8_holds_46 : decode cX8_holds 46 = .ok (.iload_n 1, 1) := by decide +kernel
theorem dX8_holds_47 : decode cX8_holds 47 = .ok (.ireturn, 1) := by decide +kernel
theorem dX8_infant_0 : decode cX8_infant 0 = .ok (.aload_n 0, 1) := by decide +kernel
theorem dX8_infant_1 : decode cX8_infant 1 = .ok (.getfield 137, 3) := by decide +kernel
theorem dX8_infant_4 : decode cX8_infant 4 = .ok (.ifCond .ne 6, 3) := by decide +kernel
theorem dX8_infant_7 : decode cX8_infant 7 = .ok (.ldc 144, 2) := by decide +kernel
theorem dX8_infant_9 : decode cX8_infant 9 = .ok (.ireturn, 1) := by decide +kernel
theorem dX8_infant_10 : decode cX8_infant 10 = .ok (.aload_n 0, 1) := by decide +kernel
theorem dX8_infant_11 : decode cX8_infant 11 = .ok (.iconst 0, 1) := by decide +kernel
theorem dX8_infant_12 : decode cX8_infant 12 = .ok (.invokevirtual 199, 3) := by decide +kernel
theorem dX8_infant_15 : decode cX8_infant 15 = .ok (.iconst 0, 1) := by decide +kernel
theorem dX8_infant_16 : decode cX8_infant 16 = .ok (.istore_n 1, 1) := by decide +kernel
theorem dX8_infant_17 : decode cX8_infant 17 = .ok (.iload_n 1, 1) := by decide +kernel
theorem dX8_infant_18 : decode cX8_infant 18 = .ok (.aload_n 0, 1) := by decide +kernel
theorem dX8_infant_19 : decode cX8_infant 19 = .ok (.getfield 7, 3) := by decide +kernel
theorem dX8_infant_22 : decode cX8_infant 22 = .ok (.bipush 7, 2) := by decide +kernel
theorem dX8_infant_24 : decode cX8_infant 24 = .ok (.iaload, 1) := by decide +kernel
theorem dX8_infant_25 : decode cX8_infant 25 = .ok (.if_icmp .gt 56, 3) := by decide +kernel
theorem dX8_infant_28 : decode cX8_infant 28 = .ok (.iconst 0, 1) := by decide +kernel
theorem dX8_infant_29 : decode cX8_infant 29 = .ok (.istore_n 2, 1) := by decide +kernel
theorem dX8_infant_30 : decode cX8_infant 30 = .ok (.iload_n 2, 1) := by decide +kernel
theorem dX8_infant_31 : decode cX8_infant 31 = .ok (.aload_n 0, 1) := by decide +kernel
theorem dX8_infant_32 : decode cX8_infant 32 = .ok (.getfield 7, 3) := by decide +kernel
theorem dX8_infant_35 : decode cX8_infant 35 = .ok (.iconst 0, 1) := by decide +kernel
theorem dX8_infant_36 : decode cX8_infant 36 = .ok (.iaload, 1) := by decide +kernel
theorem dX8_infant_37 : decode cX8_infant 37 = .ok (.if_icmp .ge 30, 3) := by decide +kernel
theorem dX8_infant_40 : decode cX8_infant 40 = .ok (.aload_n 0, 1) := by decide +kernel
theorem dX8_infant_41 : decode cX8_infant 41 = .ok (.getfield 7, 3) := by decide +kernel
theorem dX8_infant_44 : decode cX8_infant 44 = .ok (.sipush 1364, 3) := by decide +kernel
theorem dX8_infant_47 : decode cX8_infant 47 = .ok (.iload_n 2, 1) := by decide +kernel
theorem dX8_infant_48 : decode cX8_infant 48 = .ok (.iadd, 1) := by decide +kernel
theorem dX8_infant_49 : decode cX8_infant 49 = .ok (.iaload, 1) := by decide +kernel
theorem dX8_infant_50 : decode cX8_infant 50 = .ok (.aload_n 0, 1) := by decide +kernel
theorem dX8_infant_51 : decode cX8_infant 51 = .ok (.getfield 7, 3) := by decide +kernel
theorem dX8_infant_54 : decode cX8_infant 54 = .ok (.iconst 1, 1) := by decide +kernel
theorem dX8_infant_55 : decode cX8_infant 55 = .ok (.iaload, 1) := by decide +kernel
theorem dX8_infant_56 : decode cX8_infant 56 = .ok (.if_icmp .gt 5, 3) := by decide +kernel
theorem dX8_infant_59 : decode cX8_infant 59 = .ok (.iload_n 2, 1) := by decide +kernel
theorem dX8_infant_60 : decode cX8_infant 60 = .ok (.ireturn, 1) := by decide +kernel
theorem dX8_infant_61 : decode cX8_infant 61 = .ok (.iinc 2 1, 3) := by decide +kernel
theorem dX8_infant_64 : decode cX8_infant 64 = .ok (.goto (-34), 3) := by decide +kernel
theorem dX8_infant_67 : decode cX8_infant 67 = .ok (.aload_n 0, 1) := by decide +kernel
theorem dX8_infant_68 : decode cX8_infant 68 = .ok (.sipush 1323, 3) := by decide +kernel
theorem dX8_infant_71 : decode cX8_infant 71 = .ok (.invokevirtual 167, 3) := by decide +kernel
theorem dX8_infant_74 : decode cX8_infant 74 = .ok (.pop, 1) := by decide +kernel
theorem dX8_infant_75 : decode cX8_infant 75 = .ok (.iinc 1 1, 3) := by decide +kernel
theorem dX8_infant_78 : decode cX8_infant 78 = .ok (.goto (-61), 3) := by decide +kernel
theorem dX8_infant_81 : decode cX8_infant 81 = .ok (.ldc 149, 2) := by decide +kernel
theorem dX8_infant_83 : decode cX8_infant 83 = .ok (.ireturn, 1) := by decide +kernel
theorem dX8_leftAt_0 : decode cX8_leftAt 0 = .ok (.iconst 0, 1) := by decide +kernel
theorem dX8_leftAt_1 : decode cX8_leftAt 1 = .ok (.istore_n 2, 1) := by decide +kernel
theorem dX8_leftAt_2 : decode cX8_leftAt 2 = .ok (.iconst 0, 1) := by decide +kernel
theorem dX8_leftAt_3 : decode cX8_leftAt 3 = .ok (.istore_n 3, 1) := by decide +kernel
theorem dX8_leftAt_4 : decode cX8_leftAt 4 = .ok (.iload_n 3, 1) := by decide +kernel
theorem dX8_leftAt_5 : decode cX8_leftAt 5 = .ok (.aload_n 0, 1) := by decide +kernel
theorem dX8_leftAt_6 : decode cX8_leftAt 6 = .ok (.getfield 7, 3) := by decide +kernel
theorem dX8_leftAt_9 : decode cX8_leftAt 9 = .ok (.iload_n 1, 1) := by decide +kernel
theorem dX8_leftAt_10 : decode cX8_leftAt 10 = .ok (.iconst 0, 1) := by decide +kernel
theorem dX8_leftAt_11 : decode cX8_leftAt 11 = .ok (.iadd, 1) := by decide +kernel
theorem dX8_leftAt_12 : decode cX8_leftAt 12 = .ok (.iaload, 1) := by decide +kernel
theorem dX8_leftAt_13 : decode cX8_leftAt 13 = .ok (.if_icmp .ge 23, 3) := by decide +kernel
theorem dX8_leftAt_16 : decode cX8_leftAt 16 = .ok (.iload_n 2, 1) := by decide +kernel
theorem dX8_leftAt_17 : decode cX8_leftAt 17 = .ok (.aload_n 0, 1) := by decide +kernel
theorem dX8_leftAt_18 : decode cX8_leftAt 18 = .ok (.getfield 7, 3) := by decide +kernel
theorem dX8_leftAt_21 : decode cX8_leftAt 21 = .ok (.iload_n 1, 1) := by decide +kernel
theorem dX8_leftAt_22 : decode cX8_leftAt 22 = .ok (.bipush 41, 2) := by decide +kernel
theorem dX8_leftAt_24 : decode cX8_leftAt 24 = .ok (.iadd, 1) := by decide +kernel
theorem dX8_leftAt_25 : decode cX8_leftAt 25 = .ok (.iload_n 3, 1) := by decide +kernel
theorem dX8_leftAt_26 : decode cX8_leftAt 26 = .ok (.iadd, 1) := by decide +kernel
theorem dX8_leftAt_27 : decode cX8_leftAt 27 = .ok (.iaload, 1) := by decide +kernel
theorem dX8_leftAt_28 : decode cX8_leftAt 28 = .ok (.iadd, 1) := by decide +kernel
theorem dX8_leftAt_29 : decode cX8_leftAt 29 = .ok (.istore_n 2, 1) := by decide +kernel
theorem dX8_leftAt_30 : decode cX8_leftAt 30 = .ok (.iinc 3 1, 3) := by decide +kernel
theorem dX8_leftAt_33 : decode cX8_leftAt 33 = .ok (.goto (-29), 3) := by decide +kernel
theorem dX8_leftAt_36 : decode cX8_leftAt 36 = .ok (.iload_n 2, 1) := by decide +kernel
theorem dX8_leftAt_37 : decode cX8_leftAt 37 = .ok (.ireturn, 1) := by decide +kernel
theorem dX8_layLine_0 : decode cX8_layLine 0 = .ok (.iconst 0, 1) := by decide +kernel
theorem dX8_layLine_1 : decode cX8_layLine 1 = .ok (.istore_n 1, 1) := by decide +kernel
theorem dX8_layLine_2 : decode cX8_layLine 2 = .ok (.iconst 0, 1) := by decide +kernel
theorem dX8_layLine_3 : decode cX8_layLine 3 = .ok (.istore_n 2, 1) := by decide +kernel
theorem dX8_layLine_4 : decode cX8_layLine 4 = .ok (.iload_n 2, 1) := by decide +kernel
theorem dX8_layLine_5 : decode cX8_layLine 5 = .ok (.bipush 7, 2) := by decide +kernel
theorem dX8_layLine_7 : decode cX8_layLine 7 = .ok (.if_icmp .ge 28, 3) := by decide +kernel
theorem dX8_layLine_10 : decode cX8_layLine 10 = .ok (.aload_n 0, 1) := by decide +kernel
theorem dX8_layLine_11 : decode cX8_layLine 11 = .ok (.iconst 0, 1) := by decide +kernel
theorem dX8_layLine_12 : decode cX8_layLine 12 = .ok (.iload_n 2, 1) := by decide +kernel
theorem dX8_layLine_13 : decode cX8_layLine 13 = .ok (.invokevirtual 178, 3) := by decide +kernel
theorem dX8_layLine_16 : decode cX8_layLine 16 = .ok (.ifCond .eq 13, 3) := by decide +kernel
theorem dX8_layLine_19 : decode cX8_layLine 19 = .ok (.aload_n 0, 1) := by decide +kernel
theorem dX8_layLine_20 : decode cX8_layLine 20 = .ok (.getfield 32, 3) := by decide +kernel
theorem dX8_layLine_23 : decode cX8_layLine 23 = .ok (.iload_n 1, 1) := by decide +kernel
theorem dX8_layLine_24 : decode cX8_layLine 24 = .ok (.iload_n 2, 1) := by decide +kernel
theorem dX8_layLine_25 : decode cX8_layLine 25 = .ok (.iastore, 1) := by decide +kernel
theorem dX8_layLine_26 : decode cX8_layLine 26 = .ok (.iinc 1 1, 3) := by decide +kernel
theorem dX8_layLine_29 : decode cX8_layLine 29 = .ok (.iinc 2 1, 3) := by decide +kernel
theorem dX8_layLine_32 : decode cX8_layLine 32 = .ok (.goto (-28), 3) := by decide +kernel
theorem dX8_layLine_35 : decode cX8_layLine 35 = .ok (.return_, 1) := by decide +kernel
theorem dX8_swapLine_0 : decode cX8_swapLine 0 = .ok (.aload_n 0, 1) := by decide +kernel
theorem dX8_swapLine_1 : decode cX8_swapLine 1 = .ok (.getfield 32, 3) := by decide +kernel
theorem dX8_swapLine_4 : decode cX8_swapLine 4 = .ok (.iload_n 1, 1) := by decide +kernel
theorem dX8_swapLine_5 : decode cX8_swapLine 5 = .ok (.iaload, 1) := by decide +kernel
theorem dX8_swapLine_6 : decode cX8_swapLine 6 = .ok (.istore_n 3, 1) := by decide +kernel
theorem dX8_swapLine_7 : decode cX8_swapLine 7 = .ok (.aload_n 0, 1) := by decide +kernel
theorem dX8_swapLine_8 : decode cX8_swapLine 8 = .ok (.getfield 32, 3) := by decide +kernel
theorem dX8_swapLine_11 : decode cX8_swapLine 11 = .ok (.iload_n 1, 1) := by decide +kernel
theorem dX8_swapLine_12 : decode cX8_swapLine 12 = .ok (.aload_n 0, 1) := by decide +kernel
theorem dX8_swapLine_13 : decode cX8_swapLine 13 = .ok (.getfield 32, 3) := by decide +kernel
theorem dX8_swapLine_16 : decode cX8_swapLine 16 = .ok (.iload_n 2, 1) := by decide +kernel
theorem dX8_swapLine_17 : decode cX8_swapLine 17 = .ok (.iaload, 1) := by decide +kernel
theorem dX8_swapLine_18 : decode cX8_swapLine 18 = .ok (.iastore, 1) := by decide +kernel
theorem dX8_swapLine_19 : decode cX8_swapLine 19 = .ok (.aload_n 0, 1) := by decide +kernel
theorem dX8_swapLine_20 : decode cX8_swapLine 20 = .ok (.getfield 32, 3) := by decide +kernel
theorem dX8_swapLine_23 : decode cX8_swapLine 23 = .ok (.iload_n 2, 1) := by decide +kernel
theorem dX8_swapLine_24 : decode cX8_swapLine 24 = .ok (.iload_n 3, 1) := by decide +kernel
theorem dX8_swapLine_25 : decode cX8_swapLine 25 = .ok (.iastore, 1) := by decide +kernel
theorem dX8_swapLine_26 : decode cX8_swapLine 26 = .ok (.return_, 1) := by decide +kernel
theorem dX8_nextLine_0 : decode cX8_nextLine 0 = .ok (.aload_n 0, 1) := by decide +kernel
theorem dX8_nextLine_1 : decode cX8_nextLine 1 = .ok (.getfield 7, 3) := by decide +kernel
theorem dX8_nextLine_4 : decode cX8_nextLine 4 = .ok (.bipush 7, 2) := by decide +kernel
theorem dX8_nextLine_6 : decode cX8_nextLine 6 = .ok (.iaload, 1) := by decide +kernel
theorem dX8_nextLine_7 : decode cX8_nextLine 7 = .ok (.iconst 2, 1) := by decide +kernel
theorem dX8_nextLine_8 : decode cX8_nextLine 8 = .ok (.isub, 1) := by decide +kernel
theorem dX8_nextLine_9 : decode cX8_nextLine 9 = .ok (.istore_n 1, 1) := by decide +kernel
theorem dX8_nextLine_10 : decode cX8_nextLine 10 = .ok (.iload_n 1, 1) := by decide +kernel
theorem dX8_nextLine_11 : decode cX8_nextLine 11 = .ok (.ifCond .lt 26, 3) := by decide +kernel
theorem dX8_nextLine_14 : decode cX8_nextLine 14 = .ok (.aload_n 0, 1) := by decide +kernel
theorem dX8_nextLine_15 : decode cX8_nextLine 15 = .ok (.getfield 32, 3) := by decide +kernel
theorem dX8_nextLine_18 : decode cX8_nextLine 18 = .ok (.iload_n 1, 1) := by decide +kernel
theorem dX8_nextLine_19 : decode cX8_nextLine 19 = .ok (.iaload, 1) := by decide +kernel
theorem dX8_nextLine_20 : decode cX8_nextLine 20 = .ok (.aload_n 0, 1) := by decide +kernel
theorem dX8_nextLine_21 : decode cX8_nextLine 21 = .ok (.getfield 32, 3) := by decide +kernel
theorem dX8_nextLine_24 : decode cX8_nextLine 24 = .ok (.iload_n 1, 1) := by decide +kernel
theorem dX8_nextLine_25 : decode cX8_nextLine 25 = .ok (.iconst 1, 1) := by decide +kernel
theorem dX8_nextLine_26 : decode cX8_nextLine 26 = .ok (.iadd, 1) := by decide +kernel
theorem dX8_nextLine_27 : decode cX8_nextLine 27 = .ok (.iaload, 1) := by decide +kernel
theorem dX8_nextLine_28 : decode cX8_nextLine 28 = .ok (.if_icmp .le 9, 3) := by decide +kernel
theorem dX8_nextLine_31 : decode cX8_nextLine 31 = .ok (.iinc 1 (-1), 3) := by decide +kernel
theorem dX8_nextLine_34 : decode cX8_nextLine 34 = .ok (.goto (-24), 3) := by decide +kernel
theorem dX8_nextLine_37 : decode cX8_nextLine 37 = .ok (.iload_n 1, 1) := by decide +kernel
theorem dX8_nextLine_38 : decode cX8_nextLine 38 = .ok (.ifCond .ge 5, 3) := by decide +kernel
theorem dX8_nextLine_41 : decode cX8_nextLine 41 = .ok (.iconst 0, 1) := by decide +kernel
theorem dX8_nextLine_42 : decode cX8_nextLine 42 = .ok (.ireturn, 1) := by decide +kernel
theorem dX8_nextLine_43 : decode cX8_nextLine 43 = .ok (.aload_n 0, 1) := by decide +kernel
theorem dX8_nextLine_44 : decode cX8_nextLine 44 = .ok (.getfield 7, 3) := by decide +kernel
theorem dX8_nextLine_47 : decode cX8_nextLine 47 = .ok (.bipush 7, 2) := by decide +kernel
theorem dX8_nextLine_49 : decode cX8_nextLine 49 = .ok (.iaload, 1) := by decide +kernel
theorem dX8_nextLine_50 : decode cX8_nextLine 50 = .ok (.iconst 1, 1) := by decide +kernel
theorem dX8_nextLine_51 : decode cX8_nextLine 51 = .ok (.isub, 1) := by decide +kernel
theorem dX8_nextLine_52 : decode cX8_nextLine 52 = .ok (.istore_n 2, 1) := by decide +kernel
theorem dX8_nextLine_53 : decode cX8_nextLine 53 = .ok (.aload_n 0, 1) := by decide +kernel
theorem dX8_nextLine_54 : decode cX8_nextLine 54 = .ok (.getfield 32, 3) := by decide +kernel
theorem dX8_nextLine_57 : decode cX8_nextLine 57 = .ok (.iload_n 2, 1) := by decide +kernel
theorem dX8_nextLine_58 : decode cX8_nextLine 58 = .ok (.iaload, 1) := by decide +kernel
theorem dX8_nextLine_59 : decode cX8_nextLine 59 = .ok (.aload_n 0, 1) := by decide +kernel
theorem dX8_nextLine_60 : decode cX8_nextLine 60 = .ok (.getfield 32, 3) := by decide +kernel
theorem dX8_nextLine_63 : decode cX8_nextLine 63 = .ok (.iload_n 1, 1) := by decide +kernel
theorem dX8_nextLine_64 : decode cX8_nextLine 64 = .ok (.iaload, 1) := by decide +kernel
theorem dX8_nextLine_65 : decode cX8_nextLine 65 = .ok (.if_icmp .ge 9, 3) := by decide +kernel
theorem dX8_nextLine_68 : decode cX8_nextLine 68 = .ok (.iinc 2 (-1), 3) := by decide +kernel
theorem dX8_nextLine_71 : decode cX8_nextLine 71 = .ok (.goto (-18), 3) := by decide +kernel
theorem dX8_nextLine_74 : decode cX8_nextLine 74 = .ok (.aload_n 0, 1) := by decide +kernel
theorem dX8_nextLine_75 : decode cX8_nextLine 75 = .ok (.iload_n 1, 1) := by decide +kernel
theorem dX8_nextLine_76 : decode cX8_nextLine 76 = .ok (.iload_n 2, 1) := by decide +kernel
theorem dX8_nextLine_77 : decode cX8_nextLine 77 = .ok (.invokevirtual 202, 3) := by decide +kernel
theorem dX8_nextLine_80 : decode cX8_nextLine 80 = .ok (.iload_n 1, 1) := by decide +kernel
theorem dX8_nextLine_81 : decode cX8_nextLine 81 = .ok (.iconst 1, 1) := by decide +kernel
theorem dX8_nextLine_82 : decode cX8_nextLine 82 = .ok (.iadd, 1) := by decide +kernel
theorem dX8_nextLine_83 : decode cX8_nextLine 83 = .ok (.istore_n 3, 1) := by decide +kernel
theorem dX8_nextLine_84 : decode cX8_nextLine 84 = .ok (.aload_n 0, 1) := by decide +kernel
theorem dX8_nextLine_85 : decode cX8_nextLine 85 = .ok (.getfield 7, 3) := by decide +kernel
theorem dX8_nextLine_88 : decode cX8_nextLine 88 = .ok (.bipush 7, 2) := by decide +kernel
theorem dX8_nextLine_90 : decode cX8_nextLine 90 = .ok (.iaload, 1) := by decide +kernel
theorem dX8_nextLine_91 : decode cX8_nextLine 91 = .ok (.iconst 1, 1) := by decide +kernel
theorem dX8_nextLine_92 : decode cX8_nextLine 92 = .ok (.isub, 1) := by decide +kernel
theorem dX8_nextLine_93 : decode cX8_nextLine 93 = .ok (.istore 4, 2) := by decide +kernel
theorem dX8_nextLine_95 : decode cX8_nextLine 95 = .ok (.iload_n 3, 1) := by decide +kernel
theorem dX8_nextLine_96 : decode cX8_nextLine 96 = .ok (.iload 4, 2) := by decide +kernel
theorem dX8_nextLine_98 : decode cX8_nextLine 98 = .ok (.if_icmp .ge 19, 3) := by decide +kernel
theorem dX8_nextLine_101 : decode cX8_nextLine 101 = .ok (.aload_n 0, 1) := by decide +kernel
theorem dX8_nextLine_102 : decode cX8_nextLine 102 = .ok (.iload_n 3, 1) := by decide +kernel
theorem dX8_nextLine_103 : decode cX8_nextLine 103 = .ok (.iload 4, 2) := by decide +kernel
theorem dX8_nextLine_105 : decode cX8_nextLine 105 = .ok (.invokevirtual 202, 3) := by decide +kernel
theorem dX8_nextLine_108 : decode cX8_nextLine 108 = .ok (.iinc 3 1, 3) := by decide +kernel
theorem dX8_nextLine_111 : decode cX8_nextLine 111 = .ok (.iinc 4 (-1), 3) := by decide +kernel
theorem dX8_nextLine_114 : decode cX8_nextLine 114 = .ok (.goto (-19), 3) := by decide +kernel
theorem dX8_nextLine_117 : decode cX8_nextLine 117 = .ok (.iconst 1, 1) := by decide +kernel
theorem dX8_nextLine_118 : decode cX8_nextLine 118 = .ok (.ireturn, 1) := by decide +kernel
theorem dX8_order_0 : decode cX8_order 0 = .ok (.aload_n 0, 1) := by decide +kernel
theorem dX8_order_1 : decode cX8_order 1 = .ok (.getfield 137, 3) := by decide +kernel
theorem dX8_order_4 : decode cX8_order 4 = .ok (.ifCond .ne 6, 3) := by decide +kernel
theorem dX8_order_7 : decode cX8_order 7 = .ok (.ldc 144, 2) := by decide +kernel
theorem dX8_order_9 : decode cX8_order 9 = .ok (.ireturn, 1) := by decide +kernel
theorem dX8_order_10 : decode cX8_order 10 = .ok (.iload_n 1, 1) := by decide +kernel
theorem dX8_order_11 : decode cX8_order 11 = .ok (.bipush (-2), 2) := by decide +kernel
theorem dX8_order_13 : decode cX8_order 13 = .ok (.if_icmp .ge 6, 3) := by decide +kernel
theorem dX8_order_16 : decode cX8_order 16 = .ok (.ldc 55, 2) := by decide +kernel
theorem dX8_order_18 : decode cX8_order 18 = .ok (.ireturn, 1) := by decide +kernel
theorem dX8_order_19 : decode cX8_order 19 = .ok (.aload_n 0, 1) := by decide +kernel
theorem dX8_order_20 : decode cX8_order 20 = .ok (.getfield 7, 3) := by decide +kernel
theorem dX8_order_23 : decode cX8_order 23 = .ok (.bipush 7, 2) := by decide +kernel
theorem dX8_order_25 : decode cX8_order 25 = .ok (.iaload, 1) := by decide +kernel
theorem dX8_order_26 : decode cX8_order 26 = .ok (.istore_n 2, 1) := by decide +kernel
theorem dX8_order_27 : decode cX8_order 27 = .ok (.iconst (-1), 1) := by decide +kernel
theorem dX8_order_28 : decode cX8_order 28 = .ok (.istore_n 3, 1) := by decide +kernel
theorem dX8_order_29 : decode cX8_order 29 = .ok (.iconst 0, 1) := by decide +kernel
theorem dX8_order_30 : decode cX8_order 30 = .ok (.istore 4, 2) := by decide +kernel
theorem dX8_order_32 : decode cX8_order 32 = .ok (.iconst 1, 1) := by decide +kernel
theorem dX8_order_33 : decode cX8_order 33 = .ok (.istore 5, 2) := by decide +kernel
theorem dX8_order_35 : decode cX8_order 35 = .ok (.aload_n 0, 1) := by decide +kernel
theorem dX8_order_36 : decode cX8_order 36 = .ok (.invokevirtual 205, 3) := by decide +kernel
theorem dX8_order_39 : decode cX8_order 39 = .ok (.iload 5, 2) := by decide +kernel
theorem dX8_order_41 : decode cX8_order 41 = .ok (.ifCond .eq 139, 3) := by decide +kernel
theorem dX8_order_44 : decode cX8_order 44 = .ok (.aload_n 0, 1) := by decide +kernel
theorem dX8_order_45 : decode cX8_order 45 = .ok (.iconst 0, 1) := by decide +kernel
theorem dX8_order_46 : decode cX8_order 46 = .ok (.invokevirtual 199, 3) := by decide +kernel
theorem dX8_order_49 : decode cX8_order 49 = .ok (.iconst 0, 1) := by decide +kernel
theorem dX8_order_50 : decode cX8_order 50 = .ok (.istore 6, 2) := by decide +kernel
theorem dX8_order_52 : decode cX8_order 52 = .ok (.iload 6, 2) := by decide +kernel
theorem dX8_order_54 : decode cX8_order 54 = .ok (.iload_n 2, 1) := by decide +kernel
theorem dX8_order_55 : decode cX8_order 55 = .ok (.if_icmp .ge 27, 3) := by decide +kernel
theorem dX8_order_58 : decode cX8_order 58 = .ok (.aload_n 0, 1) := by decide +kernel
theorem dX8_order_59 : decode cX8_order 59 = .ok (.getfield 7, 3) := by decide +kernel
theorem dX8_order_62 : decode cX8_order 62 = .ok (.sipush 1331, 3) := by decide +kernel
theorem dX8_order_65 : decode cX8_order 65 = .ok (.iload 6, 2) := by decide +kernel
theorem dX8_order_67 : decode cX8_order 67 = .ok (.iadd, 1) := by decide +kernel
theorem dX8_order_68 : decode cX8_order 68 = .ok (.aload_n 0, 1) := by decide +kernel
theorem dX8_order_69 : decode cX8_order 69 = .ok (.getfield 32, 3) := by decide +kernel
theorem dX8_order_72 : decode cX8_order 72 = .ok (.iload 6, 2) := by decide +kernel
theorem dX8_order_74 : decode cX8_order 74 = .ok (.iaload, 1) := by decide +kernel
theorem dX8_order_75 : decode cX8_order 75 = .ok (.iastore, 1) := by decide +kernel
theorem dX8_order_76 : decode cX8_order 76 = .ok (.iinc 6 1, 3) := by decide +kernel
theorem dX8_order_79 : decode cX8_order 79 = .ok (.goto (-27), 3) := by decide +kernel
theorem dX8_order_82 : decode cX8_order 82 = .ok (.aload_n 0, 1) := by decide +kernel
theorem dX8_order_83 : decode cX8_order 83 = .ok (.sipush 1323, 3) := by decide +kernel
theorem dX8_order_86 : decode cX8_order 86 = .ok (.iload_n 2, 1) := by decide +kernel
theorem dX8_order_87 : decode cX8_order 87 = .ok (.invokevirtual 194, 3) := by decide +kernel
theorem dX8_order_90 : decode cX8_order 90 = .ok (.aload_n 0, 1) := by decide +kernel
theorem dX8_order_91 : decode cX8_order 91 = .ok (.getfield 7, 3) := by decide +kernel
theorem dX8_order_94 : decode cX8_order 94 = .ok (.sipush 1327, 3) := by decide +kernel
theorem dX8_order_97 : decode cX8_order 97 = .ok (.iaload, 1) := by decide +kernel
theorem dX8_order_98 : decode cX8_order 98 = .ok (.aload_n 0, 1) := by decide +kernel
theorem dX8_order_99 : decode cX8_order 99 = .ok (.getfield 7, 3) := by decide +kernel
theorem dX8_order_102 : decode cX8_order 102 = .ok (.iconst 4, 1) := by decide +kernel
theorem dX8_order_103 : decode cX8_order 103 = .ok (.iaload, 1) := by decide +kernel
theorem dX8_order_104 : decode cX8_order 104 = .ok (.isub, 1) := by decide +kernel
theorem dX8_order_105 : decode cX8_order 105 = .ok (.istore 6, 2) := by decide +kernel
theorem dX8_order_107 : decode cX8_order 107 = .ok (.aload_n 0, 1) := by decide +kernel
theorem dX8_order_108 : decode cX8_order 108 = .ok (.sipush 1323, 3) := by decide +kernel
theorem dX8_order_111 : decode cX8_order 111 = .ok (.invokevirtual 208, 3) := by decide +kernel
theorem dX8_order_114 : decode cX8_order 114 = .ok (.istore 7, 2) := by decide +kernel
theorem dX8_order_116 : decode cX8_order 116 = .ok (.iload 6, 2) := by decide +kernel
theorem dX8_order_118 : decode cX8_order 118 = .ok (.iload_n 3, 1) := by decide +kernel
theorem dX8_order_119 : decode cX8_order 119 = .ok (.if_icmp .gt 16, 3) := by decide +kernel
theorem dX8_order_122 : decode cX8_order 122 = .ok (.iload 6, 2) := by decide +kernel
theorem dX8_order_124 : decode cX8_order 124 = .ok (.iload_n 3, 1) := by decide +kernel
theorem dX8_order_125 : decode cX8_order 125 = .ok (.if_icmp .ne 46, 3) := by decide +kernel
theorem dX8_order_128 : decode cX8_order 128 = .ok (.iload 7, 2) := by decide +kernel
theorem dX8_order_130 : decode cX8_order 130 = .ok (.iload 4, 2) := by decide +kernel
theorem dX8_order_132 : decode cX8_order 132 = .ok (.if_icmp .le 39, 3) := by decide +kernel
theorem dX8_order_135 : decode cX8_order 135 = .ok (.iload 6, 2) := by decide +kernel
theorem dX8_order_137 : decode cX8_order 137 = .ok (.istore_n 3, 1) := by decide +kernel
theorem dX8_order_138 : decode cX8_order 138 = .ok (.iload 7, 2) := by decide +kernel
theorem dX8_order_140 : decode cX8_order 140 = .ok (.istore 4, 2) := by decide +kernel
theorem dX8_order_142 : decode cX8_order 142 = .ok (.iconst 0, 1) := by decide +kernel
theorem dX8_order_143 : decode cX8_order 143 = .ok (.istore 8, 2) := by decide +kernel
theorem dX8_order_145 : decode cX8_order 145 = .ok (.iload 8, 2) := by decide +kernel
theorem dX8_order_147 : decode cX8_order 147 = .ok (.iload_n 2, 1) := by decide +kernel
theorem dX8_order_148 : decode cX8_order 148 = .ok (.if_icmp .ge 23, 3) := by decide +kernel
theorem dX8_order_151 : decode cX8_order 151 = .ok (.aload_n 0, 1) := by decide +kernel
theorem dX8_order_152 : decode cX8_order 152 = .ok (.getfield 35, 3) := by decide +kernel
theorem dX8_order_155 : decode cX8_order 155 = .ok (.iload 8, 2) := by decide +kernel
theorem dX8_order_157 : decode cX8_order 157 = .ok (.aload_n 0, 1) := by decide +kernel
theorem dX8_order_158 : decode cX8_order 158 = .ok (.getfield 32, 3) := by decide +kernel
theorem dX8_order_161 : decode cX8_order 161 = .ok (.iload 8, 2) := by decide +kernel
theorem dX8_order_163 : decode cX8_order 163 = .ok (.iaload, 1) := by decide +kernel
theorem dX8_order_164 : decode cX8_order 164 = .ok (.iastore, 1) := by decide +kernel
theorem dX8_order_165 : decode cX8_order 165 = .ok (.iinc 8 1, 3) := by decide +kernel
theorem dX8_order_168 : decode cX8_order 168 = .ok (.goto (-23), 3) := by decide +kernel
theorem dX8_order_171 : decode cX8_order 171 = .ok (.aload_n 0, 1) := by decide +kernel
theorem dX8_order_172 : decode cX8_order 172 = .ok (.invokevirtual 211, 3) := by decide +kernel
theorem dX8_order_175 : decode cX8_order 175 = .ok (.istore 5, 2) := by decide +kernel
theorem dX8_order_177 : decode cX8_order 177 = .ok (.goto (-138), 3) := by decide +kernel
theorem dX8_order_180 : decode cX8_order 180 = .ok (.iload_n 1, 1) := by decide +kernel
theorem dX8_order_181 : decode cX8_order 181 = .ok (.iconst (-1), 1) := by decide +kernel
theorem dX8_order_182 : decode cX8_order 182 = .ok (.if_icmp .ne 7, 3) := by decide +kernel
theorem dX8_order_185 : decode cX8_order 185 = .ok (.iload_n 3, 1) := by decide +kernel
theorem dX8_order_186 : decode cX8_order 186 = .ok (.goto 30, 3) := by decide +kernel
theorem dX8_order_189 : decode cX8_order 189 = .ok (.iload_n 1, 1) := by decide +kernel
theorem dX8_order_190 : decode cX8_order 190 = .ok (.bipush (-2), 2) := by decide +kernel
theorem dX8_order_192 : decode cX8_order 192 = .ok (.if_icmp .ne 8, 3) := by decide +kernel
theorem dX8_order_195 : decode cX8_order 195 = .ok (.iload 4, 2) := by decide +kernel
theorem dX8_order_197 : decode cX8_order 197 = .ok (.goto 19, 3) := by decide +kernel
theorem dX8_order_200 : decode cX8_order 200 = .ok (.iload_n 1, 1) := by decide +kernel
theorem dX8_order_201 : decode cX8_order 201 = .ok (.iload_n 2, 1) := by decide +kernel
theorem dX8_order_202 : decode cX8_order 202 = .ok (.if_icmp .ge 12, 3) := by decide +kernel
theorem dX8_order_205 : decode cX8_order 205 = .ok (.aload_n 0, 1) := by decide +kernel
theorem dX8_order_206 : decode cX8_order 206 = .ok (.getfield 35, 3) := by decide +kernel
theorem dX8_order_209 : decode cX8_order 209 = .ok (.iload_n 1, 1) := by decide +kernel
theorem dX8_order_210 : decode cX8_order 210 = .ok (.iaload, 1) := by decide +kernel
theorem dX8_order_211 : decode cX8_order 211 = .ok (.goto 5, 3) := by decide +kernel
theorem dX8_order_214 : decode cX8_order 214 = .ok (.ldc 149, 2) := by decide +kernel
theorem dX8_order_216 : decode cX8_order 216 = .ok (.ireturn, 1) := by decide +kernel
theorem dX8_poorestAt_0 : decode cX8_poorestAt 0 = .ok (.bipush 99, 2) := by decide +kernel
theorem dX8_poorestAt_2 : decode cX8_poorestAt 2 = .ok (.istore_n 2, 1) := by decide +kernel
theorem dX8_poorestAt_3 : decode cX8_poorestAt 3 = .ok (.iconst 0, 1) := by decide +kernel
theorem dX8_poorestAt_4 : decode cX8_poorestAt 4 = .ok (.istore_n 3, 1) := by decide +kernel
theorem dX8_poorestAt_5 : decode cX8_poorestAt 5 = .ok (.iload_n 3, 1) := by decide +kernel
theorem dX8_poorestAt_6 : decode cX8_poorestAt 6 = .ok (.aload_n 0, 1) := by decide +kernel
theorem dX8_poorestAt_7 : decode cX8_poorestAt 7 = .ok (.getfield 7, 3) := by decide +kernel
theorem dX8_poorestAt_10 : decode cX8_poorestAt 10 = .ok (.iload_n 1, 1) := by decide +kernel
theorem dX8_poorestAt_11 : decode cX8_poorestAt 11 = .ok (.iconst 0, 1) := by decide +kernel
theorem dX8_poorestAt_12 : decode cX8_poorestAt 12 = .ok (.iadd, 1) := by decide +kernel
theorem dX8_poorestAt_13 : decode cX8_poorestAt 13 = .ok (.iaload, 1) := by decide +kernel
theorem dX8_poorestAt_14 : decode cX8_poorestAt 14 = .ok (.if_icmp .ge 40, 3) := by decide +kernel
theorem dX8_poorestAt_17 : decode cX8_poorestAt 17 = .ok (.aload_n 0, 1) := by decide +kernel
theorem dX8_poorestAt_18 : decode cX8_poorestAt 18 = .ok (.getfield 7, 3) := by decide +kernel
theorem dX8_poorestAt_21 : decode cX8_poorestAt 21 = .ok (.iload_n 1, 1) := by decide +kernel
theorem dX8_poorestAt_22 : decode cX8_poorestAt 22 = .ok (.bipush 41, 2) := by decide +kernel
theorem dX8_poorestAt_24 : decode cX8_poorestAt 24 = .ok (.iadd, 1) := by decide +kernel
theorem dX8_poorestAt_25 : decode cX8_poorestAt 25 = .ok (.iload_n 3, 1) := by decide +kernel
theorem dX8_poorestAt_26 : decode cX8_poorestAt 26 = .ok (.iadd, 1) := by decide +kernel
theorem dX8_poorestAt_27 : decode cX8_poorestAt 27 = .ok (.iaload, 1) := by decide +kernel
theorem dX8_poorestAt_28 : decode cX8_poorestAt 28 = .ok (.iload_n 2, 1) := by decide +kernel
theorem dX8_poorestAt_29 : decode cX8_poorestAt 29 = .ok (.if_icmp .ge 17, 3) := by decide +kernel
theorem dX8_poorestAt_32 : decode cX8_poorestAt 32 = .ok (.aload_n 0, 1) := by decide +kernel
theorem dX8_poorestAt_33 : decode cX8_poorestAt 33 = .ok (.getfield 7, 3) := by decide +kernel
theorem dX8_poorestAt_36 : decode cX8_poorestAt 36 = .ok (.iload_n 1, 1) := by decide +kernel
theorem dX8_poorestAt_37 : decode cX8_poorestAt 37 = .ok (.bipush 41, 2) := by decide +kernel
theorem dX8_poorestAt_39 : decode cX8_poorestAt 39 = .ok (.iadd, 1) := by decide +kernel
theorem dX8_poorestAt_40 : decode cX8_poorestAt 40 = .ok (.iload_n 3, 1) := by decide +kernel
theorem dX8_poorestAt_41 : decode cX8_poorestAt 41 = .ok (.iadd, 1) := by decide +kernel
theorem dX8_poorestAt_42 : decode cX8_poorestAt 42 = .ok (.iaload, 1) := by decide +kernel
theorem dX8_poorestAt_43 : decode cX8_poorestAt 43 = .ok (.goto 4, 3) := by decide +kernel
theorem dX8_poorestAt_46 : decode cX8_poorestAt 46 = .ok (.iload_n 2, 1) := by decide +kernel
theorem dX8_poorestAt_47 : decode cX8_poorestAt 47 = .ok (.istore_n 2, 1) := by decide +kernel
theorem dX8_poorestAt_48 : decode cX8_poorestAt 48 = .ok (.iinc 3 1, 3) := by decide +kernel
theorem dX8_poorestAt_51 : decode cX8_poorestAt 51 = .ok (.goto (-46), 3) := by decide +kernel
theorem dX8_poorestAt_54 : decode cX8_poorestAt 54 = .ok (.iload_n 2, 1) := by decide +kernel
theorem dX8_poorestAt_55 : decode cX8_poorestAt 55 = .ok (.ireturn, 1) := by decide +kernel
theorem dX8_servesBy_0 : decode cX8_servesBy 0 = .ok (.aload_n 0, 1) := by decide +kernel
theorem dX8_servesBy_1 : decode cX8_servesBy 1 = .ok (.iconst 0, 1) := by decide +kernel
theorem dX8_servesBy_2 : decode cX8_servesBy 2 = .ok (.invokevirtual 199, 3) := by decide +kernel
theorem dX8_servesBy_5 : decode cX8_servesBy 5 = .ok (.iconst 0, 1) := by decide +kernel
theorem dX8_servesBy_6 : decode cX8_servesBy 6 = .ok (.istore_n 3, 1) := by decide +kernel
theorem dX8_servesBy_7 : decode cX8_servesBy 7 = .ok (.iload_n 3, 1) := by decide +kernel
theorem dX8_servesBy_8 : decode cX8_servesBy 8 = .ok (.iload_n 2, 1) := by decide +kernel
theorem dX8_servesBy_9 : decode cX8_servesBy 9 = .ok (.if_icmp .ge 91, 3) := by decide +kernel
theorem dX8_servesBy_12 : decode cX8_servesBy 12 = .ok (.iload_n 1, 1) := by decide +kernel
theorem dX8_servesBy_13 : decode cX8_servesBy 13 = .ok (.iconst 2, 1) := by decide +kernel
theorem dX8_servesBy_14 : decode cX8_servesBy 14 = .ok (.iload_n 2, 1) := by decide +kernel
theorem dX8_servesBy_15 : decode cX8_servesBy 15 = .ok (.iconst 1, 1) := by decide +kernel
theorem dX8_servesBy_16 : decode cX8_servesBy 16 = .ok (.isub, 1) := by decide +kernel
theorem dX8_servesBy_17 : decode cX8_servesBy 17 = .ok (.iload_n 3, 1) := by decide +kernel
theorem dX8_servesBy_18 : decode cX8_servesBy 18 = .ok (.isub, 1) := by decide +kernel
theorem dX8_servesBy_19 : decode cX8_servesBy 19 = .ok (.imul, 1) := by decide +kernel
theorem dX8_servesBy_20 : decode cX8_servesBy 20 = .ok (.ishr, 1) := by decide +kernel
theorem dX8_servesBy_21 : decode cX8_servesBy 21 = .ok (.iconst 3, 1) := by decide +kernel
theorem dX8_servesBy_22 : decode cX8_servesBy 22 = .ok (.iand, 1) := by decide +kernel
theorem dX8_servesBy_23 : decode cX8_servesBy 23 = .ok (.istore 4, 2) := by decide +kernel
theorem dX8_servesBy_25 : decode cX8_servesBy 25 = .ok (.aload_n 0, 1) := by decide +kernel
theorem dX8_servesBy_26 : decode cX8_servesBy 26 = .ok (.getfield 7, 3) := by decide +kernel
theorem dX8_servesBy_29 : decode cX8_servesBy 29 = .ok (.bipush 8, 2) := by decide +kernel
theorem dX8_servesBy_31 : decode cX8_servesBy 31 = .ok (.iload_n 3, 1) := by decide +kernel
theorem dX8_servesBy_32 : decode cX8_servesBy 32 = .ok (.iadd, 1) := by decide +kernel
theorem dX8_servesBy_33 : decode cX8_servesBy 33 = .ok (.iaload, 1) := by decide +kernel
theorem dX8_servesBy_34 : decode cX8_servesBy 34 = .ok (.istore 5, 2) := by decide +kernel
theorem dX8_servesBy_36 : decode cX8_servesBy 36 = .ok (.aload_n 0, 1) := by decide +kernel
theorem dX8_servesBy_37 : decode cX8_servesBy 37 = .ok (.iload 4, 2) := by decide +kernel
theorem dX8_servesBy_39 : decode cX8_servesBy 39 = .ok (.invokevirtual 175, 3) := by decide +kernel
theorem dX8_servesBy_42 : decode cX8_servesBy 42 = .ok (.ifCond .eq 39, 3) := by decide +kernel
theorem dX8_servesBy_45 : decode cX8_servesBy 45 = .ok (.aload_n 0, 1) := by decide +kernel
theorem dX8_servesBy_46 : decode cX8_servesBy 46 = .ok (.getfield 7, 3) := by decide +kernel
theorem dX8_servesBy_49 : decode cX8_servesBy 49 = .ok (.bipush 22, 2) := by decide +kernel
theorem dX8_servesBy_51 : decode cX8_servesBy 51 = .ok (.iload 5, 2) := by decide +kernel
theorem dX8_servesBy_53 : decode cX8_servesBy 53 = .ok (.iadd, 1) := by decide +kernel
theorem dX8_servesBy_54 : decode cX8_servesBy 54 = .ok (.iaload, 1) := by decide +kernel
theorem dX8_servesBy_55 : decode cX8_servesBy 55 = .ok (.iconst 1, 1) := by decide +kernel
theorem dX8_servesBy_56 : decode cX8_servesBy 56 = .ok (.if_icmp .ne 27, 3) := by decide +kernel
theorem dX8_servesBy_59 : decode cX8_servesBy 59 = .ok (.aload_n 0, 1) := by decide +kernel
theorem dX8_servesBy_60 : decode cX8_servesBy 60 = .ok (.sipush 1323, 3) := by decide +kernel
theorem dX8_servesBy_63 : decode cX8_servesBy 63 = .ok (.iload 4, 2) := by decide +kernel
theorem dX8_servesBy_65 : decode cX8_servesBy 65 = .ok (.aload_n 0, 1) := by decide +kernel
theorem dX8_servesBy_66 : decode cX8_servesBy 66 = .ok (.getfield 7, 3) := by decide +kernel
theorem dX8_servesBy_69 : decode cX8_servesBy 69 = .ok (.bipush 15, 2) := by decide +kernel
theorem dX8_servesBy_71 : decode cX8_servesBy 71 = .ok (.iload 5, 2) := by decide +kernel
theorem dX8_servesBy_73 : decode cX8_servesBy 73 = .ok (.iadd, 1) := by decide +kernel
theorem dX8_servesBy_74 : decode cX8_servesBy 74 = .ok (.iaload, 1) := by decide +kernel
theorem dX8_servesBy_75 : decode cX8_servesBy 75 = .ok (.invokevirtual 153, 3) := by decide +kernel
theorem dX8_servesBy_78 : decode cX8_servesBy 78 = .ok (.ifCond .ne 5, 3) := by decide +kernel
theorem dX8_servesBy_81 : decode cX8_servesBy 81 = .ok (.iconst 0, 1) := by decide +kernel
theorem dX8_servesBy_82 : decode cX8_servesBy 82 = .ok (.ireturn, 1) := by decide +kernel
theorem dX8_servesBy_83 : decode cX8_servesBy 83 = .ok (.aload_n 0, 1) := by decide +kernel
theorem dX8_servesBy_84 : decode cX8_servesBy 84 = .ok (.sipush 1323, 3) := by decide +kernel
theorem dX8_servesBy_87 : decode cX8_servesBy 87 = .ok (.iload 4, 2) := by decide +kernel
theorem dX8_servesBy_89 : decode cX8_servesBy 89 = .ok (.iload 5, 2) := by decide +kernel
theorem dX8_servesBy_91 : decode cX8_servesBy 91 = .ok (.invokevirtual 159, 3) := by decide +kernel
theorem dX8_servesBy_94 : decode cX8_servesBy 94 = .ok (.iinc 3 1, 3) := by decide +kernel
theorem dX8_servesBy_97 : decode cX8_servesBy 97 = .ok (.goto (-90), 3) := by decide +kernel
theorem dX8_servesBy_100 : decode cX8_servesBy 100 = .ok (.iconst 1, 1) := by decide +kernel
theorem dX8_servesBy_101 : decode cX8_servesBy 101 = .ok (.ireturn, 1) := by decide +kernel
theorem dX8_share_0 : decode cX8_share 0 = .ok (.aload_n 0, 1) := by decide +kernel
theorem dX8_share_1 : decode cX8_share 1 = .ok (.getfield 137, 3) := by decide +kernel
theorem dX8_share_4 : decode cX8_share 4 = .ok (.ifCond .ne 6, 3) := by decide +kernel
theorem dX8_share_7 : decode cX8_share 7 = .ok (.ldc 144, 2) := by decide +kernel
theorem dX8_share_9 : decode cX8_share 9 = .ok (.ireturn, 1) := by decide +kernel
theorem dX8_share_10 : decode cX8_share 10 = .ok (.iload_n 1, 1) := by decide +kernel
theorem dX8_share_11 : decode cX8_share 11 = .ok (.iconst (-1), 1) := by decide +kernel
theorem dX8_share_12 : decode cX8_share 12 = .ok (.if_icmp .ge 6, 3) := by decide +kernel
theorem dX8_share_15 : decode cX8_share 15 = .ok (.ldc 55, 2) := by decide +kernel
theorem dX8_share_17 : decode cX8_share 17 = .ok (.ireturn, 1) := by decide +kernel
theorem dX8_share_18 : decode cX8_share 18 = .ok (.aload_n 0, 1) := by decide +kernel
theorem dX8_share_19 : decode cX8_share 19 = .ok (.getfield 7, 3) := by decide +kernel
theorem dX8_share_22 : decode cX8_share 22 = .ok (.bipush 7, 2) := by decide +kernel
theorem dX8_share_24 : decode cX8_share 24 = .ok (.iaload, 1) := by decide +kernel
theorem dX8_share_25 : decode cX8_share 25 = .ok (.istore_n 2, 1) := by decide +kernel
theorem dX8_share_26 : decode cX8_share 26 = .ok (.ldc 149, 2) := by decide +kernel
theorem dX8_share_28 : decode cX8_share 28 = .ok (.istore_n 3, 1) := by decide +kernel
theorem dX8_share_29 : decode cX8_share 29 = .ok (.ldc 149, 2) := by decide +kernel
theorem dX8_share_31 : decode cX8_share 31 = .ok (.istore 4, 2) := by decide +kernel
theorem dX8_share_33 : decode cX8_share 33 = .ok (.iconst 0, 1) := by decide +kernel
theorem dX8_share_34 : decode cX8_share 34 = .ok (.istore 5, 2) := by decide +kernel
theorem dX8_share_36 : decode cX8_share 36 = .ok (.iload 5, 2) := by decide +kernel
theorem dX8_share_38 : decode cX8_share 38 = .ok (.iconst 1, 1) := by decide +kernel
theorem dX8_share_39 : decode cX8_share 39 = .ok (.iconst 2, 1) := by decide +kernel
theorem dX8_share_40 : decode cX8_share 40 = .ok (.iload_n 2, 1) := by decide +kernel
theorem dX8_share_41 : decode cX8_share 41 = .ok (.imul, 1) := by decide +kernel
theorem dX8_share_42 : decode cX8_share 42 = .ok (.ishl, 1) := by decide +kernel
theorem dX8_share_43 : decode cX8_share 43 = .ok (.if_icmp .ge 43, 3) := by decide +kernel
theorem dX8_share_46 : decode cX8_share 46 = .ok (.aload_n 0, 1) := by decide +kernel
theorem dX8_share_47 : decode cX8_share 47 = .ok (.iload 5, 2) := by decide +kernel
theorem dX8_share_49 : decode cX8_share 49 = .ok (.iload_n 2, 1) := by decide +kernel
theorem dX8_share_50 : decode cX8_share 50 = .ok (.invokevirtual 214, 3) := by decide +kernel
theorem dX8_share_53 : decode cX8_share 53 = .ok (.ifCond .eq 27, 3) := by decide +kernel
theorem dX8_share_56 : decode cX8_share 56 = .ok (.aload_n 0, 1) := by decide +kernel
theorem dX8_share_57 : decode cX8_share 57 = .ok (.sipush 1323, 3) := by decide +kernel
theorem dX8_share_60 : decode cX8_share 60 = .ok (.invokevirtual 217, 3) := by decide +kernel
theorem dX8_share_63 : decode cX8_share 63 = .ok (.iload 4, 2) := by decide +kernel
theorem dX8_share_65 : decode cX8_share 65 = .ok (.if_icmp .le 15, 3) := by decide +kernel
theorem dX8_share_68 : decode cX8_share 68 = .ok (.aload_n 0, 1) := by decide +kernel
theorem dX8_share_69 : decode cX8_share 69 = .ok (.sipush 1323, 3) := by decide +kernel
theorem dX8_share_72 : decode cX8_share 72 = .ok (.invokevirtual 217, 3) := by decide +kernel
theorem dX8_share_75 : decode cX8_share 75 = .ok (.istore 4, 2) := by decide +kernel
theorem dX8_share_77 : decode cX8_share 77 = .ok (.iload 5, 2) := by decide +kernel
theorem dX8_share_79 : decode cX8_share 79 = .ok (.istore_n 3, 1) := by decide +kernel
theorem dX8_share_80 : decode cX8_share 80 = .ok (.iinc 5 1, 3) := by decide +kernel
theorem dX8_share_83 : decode cX8_share 83 = .ok (.goto (-47), 3) := by decide +kernel
theorem dX8_share_86 : decode cX8_share 86 = .ok (.iload_n 3, 1) := by decide +kernel
theorem dX8_share_87 : decode cX8_share 87 = .ok (.ldc 149, 2) := by decide +kernel
theorem dX8_share_89 : decode cX8_share 89 = .ok (.if_icmp .eq 8, 3) := by decide +kernel
theorem dX8_share_92 : decode cX8_share 92 = .ok (.iload_n 1, 1) := by decide +kernel
theorem dX8_share_93 : decode cX8_share 93 = .ok (.iload_n 2, 1) := by decide +kernel
theorem dX8_share_94 : decode cX8_share 94 = .ok (.if_icmp .lt 6, 3) := by decide +kernel
theorem dX8_share_97 : decode cX8_share 97 = .ok (.ldc 149, 2) := by decide +kernel
theorem dX8_share_99 : decode cX8_share 99 = .ok (.ireturn, 1) := by decide +kernel
theorem dX8_share_100 : decode cX8_share 100 = .ok (.iload_n 1, 1) := by decide +kernel
theorem dX8_share_101 : decode cX8_share 101 = .ok (.ifCond .ge 8, 3) := by decide +kernel
theorem dX8_share_104 : decode cX8_share 104 = .ok (.iload 4, 2) := by decide +kernel
theorem dX8_share_106 : decode cX8_share 106 = .ok (.goto 14, 3) := by decide +kernel
theorem dX8_share_109 : decode cX8_share 109 = .ok (.iload_n 3, 1) := by decide +kernel
theorem dX8_share_110 : decode cX8_share 110 = .ok (.iconst 2, 1) := by decide +kernel
theorem dX8_share_111 : decode cX8_share 111 = .ok (.iload_n 2, 1) := by decide +kernel
theorem dX8_share_112 : decode cX8_share 112 = .ok (.iconst 1, 1) := by decide +kernel
theorem dX8_share_113 : decode cX8_share 113 = .ok (.isub, 1) := by decide +kernel
theorem dX8_share_114 : decode cX8_share 114 = .ok (.iload_n 1, 1) := by decide +kernel
theorem dX8_share_115 : decode cX8_share 115 = .ok (.isub, 1) := by decide +kernel
theorem dX8_share_116 : decode cX8_share 116 = .ok (.imul, 1) := by decide +kernel
theorem dX8_share_117 : decode cX8_share 117 = .ok (.ishr, 1) := by decide +kernel
theorem dX8_share_118 : decode cX8_share 118 = .ok (.iconst 3, 1) := by decide +kernel
theorem dX8_share_119 : decode cX8_share 119 = .ok (.iand, 1) := by decide +kernel
theorem dX8_share_120 : decode cX8_share 120 = .ok (.ireturn, 1) := by decide +kernel
theorem dX8_open_0 : decode cX8_open 0 = .ok (.aload_n 0, 1) := by decide +kernel
theorem dX8_open_1 : decode cX8_open 1 = .ok (.getfield 137, 3) := by decide +kernel
theorem dX8_open_4 : decode cX8_open 4 = .ok (.ifCond .ne 6, 3) := by decide +kernel
theorem dX8_open_7 : decode cX8_open 7 = .ok (.ldc 144, 2) := by decide +kernel
theorem dX8_open_9 : decode cX8_open 9 = .ok (.ireturn, 1) := by decide +kernel
theorem dX8_open_10 : decode cX8_open 10 = .ok (.iload_n 1, 1) := by decide +kernel
theorem dX8_open_11 : decode cX8_open 11 = .ok (.i2l, 1) := by decide +kernel
theorem dX8_open_12 : decode cX8_open 12 = .ok (.lconst 0, 1) := by decide +kernel
theorem dX8_open_13 : decode cX8_open 13 = .ok (.lconst 1, 1) := by decide +kernel
theorem dX8_open_14 : decode cX8_open 14 = .ok (.invokestatic 45, 3) := by decide +kernel
theorem dX8_open_17 : decode cX8_open 17 = .ok (.ifCond .ne 6, 3) := by decide +kernel
theorem dX8_open_20 : decode cX8_open 20 = .ok (.ldc 55, 2) := by decide +kernel
theorem dX8_open_22 : decode cX8_open 22 = .ok (.ireturn, 1) := by decide +kernel
theorem dX8_open_23 : decode cX8_open 23 = .ok (.ldc 149, 2) := by decide +kernel
theorem dX8_open_25 : decode cX8_open 25 = .ok (.istore_n 2, 1) := by decide +kernel
theorem dX8_open_26 : decode cX8_open 26 = .ok (.iconst 0, 1) := by decide +kernel
theorem dX8_open_27 : decode cX8_open 27 = .ok (.istore_n 3, 1) := by decide +kernel
theorem dX8_open_28 : decode cX8_open 28 = .ok (.iload_n 3, 1) := by decide +kernel
theorem dX8_open_29 : decode cX8_open 29 = .ok (.iconst 1, 1) := by decide +kernel
theorem dX8_open_30 : decode cX8_open 30 = .ok (.aload_n 0, 1) := by decide +kernel
theorem dX8_open_31 : decode cX8_open 31 = .ok (.getfield 7, 3) := by decide +kernel
theorem dX8_open_34 : decode cX8_open 34 = .ok (.iconst 0, 1) := by decide +kernel
theorem dX8_open_35 : decode cX8_open 35 = .ok (.iaload, 1) := by decide +kernel
theorem dX8_open_36 : decode cX8_open 36 = .ok (.ishl, 1) := by decide +kernel
theorem dX8_open_37 : decode cX8_open 37 = .ok (.if_icmp .ge 77, 3) := by decide +kernel
theorem dX8_open_40 : decode cX8_open 40 = .ok (.iload_n 2, 1) := by decide +kernel
theorem dX8_open_41 : decode cX8_open 41 = .ok (.ldc 149, 2) := by decide +kernel
theorem dX8_open_43 : decode cX8_open 43 = .ok (.if_icmp .eq 14, 3) := by decide +kernel
theorem dX8_open_46 : decode cX8_open 46 = .ok (.iload_n 3, 1) := by decide +kernel
theorem dX8_open_47 : decode cX8_open 47 = .ok (.invokestatic 220, 3) := by decide +kernel
theorem dX8_open_50 : decode cX8_open 50 = .ok (.iload_n 2, 1) := by decide +kernel
theorem dX8_open_51 : decode cX8_open 51 = .ok (.invokestatic 220, 3) := by decide +kernel
theorem dX8_open_54 : decode cX8_open 54 = .ok (.if_icmp .ge 54, 3) := by decide +kernel
theorem dX8_open_57 : decode cX8_open 57 = .ok (.aload_n 0, 1) := by decide +kernel
theorem dX8_open_58 : decode cX8_open 58 = .ok (.iconst 0, 1) := by decide +kernel
theorem dX8_open_59 : decode cX8_open 59 = .ok (.invokevirtual 199, 3) := by decide +kernel
theorem dX8_open_62 : decode cX8_open 62 = .ok (.aload_n 0, 1) := by decide +kernel
theorem dX8_open_63 : decode cX8_open 63 = .ok (.getfield 7, 3) := by decide +kernel
theorem dX8_open_66 : decode cX8_open 66 = .ok (.sipush 1329, 3) := by decide +kernel
theorem dX8_open_69 : decode cX8_open 69 = .ok (.iload_n 3, 1) := by decide +kernel
theorem dX8_open_70 : decode cX8_open 70 = .ok (.iastore, 1) := by decide +kernel
theorem dX8_open_71 : decode cX8_open 71 = .ok (.aload_n 0, 1) := by decide +kernel
theorem dX8_open_72 : decode cX8_open 72 = .ok (.sipush 1323, 3) := by decide +kernel
theorem dX8_open_75 : decode cX8_open 75 = .ok (.aload_n 0, 1) := by decide +kernel
theorem dX8_open_76 : decode cX8_open 76 = .ok (.getfield 7, 3) := by decide +kernel
theorem dX8_open_79 : decode cX8_open 79 = .ok (.bipush 7, 2) := by decide +kernel
theorem dX8_open_81 : decode cX8_open 81 = .ok (.iaload, 1) := by decide +kernel
theorem dX8_open_82 : decode cX8_open 82 = .ok (.invokevirtual 194, 3) := by decide +kernel
theorem dX8_open_85 : decode cX8_open 85 = .ok (.aload_n 0, 1) := by decide +kernel
theorem dX8_open_86 : decode cX8_open 86 = .ok (.getfield 7, 3) := by decide +kernel
theorem dX8_open_89 : decode cX8_open 89 = .ok (.sipush 1328, 3) := by decide +kernel
theorem dX8_open_92 : decode cX8_open 92 = .ok (.iaload, 1) := by decide +kernel
theorem dX8_open_93 : decode cX8_open 93 = .ok (.aload_n 0, 1) := by decide +kernel
theorem dX8_open_94 : decode cX8_open 94 = .ok (.getfield 7, 3) := by decide +kernel
theorem dX8_open_97 : decode cX8_open 97 = .ok (.iconst 5, 1) := by decide +kernel
theorem dX8_open_98 : decode cX8_open 98 = .ok (.iaload, 1) := by decide +kernel
theorem dX8_open_99 : decode cX8_open 99 = .ok (.if_icmp .ne 7, 3) := by decide +kernel
theorem dX8_open_102 : decode cX8_open 102 = .ok (.iload_n 3, 1) := by decide +kernel
theorem dX8_open_103 : decode cX8_open 103 = .ok (.goto 4, 3) := by decide +kernel
theorem dX8_open_106 : decode cX8_open 106 = .ok (.iload_n 2, 1) := by decide +kernel
theorem dX8_open_107 : decode cX8_open 107 = .ok (.istore_n 2, 1) := by decide +kernel
theorem dX8_open_108 : decode cX8_open 108 = .ok (.iinc 3 1, 3) := by decide +kernel
theorem dX8_open_111 : decode cX8_open 111 = .ok (.goto (-83), 3) := by decide +kernel
theorem dX8_open_114 : decode cX8_open 114 = .ok (.iload_n 2, 1) := by decide +kernel
theorem dX8_open_115 : decode cX8_open 115 = .ok (.ldc 149, 2) := by decide +kernel
theorem dX8_open_117 : decode cX8_open 117 = .ok (.if_icmp .eq 8, 3) := by decide +kernel
theorem dX8_open_120 : decode cX8_open 120 = .ok (.iload_n 1, 1) := by decide +kernel
theorem dX8_open_121 : decode cX8_open 121 = .ok (.iconst 1, 1) := by decide +kernel
theorem dX8_open_122 : decode cX8_open 122 = .ok (.if_icmp .ne 7, 3) := by decide +kernel
theorem dX8_open_125 : decode cX8_open 125 = .ok (.iload_n 2, 1) := by decide +kernel
theorem dX8_open_126 : decode cX8_open 126 = .ok (.goto 7, 3) := by decide +kernel
theorem dX8_open_129 : decode cX8_open 129 = .ok (.iload_n 2, 1) := by decide +kernel
theorem dX8_open_130 : decode cX8_open 130 = .ok (.invokestatic 220, 3) := by decide +kernel
theorem dX8_open_133 : decode cX8_open 133 = .ok (.ireturn, 1) := by decide +kernel
theorem dX8_cheap_0 : decode cX8_cheap 0 = .ok (.aload_n 0, 1) := by decide +kernel
theorem dX8_cheap_1 : decode cX8_cheap 1 = .ok (.getfield 137, 3) := by decide +kernel
theorem dX8_cheap_4 : decode cX8_cheap 4 = .ok (.ifCond .ne 6, 3) := by decide +kernel
theorem dX8_cheap_7 : decode cX8_cheap 7 = .ok (.ldc 144, 2) := by decide +kernel
theorem dX8_cheap_9 : decode cX8_cheap 9 = .ok (.ireturn, 1) := by decide +kernel
theorem dX8_cheap_10 : decode cX8_cheap 10 = .ok (.iload_n 1, 1) := by decide +kernel
theorem dX8_cheap_11 : decode cX8_cheap 11 = .ok (.i2l, 1) := by decide +kernel
theorem dX8_cheap_12 : decode cX8_cheap 12 = .ok (.lconst 1, 1) := by decide +kernel
theorem dX8_cheap_13 : decode cX8_cheap 13 = .ok (.ldc2_w 181, 3) := by decide +kernel
theorem dX8_cheap_16 : decode cX8_cheap 16 = .ok (.invokestatic 45, 3) := by decide +kernel
theorem dX8_cheap_19 : decode cX8_cheap 19 = .ok (.ifCond .eq 13, 3) := by decide +kernel
theorem dX8_cheap_22 : decode cX8_cheap 22 = .ok (.iload_n 2, 1) := by decide +kernel
theorem dX8_cheap_23 : decode cX8_cheap 23 = .ok (.i2l, 1) := by decide +kernel
theorem dX8_cheap_24 : decode cX8_cheap 24 = .ok (.lconst 0, 1) := by decide +kernel
theorem dX8_cheap_25 : decode cX8_cheap 25 = .ok (.lconst 1, 1) := by decide +kernel
theorem dX8_cheap_26 : decode cX8_cheap 26 = .ok (.invokestatic 45, 3) := by decide +kernel
theorem dX8_cheap_29 : decode cX8_cheap 29 = .ok (.ifCond .ne 6, 3) := by decide +kernel
theorem dX8_cheap_32 : decode cX8_cheap 32 = .ok (.ldc 55, 2) := by decide +kernel
theorem dX8_cheap_34 : decode cX8_cheap 34 = .ok (.ireturn, 1) := by decide +kernel
theorem dX8_cheap_35 : decode cX8_cheap 35 = .ok (.iconst 0, 1) := by decide +kernel
theorem dX8_cheap_36 : decode cX8_cheap 36 = .ok (.istore_n 3, 1) := by decide +kernel
theorem dX8_cheap_37 : decode cX8_cheap 37 = .ok (.iconst 1, 1) := by decide +kernel
theorem dX8_cheap_38 : decode cX8_cheap 38 = .ok (.istore 4, 2) := by decide +kernel
theorem dX8_cheap_40 : decode cX8_cheap 40 = .ok (.iload 4, 2) := by decide +kernel
theorem dX8_cheap_42 : decode cX8_cheap 42 = .ok (.aload_n 0, 1) := by decide +kernel
theorem dX8_cheap_43 : decode cX8_cheap 43 = .ok (.getfield 7, 3) := by decide +kernel
theorem dX8_cheap_46 : decode cX8_cheap 46 = .ok (.iconst 0, 1) := by decide +kernel
theorem dX8_cheap_47 : decode cX8_cheap 47 = .ok (.iaload, 1) := by decide +kernel
theorem dX8_cheap_48 : decode cX8_cheap 48 = .ok (.if_icmp .ge 34, 3) := by decide +kernel
theorem dX8_cheap_51 : decode cX8_cheap 51 = .ok (.aload_n 0, 1) := by decide +kernel
theorem dX8_cheap_52 : decode cX8_cheap 52 = .ok (.iconst 0, 1) := by decide +kernel
theorem dX8_cheap_53 : decode cX8_cheap 53 = .ok (.iload 4, 2) := by decide +kernel
theorem dX8_cheap_55 : decode cX8_cheap 55 = .ok (.iload_n 1, 1) := by decide +kernel
theorem dX8_cheap_56 : decode cX8_cheap 56 = .ok (.invokevirtual 145, 3) := by decide +kernel
theorem dX8_cheap_59 : decode cX8_cheap 59 = .ok (.aload_n 0, 1) := by decide +kernel
theorem dX8_cheap_60 : decode cX8_cheap 60 = .ok (.iconst 0, 1) := by decide +kernel
theorem dX8_cheap_61 : decode cX8_cheap 61 = .ok (.iload_n 3, 1) := by decide +kernel
theorem dX8_cheap_62 : decode cX8_cheap 62 = .ok (.iload_n 1, 1) := by decide +kernel
theorem dX8_cheap_63 : decode cX8_cheap 63 = .ok (.invokevirtual 145, 3) := by decide +kernel
theorem dX8_cheap_66 : decode cX8_cheap 66 = .ok (.if_icmp .ge 8, 3) := by decide +kernel
theorem dX8_cheap_69 : decode cX8_cheap 69 = .ok (.iload 4, 2) := by decide +kernel
theorem dX8_cheap_71 : decode cX8_cheap 71 = .ok (.goto 4, 3) := by decide +kernel
theorem dX8_cheap_74 : decode cX8_cheap 74 = .ok (.iload_n 3, 1) := by decide +kernel
theorem dX8_cheap_75 : decode cX8_cheap 75 = .ok (.istore_n 3, 1) := by decide +kernel
theorem dX8_cheap_76 : decode cX8_cheap 76 = .ok (.iinc 4 1, 3) := by decide +kernel
theorem dX8_cheap_79 : decode cX8_cheap 79 = .ok (.goto (-39), 3) := by decide +kernel
theorem dX8_cheap_82 : decode cX8_cheap 82 = .ok (.iload_n 2, 1) := by decide +kernel
theorem dX8_cheap_83 : decode cX8_cheap 83 = .ok (.ifCond .ne 7, 3) := by decide +kernel
theorem dX8_cheap_86 : decode cX8_cheap 86 = .ok (.iload_n 3, 1) := by decide +kernel
theorem dX8_cheap_87 : decode cX8_cheap 87 = .ok (.goto 10, 3) := by decide +kernel
theorem dX8_cheap_90 : decode cX8_cheap 90 = .ok (.aload_n 0, 1) := by decide +kernel
theorem dX8_cheap_91 : decode cX8_cheap 91 = .ok (.iconst 0, 1) := by decide +kernel
theorem dX8_cheap_92 : decode cX8_cheap 92 = .ok (.iload_n 3, 1) := by decide +kernel
theorem dX8_cheap_93 : decode cX8_cheap 93 = .ok (.iload_n 1, 1) := by decide +kernel
theorem dX8_cheap_94 : decode cX8_cheap 94 = .ok (.invokevirtual 145, 3) := by decide +kernel
theorem dX8_cheap_97 : decode cX8_cheap 97 = .ok (.ireturn, 1) := by decide +kernel
theorem dX8_most_0 : decode cX8_most 0 = .ok (.aload_n 0, 1) := by decide +kernel
theorem dX8_most_1 : decode cX8_most 1 = .ok (.getfield 137, 3) := by decide +kernel
theorem dX8_most_4 : decode cX8_most 4 = .ok (.ifCond .ne 6, 3) := by decide +kernel
theorem dX8_most_7 : decode cX8_most 7 = .ok (.ldc 144, 2) := by decide +kernel
theorem dX8_most_9 : decode cX8_most 9 = .ok (.ireturn, 1) := by decide +kernel
theorem dX8_most_10 : decode cX8_most 10 = .ok (.bipush 99, 2) := by decide +kernel
theorem dX8_most_12 : decode cX8_most 12 = .ok (.istore_n 1, 1) := by decide +kernel
theorem dX8_most_13 : decode cX8_most 13 = .ok (.iload_n 1, 1) := by decide +kernel
theorem dX8_most_14 : decode cX8_most 14 = .ok (.ifCond .le 53, 3) := by decide +kernel
theorem dX8_most_17 : decode cX8_most 17 = .ok (.iconst 0, 1) := by decide +kernel
theorem dX8_most_18 : decode cX8_most 18 = .ok (.istore_n 2, 1) := by decide +kernel
theorem dX8_most_19 : decode cX8_most 19 = .ok (.iload_n 2, 1) := by decide +kernel
theorem dX8_most_20 : decode cX8_most 20 = .ok (.aload_n 0, 1) := by decide +kernel
theorem dX8_most_21 : decode cX8_most 21 = .ok (.getfield 7, 3) := by decide +kernel
theorem dX8_most_24 : decode cX8_most 24 = .ok (.iconst 0, 1) := by decide +kernel
theorem dX8_most_25 : decode cX8_most 25 = .ok (.iaload, 1) := by decide +kernel
theorem dX8_most_26 : decode cX8_most 26 = .ok (.if_icmp .ge 35, 3) := by decide +kernel
theorem dX8_most_29 : decode cX8_most 29 = .ok (.aload_n 0, 1) := by decide +kernel
theorem dX8_most_30 : decode cX8_most 30 = .ok (.getfield 7, 3) := by decide +kernel
theorem dX8_most_33 : decode cX8_most 33 = .ok (.bipush 6, 2) := by decide +kernel
theorem dX8_most_35 : decode cX8_most 35 = .ok (.iaload, 1) := by decide +kernel
theorem dX8_most_36 : decode cX8_most 36 = .ok (.iload_n 2, 1) := by decide +kernel
theorem dX8_most_37 : decode cX8_most 37 = .ok (.invokestatic 150, 3) := by decide +kernel
theorem dX8_most_40 : decode cX8_most 40 = .ok (.ifCond .eq 15, 3) := by decide +kernel
theorem dX8_most_43 : decode cX8_most 43 = .ok (.aload_n 0, 1) := by decide +kernel
theorem dX8_most_44 : decode cX8_most 44 = .ok (.iconst 0, 1) := by decide +kernel
theorem dX8_most_45 : decode cX8_most 45 = .ok (.iload_n 2, 1) := by decide +kernel
theorem dX8_most_46 : decode cX8_most 46 = .ok (.iload_n 1, 1) := by decide +kernel
theorem dX8_most_47 : decode cX8_most 47 = .ok (.invokevirtual 153, 3) := by decide +kernel
theorem dX8_most_50 : decode cX8_most 50 = .ok (.ifCond .eq 5, 3) := by decide +kernel
theorem dX8_most_53 : decode cX8_most 53 = .ok (.iload_n 1, 1) := by decide +kernel
theorem dX8_most_54 : decode cX8_most 54 = .ok (.ireturn, 1) := by decide +kernel
theorem dX8_most_55 : decode cX8_most 55 = .ok (.iinc 2 1, 3) := by decide +kernel
theorem dX8_most_58 : decode cX8_most 58 = .ok (.goto (-39), 3) := by decide +kernel
theorem dX8_most_61 : decode cX8_most 61 = .ok (.iinc 1 (-1), 3) := by decide +kernel
theorem dX8_most_64 : decode cX8_most 64 = .ok (.goto (-51), 3) := by decide +kernel
theorem dX8_most_67 : decode cX8_most 67 = .ok (.ldc 149, 2) := by decide +kernel
theorem dX8_most_69 : decode cX8_most 69 = .ok (.ireturn, 1) := by decide +kernel
theorem dX8_twins_0 : decode cX8_twins 0 = .ok (.aload_n 0, 1) := by decide +kernel
theorem dX8_twins_1 : decode cX8_twins 1 = .ok (.getfield 137, 3) := by decide +kernel
theorem dX8_twins_4 : decode cX8_twins 4 = .ok (.ifCond .ne 6, 3) := by decide +kernel
theorem dX8_twins_7 : decode cX8_twins 7 = .ok (.ldc 144, 2) := by decide +kernel
theorem dX8_twins_9 : decode cX8_twins 9 = .ok (.ireturn, 1) := by decide +kernel
theorem dX8_twins_10 : decode cX8_twins 10 = .ok (.iload_n 1, 1) := by decide +kernel
theorem dX8_twins_11 : decode cX8_twins 11 = .ok (.i2l, 1) := by decide +kernel
theorem dX8_twins_12 : decode cX8_twins 12 = .ok (.lconst 0, 1) := by decide +kernel
theorem dX8_twins_13 : decode cX8_twins 13 = .ok (.lconst 1, 1) := by decide +kernel
theorem dX8_twins_14 : decode cX8_twins 14 = .ok (.invokestatic 45, 3) := by decide +kernel
theorem dX8_twins_17 : decode cX8_twins 17 = .ok (.ifCond .ne 6, 3) := by decide +kernel
theorem dX8_twins_20 : decode cX8_twins 20 = .ok (.ldc 55, 2) := by decide +kernel
theorem dX8_twins_22 : decode cX8_twins 22 = .ok (.ireturn, 1) := by decide +kernel
theorem dX8_twins_23 : decode cX8_twins 23 = .ok (.iconst 0, 1) := by decide +kernel
theorem dX8_twins_24 : decode cX8_twins 24 = .ok (.istore_n 2, 1) := by decide +kernel
theorem dX8_twins_25 : decode cX8_twins 25 = .ok (.ldc 149, 2) := by decide +kernel
theorem dX8_twins_27 : decode cX8_twins 27 = .ok (.istore_n 3, 1) := by decide +kernel
theorem dX8_twins_28 : decode cX8_twins 28 = .ok (.aload_n 0, 1) := by decide +kernel
theorem dX8_twins_29 : decode cX8_twins 29 = .ok (.getfield 7, 3) := by decide +kernel
theorem dX8_twins_32 : decode cX8_twins 32 = .ok (.iconst 0, 1) := by decide +kernel
theorem dX8_twins_33 : decode cX8_twins 33 = .ok (.iaload, 1) := by decide +kernel
theorem dX8_twins_34 : decode cX8_twins 34 = .ok (.iconst 1, 1) := by decide +kernel
theorem dX8_twins_35 : decode cX8_twins 35 = .ok (.isub, 1) := by decide +kernel
theorem dX8_twins_36 : decode cX8_twins 36 = .ok (.istore 4, 2) := by decide +kernel
theorem dX8_twins_38 : decode cX8_twins 38 = .ok (.iload 4, 2) := by decide +kernel
theorem dX8_twins_40 : decode cX8_twins 40 = .ok (.ifCond .lt 93, 3) := by decide +kernel
theorem dX8_twins_43 : decode cX8_twins 43 = .ok (.aload_n 0, 1) := by decide +kernel
theorem dX8_twins_44 : decode cX8_twins 44 = .ok (.getfield 7, 3) := by decide +kernel
theorem dX8_twins_47 : decode cX8_twins 47 = .ok (.iconst 0, 1) := by decide +kernel
theorem dX8_twins_48 : decode cX8_twins 48 = .ok (.iaload, 1) := by decide +kernel
theorem dX8_twins_49 : decode cX8_twins 49 = .ok (.iconst 1, 1) := by decide +kernel
theorem dX8_twins_50 : decode cX8_twins 50 = .ok (.isub, 1) := by decide +kernel
theorem dX8_twins_51 : decode cX8_twins 51 = .ok (.istore 5, 2) := by decide +kernel
theorem dX8_twins_53 : decode cX8_twins 53 = .ok (.iload 5, 2) := by decide +kernel
theorem dX8_twins_55 : decode cX8_twins 55 = .ok (.iload 4, 2) := by decide +kernel
theorem dX8_twins_57 : decode cX8_twins 57 = .ok (.if_icmp .le 70, 3) := by decide +kernel
theorem dX8_twins_60 : decode cX8_twins 60 = .ok (.aload_n 0, 1) := by decide +kernel
theorem dX8_twins_61 : decode cX8_twins 61 = .ok (.getfield 7, 3) := by decide +kernel
theorem dX8_twins_64 : decode cX8_twins 64 = .ok (.bipush 41, 2) := by decide +kernel
theorem dX8_twins_66 : decode cX8_twins 66 = .ok (.iload 4, 2) := by decide +kernel
theorem dX8_twins_68 : decode cX8_twins 68 = .ok (.iadd, 1) := by decide +kernel
theorem dX8_twins_69 : decode cX8_twins 69 = .ok (.iaload, 1) := by decide +kernel
theorem dX8_twins_70 : decode cX8_twins 70 = .ok (.aload_n 0, 1) := by decide +kernel
theorem dX8_twins_71 : decode cX8_twins 71 = .ok (.getfield 7, 3) := by decide +kernel
theorem dX8_twins_74 : decode cX8_twins 74 = .ok (.bipush 41, 2) := by decide +kernel
theorem dX8_twins_76 : decode cX8_twins 76 = .ok (.iload 5, 2) := by decide +kernel
theorem dX8_twins_78 : decode cX8_twins 78 = .ok (.iadd, 1) := by decide +kernel
theorem dX8_twins_79 : decode cX8_twins 79 = .ok (.iaload, 1) := by decide +kernel
theorem dX8_twins_80 : decode cX8_twins 80 = .ok (.if_icmp .ne 7, 3) := by decide +kernel
theorem dX8_twins_83 : decode cX8_twins 83 = .ok (.iconst 1, 1) := by decide +kernel
theorem dX8_twins_84 : decode cX8_twins 84 = .ok (.goto 4, 3) := by decide +kernel
theorem dX8_twins_87 : decode cX8_twins 87 = .ok (.iconst 0, 1) := by decide +kernel
theorem dX8_twins_88 : decode cX8_twins 88 = .ok (.istore 6, 2) := by decide +kernel
theorem dX8_twins_90 : decode cX8_twins 90 = .ok (.iload_n 2, 1) := by decide +kernel
theorem dX8_twins_91 : decode cX8_twins 91 = .ok (.iload 6, 2) := by decide +kernel
theorem dX8_twins_93 : decode cX8_twins 93 = .ok (.ifCond .eq 7, 3) := by decide +kernel
theorem dX8_twins_96 : decode cX8_twins 96 = .ok (.iconst 1, 1) := by decide +kernel
theorem dX8_twins_97 : decode cX8_twins 97 = .ok (.goto 4, 3) := by decide +kernel
theorem dX8_twins_100 : decode cX8_twins 100 = .ok (.iconst 0, 1) := by decide +kernel
theorem dX8_twins_101 : decode cX8_twins 101 = .ok (.iadd, 1) := by decide +kernel
theorem dX8_twins_102 : decode cX8_twins 102 = .ok (.istore_n 2, 1) := by decide +kernel
theorem dX8_twins_103 : decode cX8_twins 103 = .ok (.iload 6, 2) := by decide +kernel
theorem dX8_twins_105 : decode cX8_twins 105 = .ok (.ifCond .eq 14, 3) := by decide +kernel
theorem dX8_twins_108 : decode cX8_twins 108 = .ok (.bipush 10, 2) := by decide +kernel
theorem dX8_twins_110 : decode cX8_twins 110 = .ok (.iload 4, 2) := by decide +kernel
theorem dX8_twins_112 : decode cX8_twins 112 = .ok (.imul, 1) := by decide +kernel
theorem dX8_twins_113 : decode cX8_twins 113 = .ok (.iload 5, 2) := by decide +kernel
theorem dX8_twins_115 : decode cX8_twins 115 = .ok (.iadd, 1) := by decide +kernel
theorem dX8_twins_116 : decode cX8_twins 116 = .ok (.goto 4, 3) := by decide +kernel
theorem dX8_twins_119 : decode cX8_twins 119 = .ok (.iload_n 3, 1) := by decide +kernel
theorem dX8_twins_120 : decode cX8_twins 120 = .ok (.istore_n 3, 1) := by decide +kernel
theorem dX8_twins_121 : decode cX8_twins 121 = .ok (.iinc 5 (-1), 3) := by decide +kernel
theorem dX8_twins_124 : decode cX8_twins 124 = .ok (.goto (-71), 3) := by decide +kernel
theorem dX8_twins_127 : decode cX8_twins 127 = .ok (.iinc 4 (-1), 3) := by decide +kernel
theorem dX8_twins_130 : decode cX8_twins 130 = .ok (.goto (-92), 3) := by decide +kernel
theorem dX8_twins_133 : decode cX8_twins 133 = .ok (.iload_n 1, 1) := by decide +kernel
theorem dX8_twins_134 : decode cX8_twins 134 = .ok (.ifCond .ne 7, 3) := by decide +kernel
theorem dX8_twins_137 : decode cX8_twins 137 = .ok (.iload_n 2, 1) := by decide +kernel
theorem dX8_twins_138 : decode cX8_twins 138 = .ok (.goto 4, 3) := by decide +kernel
theorem dX8_twins_141 : decode cX8_twins 141 = .ok (.iload_n 3, 1) := by decide +kernel
theorem dX8_twins_142 : decode cX8_twins 142 = .ok (.ireturn, 1) := by decide +kernel
theorem dX8_noItems_0 : decode cX8_noItems 0 = .ok (.aload_n 0, 1) := by decide +kernel
theorem dX8_noItems_1 : decode cX8_noItems 1 = .ok (.getfield 20, 3) := by decide +kernel
theorem dX8_noItems_4 : decode cX8_noItems 4 = .ok (.iload_n 1, 1) := by decide +kernel
theorem dX8_noItems_5 : decode cX8_noItems 5 = .ok (.iaload, 1) := by decide +kernel
theorem dX8_noItems_6 : decode cX8_noItems 6 = .ok (.ifCond .ge 11, 3) := by decide +kernel
theorem dX8_noItems_9 : decode cX8_noItems 9 = .ok (.aload_n 0, 1) := by decide +kernel
theorem dX8_noItems_10 : decode cX8_noItems 10 = .ok (.iconst 1, 1) := by decide +kernel
theorem dX8_noItems_11 : decode cX8_noItems 11 = .ok (.invokevirtual 56, 3) := by decide +kernel
theorem dX8_noItems_14 : decode cX8_noItems 14 = .ok (.goto 22, 3) := by decide +kernel
theorem dX8_noItems_17 : decode cX8_noItems 17 = .ok (.aload_n 0, 1) := by decide +kernel
theorem dX8_noItems_18 : decode cX8_noItems 18 = .ok (.iload_n 1, 1) := by decide +kernel
theorem dX8_noItems_19 : decode cX8_noItems 19 = .ok (.iload_n 2, 1) := by decide +kernel
theorem dX8_noItems_20 : decode cX8_noItems 20 = .ok (.iload_n 3, 1) := by decide +kernel
theorem dX8_noItems_21 : decode cX8_noItems 21 = .ok (.invokevirtual 67, 3) := by decide +kernel
theorem dX8_noItems_24 : decode cX8_noItems 24 = .ok (.ifCond .eq 7, 3) := by decide +kernel
theorem dX8_noItems_27 : decode cX8_noItems 27 = .ok (.iconst 0, 1) := by decide +kernel
theorem dX8_noItems_28 : decode cX8_noItems 28 = .ok (.goto 8, 3) := by decide +kernel
theorem dX8_noItems_31 : decode cX8_noItems 31 = .ok (.aload_n 0, 1) := by decide +kernel
theorem dX8_noItems_32 : decode cX8_noItems 32 = .ok (.iconst 2, 1) := by decide +kernel
theorem dX8_noItems_33 : decode cX8_noItems 33 = .ok (.invokevirtual 56, 3) := by decide +kernel
theorem dX8_noItems_36 : decode cX8_noItems 36 = .ok (.ireturn, 1) := by decide +kernel
theorem dX8_isSo_0 : decode cX8_isSo 0 = .ok (.iconst 0, 1) := by decide +kernel
theorem dX8_isSo_1 : decode cX8_isSo 1 = .ok (.istore 5, 2) := by decide +kernel
theorem dX8_isSo_3 : decode cX8_isSo 3 = .ok (.iload 5, 2) := by decide +kernel
theorem dX8_isSo_5 : decode cX8_isSo 5 = .ok (.iload 4, 2) := by decide +kernel
theorem dX8_isSo_7 : decode cX8_isSo 7 = .ok (.if_icmp .ge 46, 3) := by decide +kernel
theorem dX8_isSo_10 : decode cX8_isSo 10 = .ok (.aload_n 0, 1) := by decide +kernel
theorem dX8_isSo_11 : decode cX8_isSo 11 = .ok (.sipush 1323, 3) := by decide +kernel
theorem dX8_isSo_14 : decode cX8_isSo 14 = .ok (.invokevirtual 167, 3) := by decide +kernel
theorem dX8_isSo_17 : decode cX8_isSo 17 = .ok (.pop, 1) := by decide +kernel
theorem dX8_isSo_18 : decode cX8_isSo 18 = .ok (.aload_n 0, 1) := by decide +kernel
theorem dX8_isSo_19 : decode cX8_isSo 19 = .ok (.getfield 7, 3) := by decide +kernel
theorem dX8_isSo_22 : decode cX8_isSo 22 = .ok (.sipush 1364, 3) := by decide +kernel
theorem dX8_isSo_25 : decode cX8_isSo 25 = .ok (.iload_n 1, 1) := by decide +kernel
theorem dX8_isSo_26 : decode cX8_isSo 26 = .ok (.iadd, 1) := by decide +kernel
theorem dX8_isSo_27 : decode cX8_isSo 27 = .ok (.iaload, 1) := by decide +kernel
theorem dX8_isSo_28 : decode cX8_isSo 28 = .ok (.aload_n 0, 1) := by decide +kernel
theorem dX8_isSo_29 : decode cX8_isSo 29 = .ok (.getfield 23, 3) := by decide +kernel
theorem dX8_isSo_32 : decode cX8_isSo 32 = .ok (.bipush 40, 2) := by decide +kernel
theorem dX8_isSo_34 : decode cX8_isSo 34 = .ok (.iload_n 2, 1) := by decide +kernel
theorem dX8_isSo_35 : decode cX8_isSo 35 = .ok (.imul, 1) := by decide +kernel
theorem dX8_isSo_36 : decode cX8_isSo 36 = .ok (.iload_n 3, 1) := by decide +kernel
theorem dX8_isSo_37 : decode cX8_isSo 37 = .ok (.iadd, 1) := by decide +kernel
theorem dX8_isSo_38 : decode cX8_isSo 38 = .ok (.iload 5, 2) := by decide +kernel
theorem dX8_isSo_40 : decode cX8_isSo 40 = .ok (.iadd, 1) := by decide +kernel
theorem dX8_isSo_41 : decode cX8_isSo 41 = .ok (.iaload, 1) := by decide +kernel
theorem dX8_isSo_42 : decode cX8_isSo 42 = .ok (.if_icmp .eq 5, 3) := by decide +kernel
theorem dX8_isSo_45 : decode cX8_isSo 45 = .ok (.iconst 0, 1) := by decide +kernel
theorem dX8_isSo_46 : decode cX8_isSo 46 = .ok (.ireturn, 1) := by decide +kernel
theorem dX8_isSo_47 : decode cX8_isSo 47 = .ok (.iinc 5 1, 3) := by decide +kernel
theorem dX8_isSo_50 : decode cX8_isSo 50 = .ok (.goto (-47), 3) := by decide +kernel
theorem dX8_isSo_53 : decode cX8_isSo 53 = .ok (.iconst 1, 1) := by decide +kernel
theorem dX8_isSo_54 : decode cX8_isSo 54 = .ok (.ireturn, 1) := by decide +kernel
theorem dX8_who_0 : decode cX8_who 0 = .ok (.aload_n 0, 1) := by decide +kernel
theorem dX8_who_1 : decode cX8_who 1 = .ok (.iload_n 1, 1) := by decide +kernel
theorem dX8_who_2 : decode cX8_who 2 = .ok (.invokevirtual 175, 3) := by decide +kernel
theorem dX8_who_5 : decode cX8_who 5 = .ok (.ifCond .eq 42, 3) := by decide +kernel
theorem dX8_who_8 : decode cX8_who 8 = .ok (.iload_n 2, 1) := by decide +kernel
theorem dX8_who_9 : decode cX8_who 9 = .ok (.i2l, 1) := by decide +kernel
theorem dX8_who_10 : decode cX8_who 10 = .ok (.lconst 0, 1) := by decide +kernel
theorem dX8_who_11 : decode cX8_who 11 = .ok (.lconst 1, 1) := by decide +kernel
theorem dX8_who_12 : decode cX8_who 12 = .ok (.invokestatic 45, 3) := by decide +kernel
theorem dX8_who_15 : decode cX8_who 15 = .ok (.ifCond .eq 32, 3) := by decide +kernel
theorem dX8_who_18 : decode cX8_who 18 = .ok (.aload_n 0, 1) := by decide +kernel
theorem dX8_who_19 : decode cX8_who 19 = .ok (.iload_n 3, 1) := by decide +kernel
theorem dX8_who_20 : decode cX8_who 20 = .ok (.invokevirtual 175, 3) := by decide +kernel
theorem dX8_who_23 : decode cX8_who 23 = .ok (.ifCond .eq 24, 3) := by decide +kernel
theorem dX8_who_26 : decode cX8_who 26 = .ok (.iload 4, 2) := by decide +kernel
theorem dX8_who_28 : decode cX8_who 28 = .ok (.invokestatic 49, 3) := by decide +kernel
theorem dX8_who_31 : decode cX8_who 31 = .ok (.ifCond .eq 16, 3) := by decide +kernel
theorem dX8_who_34 : decode cX8_who 34 = .ok (.iload 6, 2) := by decide +kernel
theorem dX8_who_36 : decode cX8_who 36 = .ok (.i2l, 1) := by decide +kernel
theorem dX8_who_37 : decode cX8_who 37 = .ok (.lconst 1, 1) := by decide +kernel
theorem dX8_who_38 : decode cX8_who 38 = .ok (.ldc2_w 223, 3) := by decide +kernel
theorem dX8_who_41 : decode cX8_who 41 = .ok (.invokestatic 45, 3) := by decide +kernel
theorem dX8_who_44 : decode cX8_who 44 = .ok (.ifCond .ne 6, 3) := by decide +kernel
theorem dX8_who_47 : decode cX8_who 47 = .ok (.ldc 55, 2) := by decide +kernel
theorem dX8_who_49 : decode cX8_who 49 = .ok (.ireturn, 1) := by decide +kernel
theorem dX8_who_50 : decode cX8_who 50 = .ok (.aload_n 0, 1) := by decide +kernel
theorem dX8_who_51 : decode cX8_who 51 = .ok (.iload 4, 2) := by decide +kernel
theorem dX8_who_53 : decode cX8_who 53 = .ok (.iload 5, 2) := by decide +kernel
theorem dX8_who_55 : decode cX8_who 55 = .ok (.iload 6, 2) := by decide +kernel
theorem dX8_who_57 : decode cX8_who 57 = .ok (.invokevirtual 225, 3) := by decide +kernel
theorem dX8_who_60 : decode cX8_who 60 = .ok (.istore 7, 2) := by decide +kernel
theorem dX8_who_62 : decode cX8_who 62 = .ok (.iload 7, 2) := by decide +kernel
theorem dX8_who_64 : decode cX8_who 64 = .ok (.ifCond .eq 6, 3) := by decide +kernel
theorem dX8_who_67 : decode cX8_who 67 = .ok (.iload 7, 2) := by decide +kernel
theorem dX8_who_69 : decode cX8_who 69 = .ok (.ireturn, 1) := by decide +kernel
theorem dX8_who_70 : decode cX8_who 70 = .ok (.iconst 0, 1) := by decide +kernel
theorem dX8_who_71 : decode cX8_who 71 = .ok (.istore 8, 2) := by decide +kernel
theorem dX8_who_73 : decode cX8_who 73 = .ok (.iconst 1, 1) := by decide +kernel
theorem dX8_who_74 : decode cX8_who 74 = .ok (.istore 9, 2) := by decide +kernel
theorem dX8_who_76 : decode cX8_who 76 = .ok (.iload 9, 2) := by decide +kernel
theorem dX8_who_78 : decode cX8_who 78 = .ok (.iload_n 2, 1) := by decide +kernel
theorem dX8_who_79 : decode cX8_who 79 = .ok (.ifCond .ne 8, 3) := by decide +kernel
theorem dX8_who_82 : decode cX8_who 82 = .ok (.bipush 6, 2) := by decide +kernel
theorem dX8_who_84 : decode cX8_who 84 = .ok (.goto 5, 3) := by decide +kernel
theorem dX8_who_87 : decode cX8_who 87 = .ok (.bipush 10, 2) := by decide +kernel
theorem dX8_who_89 : decode cX8_who 89 = .ok (.if_icmp .ge 65, 3) := by decide +kernel
theorem dX8_who_92 : decode cX8_who 92 = .ok (.aload_n 0, 1) := by decide +kernel
theorem dX8_who_93 : decode cX8_who 93 = .ok (.iconst 0, 1) := by decide +kernel
theorem dX8_who_94 : decode cX8_who 94 = .ok (.invokevirtual 199, 3) := by decide +kernel
theorem dX8_who_97 : decode cX8_who 97 = .ok (.aload_n 0, 1) := by decide +kernel
theorem dX8_who_98 : decode cX8_who 98 = .ok (.getfield 7, 3) := by decide +kernel
theorem dX8_who_101 : decode cX8_who 101 = .ok (.sipush 1323, 3) := by decide +kernel
theorem dX8_who_104 : decode cX8_who 104 = .ok (.iload_n 2, 1) := by decide +kernel
theorem dX8_who_105 : decode cX8_who 105 = .ok (.ifCond .ne 8, 3) := by decide +kernel
theorem dX8_who_108 : decode cX8_who 108 = .ok (.bipush 29, 2) := by decide +kernel
theorem dX8_who_110 : decode cX8_who 110 = .ok (.goto 5, 3) := by decide +kernel
theorem dX8_who_113 : decode cX8_who 113 = .ok (.bipush 37, 2) := by decide +kernel
theorem dX8_who_115 : decode cX8_who 115 = .ok (.iadd, 1) := by decide +kernel
theorem dX8_who_116 : decode cX8_who 116 = .ok (.iload_n 1, 1) := by decide +kernel
theorem dX8_who_117 : decode cX8_who 117 = .ok (.iadd, 1) := by decide +kernel
theorem dX8_who_118 : decode cX8_who 118 = .ok (.iload 9, 2) := by decide +kernel
theorem dX8_who_120 : decode cX8_who 120 = .ok (.iastore, 1) := by decide +kernel
theorem dX8_who_121 : decode cX8_who 121 = .ok (.iload 8, 2) := by decide +kernel
theorem dX8_who_123 : decode cX8_who 123 = .ok (.aload_n 0, 1) := by decide +kernel
theorem dX8_who_124 : decode cX8_who 124 = .ok (.iload_n 3, 1) := by decide +kernel
theorem dX8_who_125 : decode cX8_who 125 = .ok (.iload 4, 2) := by decide +kernel
theorem dX8_who_127 : decode cX8_who 127 = .ok (.iload 5, 2) := by decide +kernel
theorem dX8_who_129 : decode cX8_who 129 = .ok (.iload 6, 2) := by decide +kernel
theorem dX8_who_131 : decode cX8_who 131 = .ok (.invokevirtual 228, 3) := by decide +kernel
theorem dX8_who_134 : decode cX8_who 134 = .ok (.ifCond .eq 10, 3) := by decide +kernel
theorem dX8_who_137 : decode cX8_who 137 = .ok (.iconst 1, 1) := by decide +kernel
theorem dX8_who_138 : decode cX8_who 138 = .ok (.iload 9, 2) := by decide +kernel
theorem dX8_who_140 : decode cX8_who 140 = .ok (.ishl, 1) := by decide +kernel
theorem dX8_who_141 : decode cX8_who 141 = .ok (.goto 4, 3) := by decide +kernel
theorem dX8_who_144 : decode cX8_who 144 = .ok (.iconst 0, 1) := by decide +kernel
theorem dX8_who_145 : decode cX8_who 145 = .ok (.ior, 1) := by decide +kernel
theorem dX8_who_146 : decode cX8_who 146 = .ok (.istore 8, 2) := by decide +kernel
theorem dX8_who_148 : decode cX8_who 148 = .ok (.iinc 9 1, 3) := by decide +kernel
theorem dX8_who_151 : decode cX8_who 151 = .ok (.goto (-75), 3) := by decide +kernel
theorem dX8_who_154 : decode cX8_who 154 = .ok (.aload_n 0, 1) := by decide +kernel
theorem dX8_who_155 : decode cX8_who 155 = .ok (.iload 8, 2) := by decide +kernel
theorem dX8_who_157 : decode cX8_who 157 = .ok (.invokevirtual 60, 3) := by decide +kernel
theorem dX8_who_160 : decode cX8_who 160 = .ok (.ireturn, 1) := by decide +kernel
theorem dX8_sums_0 : decode cX8_sums 0 = .ok (.aload_n 0, 1) := by decide +kernel
theorem dX8_sums_1 : decode cX8_sums 1 = .ok (.iload_n 1, 1) := by decide +kernel
theorem dX8_sums_2 : decode cX8_sums 2 = .ok (.invokevirtual 175, 3) := by decide +kernel
theorem dX8_sums_5 : decode cX8_sums 5 = .ok (.ifCond .eq 23, 3) := by decide +kernel
theorem dX8_sums_8 : decode cX8_sums 8 = .ok (.iload_n 2, 1) := by decide +kernel
theorem dX8_sums_9 : decode cX8_sums 9 = .ok (.invokestatic 49, 3) := by decide +kernel
theorem dX8_sums_12 : decode cX8_sums 12 = .ok (.ifCond .eq 16, 3) := by decide +kernel
theorem dX8_sums_15 : decode cX8_sums 15 = .ok (.iload 4, 2) := by decide +kernel
theorem dX8_sums_17 : decode cX8_sums 17 = .ok (.i2l, 1) := by decide +kernel
theorem dX8_sums_18 : decode cX8_sums 18 = .ok (.lconst 1, 1) := by decide +kernel
theorem dX8_sums_19 : decode cX8_sums 19 = .ok (.ldc2_w 223, 3) := by decide +kernel
theorem dX8_sums_22 : decode cX8_sums 22 = .ok (.invokestatic 45, 3) := by decide +kernel
theorem dX8_sums_25 : decode cX8_sums 25 = .ok (.ifCond .ne 6, 3) := by decide +kernel
theorem dX8_sums_28 : decode cX8_sums 28 = .ok (.ldc 55, 2) := by decide +kernel
theorem dX8_sums_30 : decode cX8_sums 30 = .ok (.ireturn, 1) := by decide +kernel
theorem dX8_sums_31 : decode cX8_sums 31 = .ok (.aload_n 0, 1) := by decide +kernel
theorem dX8_sums_32 : decode cX8_sums 32 = .ok (.getfield 7, 3) := by decide +kernel
theorem dX8_sums_35 : decode cX8_sums 35 = .ok (.bipush 7, 2) := by decide +kernel
theorem dX8_sums_37 : decode cX8_sums 37 = .ok (.iaload, 1) := by decide +kernel
theorem dX8_sums_38 : decode cX8_sums 38 = .ok (.ifCond .ne 6, 3) := by decide +kernel
theorem dX8_sums_41 : decode cX8_sums 41 = .ok (.ldc 144, 2) := by decide +kernel
theorem dX8_sums_43 : decode cX8_sums 43 = .ok (.ireturn, 1) := by decide +kernel
theorem dX8_sums_44 : decode cX8_sums 44 = .ok (.aload_n 0, 1) := by decide +kernel
theorem dX8_sums_45 : decode cX8_sums 45 = .ok (.iload_n 2, 1) := by decide +kernel
theorem dX8_sums_46 : decode cX8_sums 46 = .ok (.iload_n 3, 1) := by decide +kernel
theorem dX8_sums_47 : decode cX8_sums 47 = .ok (.iload 4, 2) := by decide +kernel
theorem dX8_sums_49 : decode cX8_sums 49 = .ok (.invokevirtual 225, 3) := by decide +kernel
theorem dX8_sums_52 : decode cX8_sums 52 = .ok (.istore 5, 2) := by decide +kernel
theorem dX8_sums_54 : decode cX8_sums 54 = .ok (.iload 5, 2) := by decide +kernel
theorem dX8_sums_56 : decode cX8_sums 56 = .ok (.ifCond .eq 6, 3) := by decide +kernel
theorem dX8_sums_59 : decode cX8_sums 59 = .ok (.iload 5, 2) := by decide +kernel
theorem dX8_sums_61 : decode cX8_sums 61 = .ok (.ireturn, 1) := by decide +kernel
theorem dX8_sums_62 : decode cX8_sums 62 = .ok (.iconst 0, 1) := by decide +kernel
theorem dX8_sums_63 : decode cX8_sums 63 = .ok (.istore 6, 2) := by decide +kernel
theorem dX8_sums_65 : decode cX8_sums 65 = .ok (.iconst 1, 1) := by decide +kernel
theorem dX8_sums_66 : decode cX8_sums 66 = .ok (.istore 7, 2) := by decide +kernel
theorem dX8_sums_68 : decode cX8_sums 68 = .ok (.iload 7, 2) := by decide +kernel
theorem dX8_sums_70 : decode cX8_sums 70 = .ok (.bipush 31, 2) := by decide +kernel
theorem dX8_sums_72 : decode cX8_sums 72 = .ok (.if_icmp .ge 57, 3) := by decide +kernel
theorem dX8_sums_75 : decode cX8_sums 75 = .ok (.aload_n 0, 1) := by decide +kernel
theorem dX8_sums_76 : decode cX8_sums 76 = .ok (.iconst 0, 1) := by decide +kernel
theorem dX8_sums_77 : decode cX8_sums 77 = .ok (.invokevirtual 199, 3) := by decide +kernel
theorem dX8_sums_80 : decode cX8_sums 80 = .ok (.aload_n 0, 1) := by decide +kernel
theorem dX8_sums_81 : decode cX8_sums 81 = .ok (.getfield 7, 3) := by decide +kernel
theorem dX8_sums_84 : decode cX8_sums 84 = .ok (.sipush 1338, 3) := by decide +kernel
theorem dX8_sums_87 : decode cX8_sums 87 = .ok (.aload_n 0, 1) := by decide +kernel
theorem dX8_sums_88 : decode cX8_sums 88 = .ok (.getfield 7, 3) := by decide +kernel
theorem dX8_sums_91 : decode cX8_sums 91 = .ok (.bipush 8, 2) := by decide +kernel
theorem dX8_sums_93 : decode cX8_sums 93 = .ok (.iaload, 1) := by decide +kernel
theorem dX8_sums_94 : decode cX8_sums 94 = .ok (.iadd, 1) := by decide +kernel
theorem dX8_sums_95 : decode cX8_sums 95 = .ok (.iload 7, 2) := by decide +kernel
theorem dX8_sums_97 : decode cX8_sums 97 = .ok (.iastore, 1) := by decide +kernel
theorem dX8_sums_98 : decode cX8_sums 98 = .ok (.iload 6, 2) := by decide +kernel
theorem dX8_sums_100 : decode cX8_sums 100 = .ok (.aload_n 0, 1) := by decide +kernel
theorem dX8_sums_101 : decode cX8_sums 101 = .ok (.iload_n 1, 1) := by decide +kernel
theorem dX8_sums_102 : decode cX8_sums 102 = .ok (.iload_n 2, 1) := by decide +kernel
theorem dX8_sums_103 : decode cX8_sums 103 = .ok (.iload_n 3, 1) := by decide +kernel
theorem dX8_sums_104 : decode cX8_sums 104 = .ok (.iload 4, 2) := by decide +kernel
theorem dX8_sums_106 : decode cX8_sums 106 = .ok (.invokevirtual 228, 3) := by decide +kernel
theorem dX8_sums_109 : decode cX8_sums 109 = .ok (.ifCond .eq 10, 3) := by decide +kernel
theorem dX8_sums_112 : decode cX8_sums 112 = .ok (.iconst 1, 1) := by decide +kernel
theorem dX8_sums_113 : decode cX8_sums 113 = .ok (.iload 7, 2) := by decide +kernel
theorem dX8_sums_115 : decode cX8_sums 115 = .ok (.ishl, 1) := by decide +kernel
theorem dX8_sums_116 : decode cX8_sums 116 = .ok (.goto 4, 3) := by decide +kernel
theorem dX8_sums_119 : decode cX8_sums 119 = .ok (.iconst 0, 1) := by decide +kernel
theorem dX8_sums_120 : decode cX8_sums 120 = .ok (.ior, 1) := by decide +kernel
theorem dX8_sums_121 : decode cX8_sums 121 = .ok (.istore 6, 2) := by decide +kernel
theorem dX8_sums_123 : decode cX8_sums 123 = .ok (.iinc 7 1, 3) := by decide +kernel
theorem dX8_sums_126 : decode cX8_sums 126 = .ok (.goto (-58), 3) := by decide +kernel
theorem dX8_sums_129 : decode cX8_sums 129 = .ok (.aload_n 0, 1) := by decide +kernel
theorem dX8_sums_130 : decode cX8_sums 130 = .ok (.iload 6, 2) := by decide +kernel
theorem dX8_sums_132 : decode cX8_sums 132 = .ok (.invokevirtual 60, 3) := by decide +kernel
theorem dX8_sums_135 : decode cX8_sums 135 = .ok (.ireturn, 1) := by decide +kernel
theorem dX8_leaveOut_0 : decode cX8_leaveOut 0 = .ok (.aload_n 0, 1) := by decide +kernel
theorem dX8_leaveOut_1 : decode cX8_leaveOut 1 = .ok (.iconst 0, 1) := by decide +kernel
theorem dX8_leaveOut_2 : decode cX8_leaveOut 2 = .ok (.invokevirtual 199, 3) := by decide +kernel
theorem dX8_leaveOut_5 : decode cX8_leaveOut 5 = .ok (.iconst 0, 1) := by decide +kernel
theorem dX8_leaveOut_6 : decode cX8_leaveOut 6 = .ok (.istore_n 2, 1) := by decide +kernel
theorem dX8_leaveOut_7 : decode cX8_leaveOut 7 = .ok (.iconst 0, 1) := by decide +kernel
theorem dX8_leaveOut_8 : decode cX8_leaveOut 8 = .ok (.istore_n 3, 1) := by decide +kernel
theorem dX8_leaveOut_9 : decode cX8_leaveOut 9 = .ok (.iload_n 3, 1) := by decide +kernel
theorem dX8_leaveOut_10 : decode cX8_leaveOut 10 = .ok (.aload_n 0, 1) := by decide +kernel
theorem dX8_leaveOut_11 : decode cX8_leaveOut 11 = .ok (.getfield 7, 3) := by decide +kernel
theorem dX8_leaveOut_14 : decode cX8_leaveOut 14 = .ok (.bipush 7, 2) := by decide +kernel
theorem dX8_leaveOut_16 : decode cX8_leaveOut 16 = .ok (.iaload, 1) := by decide +kernel
theorem dX8_leaveOut_17 : decode cX8_leaveOut 17 = .ok (.if_icmp .ge 47, 3) := by decide +kernel
theorem dX8_leaveOut_20 : decode cX8_leaveOut 20 = .ok (.iload_n 1, 1) := by decide +kernel
theorem dX8_leaveOut_21 : decode cX8_leaveOut 21 = .ok (.aload_n 0, 1) := by decide +kernel
theorem dX8_leaveOut_22 : decode cX8_leaveOut 22 = .ok (.getfield 7, 3) := by decide +kernel
theorem dX8_leaveOut_25 : decode cX8_leaveOut 25 = .ok (.bipush 8, 2) := by decide +kernel
theorem dX8_leaveOut_27 : decode cX8_leaveOut 27 = .ok (.iload_n 3, 1) := by decide +kernel
theorem dX8_leaveOut_28 : decode cX8_leaveOut 28 = .ok (.iadd, 1) := by decide +kernel
theorem dX8_leaveOut_29 : decode cX8_leaveOut 29 = .ok (.iaload, 1) := by decide +kernel
theorem dX8_leaveOut_30 : decode cX8_leaveOut 30 = .ok (.invokestatic 150, 3) := by decide +kernel
theorem dX8_leaveOut_33 : decode cX8_leaveOut 33 = .ok (.ifCond .ne 25, 3) := by decide +kernel
theorem dX8_leaveOut_36 : decode cX8_leaveOut 36 = .ok (.aload_n 0, 1) := by decide +kernel
theorem dX8_leaveOut_37 : decode cX8_leaveOut 37 = .ok (.getfield 7, 3) := by decide +kernel
theorem dX8_leaveOut_40 : decode cX8_leaveOut 40 = .ok (.sipush 1331, 3) := by decide +kernel
theorem dX8_leaveOut_43 : decode cX8_leaveOut 43 = .ok (.iload_n 2, 1) := by decide +kernel
theorem dX8_leaveOut_44 : decode cX8_leaveOut 44 = .ok (.iadd, 1) := by decide +kernel
theorem dX8_leaveOut_45 : decode cX8_leaveOut 45 = .ok (.aload_n 0, 1) := by decide +kernel
theorem dX8_leaveOut_46 : decode cX8_leaveOut 46 = .ok (.getfield 7, 3) := by decide +kernel
theorem dX8_leaveOut_49 : decode cX8_leaveOut 49 = .ok (.bipush 8, 2) := by decide +kernel
theorem dX8_leaveOut_51 : decode cX8_leaveOut 51 = .ok (.iload_n 3, 1) := by decide +kernel
theorem dX8_leaveOut_52 : decode cX8_leaveOut 52 = .ok (.iadd, 1) := by decide +kernel
theorem dX8_leaveOut_53 : decode cX8_leaveOut 53 = .ok (.iaload, 1) := by decide +kernel
theorem dX8_leaveOut_54 : decode cX8_leaveOut 54 = .ok (.iastore, 1) := by decide +kernel
theorem dX8_leaveOut_55 : decode cX8_leaveOut 55 = .ok (.iinc 2 1, 3) := by decide +kernel
theorem dX8_leaveOut_58 : decode cX8_leaveOut 58 = .ok (.iinc 3 1, 3) := by decide +kernel
theorem dX8_leaveOut_61 : decode cX8_leaveOut 61 = .ok (.goto (-52), 3) := by decide +kernel
theorem dX8_leaveOut_64 : decode cX8_leaveOut 64 = .ok (.aload_n 0, 1) := by decide +kernel
theorem dX8_leaveOut_65 : decode cX8_leaveOut 65 = .ok (.getfield 7, 3) := by decide +kernel
theorem dX8_leaveOut_68 : decode cX8_leaveOut 68 = .ok (.sipush 1330, 3) := by decide +kernel
theorem dX8_leaveOut_71 : decode cX8_leaveOut 71 = .ok (.iload_n 2, 1) := by decide +kernel
theorem dX8_leaveOut_72 : decode cX8_leaveOut 72 = .ok (.iastore, 1) := by decide +kernel
theorem dX8_leaveOut_73 : decode cX8_leaveOut 73 = .ok (.return_, 1) := by decide +kernel
theorem dX8_stayed_0 : decode cX8_stayed 0 = .ok (.aload_n 0, 1) := by decide +kernel
theorem dX8_stayed_1 : decode cX8_stayed 1 = .ok (.iload_n 1, 1) := by decide +kernel
theorem dX8_stayed_2 : decode cX8_stayed 2 = .ok (.invokevirtual 175, 3) := by decide +kernel
theorem dX8_stayed_5 : decode cX8_stayed 5 = .ok (.ifCond .eq 23, 3) := by decide +kernel
theorem dX8_stayed_8 : decode cX8_stayed 8 = .ok (.iload_n 2, 1) := by decide +kernel
theorem dX8_stayed_9 : decode cX8_stayed 9 = .ok (.invokestatic 49, 3) := by decide +kernel
theorem dX8_stayed_12 : decode cX8_stayed 12 = .ok (.ifCond .eq 16, 3) := by decide +kernel
theorem dX8_stayed_15 : decode cX8_stayed 15 = .ok (.iload 4, 2) := by decide +kernel
theorem dX8_stayed_17 : decode cX8_stayed 17 = .ok (.i2l, 1) := by decide +kernel
theorem dX8_stayed_18 : decode cX8_stayed 18 = .ok (.lconst 1, 1) := by decide +kernel
theorem dX8_stayed_19 : decode cX8_stayed 19 = .ok (.ldc2_w 223, 3) := by decide +kernel
theorem dX8_stayed_22 : decode cX8_stayed 22 = .ok (.invokestatic 45, 3) := by decide +kernel
theorem dX8_stayed_25 : decode cX8_stayed 25 = .ok (.ifCond .ne 6, 3) := by decide +kernel
theorem dX8_stayed_28 : decode cX8_stayed 28 = .ok (.ldc 55, 2) := by decide +kernel
theorem dX8_stayed_30 : decode cX8_stayed 30 = .ok (.ireturn, 1) := by decide +kernel
theorem dX8_stayed_31 : decode cX8_stayed 31 = .ok (.aload_n 0, 1) := by decide +kernel
theorem dX8_stayed_32 : decode cX8_stayed 32 = .ok (.iload_n 2, 1) := by decide +kernel
theorem dX8_stayed_33 : decode cX8_stayed 33 = .ok (.iload_n 3, 1) := by decide +kernel
theorem dX8_stayed_34 : decode cX8_stayed 34 = .ok (.iload 4, 2) := by decide +kernel
theorem dX8_stayed_36 : decode cX8_stayed 36 = .ok (.invokevirtual 225, 3) := by decide +kernel
theorem dX8_stayed_39 : decode cX8_stayed 39 = .ok (.istore 5, 2) := by decide +kernel
theorem dX8_stayed_41 : decode cX8_stayed 41 = .ok (.iload 5, 2) := by decide +kernel
theorem dX8_stayed_43 : decode cX8_stayed 43 = .ok (.ifCond .eq 6, 3) := by decide +kernel
theorem dX8_stayed_46 : decode cX8_stayed 46 = .ok (.iload 5, 2) := by decide +kernel
theorem dX8_stayed_48 : decode cX8_stayed 48 = .ok (.ireturn, 1) := by decide +kernel
theorem dX8_stayed_49 : decode cX8_stayed 49 = .ok (.iconst 0, 1) := by decide +kernel
theorem dX8_stayed_50 : decode cX8_stayed 50 = .ok (.istore 6, 2) := by decide +kernel
theorem dX8_stayed_52 : decode cX8_stayed 52 = .ok (.iconst 0, 1) := by decide +kernel
theorem dX8_stayed_53 : decode cX8_stayed 53 = .ok (.istore 7, 2) := by decide +kernel
theorem dX8_stayed_55 : decode cX8_stayed 55 = .ok (.iload 7, 2) := by decide +kernel
theorem dX8_stayed_57 : decode cX8_stayed 57 = .ok (.bipush 8, 2) := by decide +kernel
theorem dX8_stayed_59 : decode cX8_stayed 59 = .ok (.if_icmp .ge 71, 3) := by decide +kernel
theorem dX8_stayed_62 : decode cX8_stayed 62 = .ok (.aload_n 0, 1) := by decide +kernel
theorem dX8_stayed_63 : decode cX8_stayed 63 = .ok (.iconst 1, 1) := by decide +kernel
theorem dX8_stayed_64 : decode cX8_stayed 64 = .ok (.iload 7, 2) := by decide +kernel
theorem dX8_stayed_66 : decode cX8_stayed 66 = .ok (.ishl, 1) := by decide +kernel
theorem dX8_stayed_67 : decode cX8_stayed 67 = .ok (.invokevirtual 232, 3) := by decide +kernel
theorem dX8_stayed_70 : decode cX8_stayed 70 = .ok (.iload 7, 2) := by decide +kernel
theorem dX8_stayed_72 : decode cX8_stayed 72 = .ok (.bipush 7, 2) := by decide +kernel
theorem dX8_stayed_74 : decode cX8_stayed 74 = .ok (.if_icmp .eq 13, 3) := by decide +kernel
theorem dX8_stayed_77 : decode cX8_stayed 77 = .ok (.aload_n 0, 1) := by decide +kernel
theorem dX8_stayed_78 : decode cX8_stayed 78 = .ok (.iconst 0, 1) := by decide +kernel
theorem dX8_stayed_79 : decode cX8_stayed 79 = .ok (.iload 7, 2) := by decide +kernel
theorem dX8_stayed_81 : decode cX8_stayed 81 = .ok (.invokevirtual 178, 3) := by decide +kernel
theorem dX8_stayed_84 : decode cX8_stayed 84 = .ok (.ifCond .eq 19, 3) := by decide +kernel
theorem dX8_stayed_87 : decode cX8_stayed 87 = .ok (.aload_n 0, 1) := by decide +kernel
theorem dX8_stayed_88 : decode cX8_stayed 88 = .ok (.iload_n 1, 1) := by decide +kernel
theorem dX8_stayed_89 : decode cX8_stayed 89 = .ok (.iload_n 2, 1) := by decide +kernel
theorem dX8_stayed_90 : decode cX8_stayed 90 = .ok (.iload_n 3, 1) := by decide +kernel
theorem dX8_stayed_91 : decode cX8_stayed 91 = .ok (.iload 4, 2) := by decide +kernel
theorem dX8_stayed_93 : decode cX8_stayed 93 = .ok (.invokevirtual 228, 3) := by decide +kernel
theorem dX8_stayed_96 : decode cX8_stayed 96 = .ok (.ifCond .eq 7, 3) := by decide +kernel
theorem dX8_stayed_99 : decode cX8_stayed 99 = .ok (.iconst 1, 1) := by decide +kernel
theorem dX8_stayed_100 : decode cX8_stayed 100 = .ok (.goto 4, 3) := by decide +kernel
theorem dX8_stayed_103 : decode cX8_stayed 103 = .ok (.iconst 0, 1) := by decide +kernel
theorem dX8_stayed_104 : decode cX8_stayed 104 = .ok (.istore 8, 2) := by decide +kernel
theorem dX8_stayed_106 : decode cX8_stayed 106 = .ok (.iload 6, 2) := by decide +kernel
theorem dX8_stayed_108 : decode cX8_stayed 108 = .ok (.iload 8, 2) := by decide +kernel
theorem dX8_stayed_110 : decode cX8_stayed 110 = .ok (.ifCond .eq 10, 3) := by decide +kernel
theorem dX8_stayed_113 : decode cX8_stayed 113 = .ok (.iconst 1, 1) := by decide +kernel
theorem dX8_stayed_114 : decode cX8_stayed 114 = .ok (.iload 7, 2) := by decide +kernel
theorem dX8_stayed_116 : decode cX8_stayed 116 = .ok (.ishl, 1) := by decide +kernel
theorem dX8_stayed_117 : decode cX8_stayed 117 = .ok (.goto 4, 3) := by decide +kernel
theorem dX8_stayed_120 : decode cX8_stayed 120 = .ok (.iconst 0, 1) := by decide +kernel
theorem dX8_stayed_121 : decode cX8_stayed 121 = .ok (.ior, 1) := by decide +kernel
theorem dX8_stayed_122 : decode cX8_stayed 122 = .ok (.istore 6, 2) := by decide +kernel
theorem dX8_stayed_124 : decode cX8_stayed 124 = .ok (.iinc 7 1, 3) := by decide +kernel
theorem dX8_stayed_127 : decode cX8_stayed 127 = .ok (.goto (-72), 3) := by decide +kernel
theorem dX8_stayed_130 : decode cX8_stayed 130 = .ok (.aload_n 0, 1) := by decide +kernel
theorem dX8_stayed_131 : decode cX8_stayed 131 = .ok (.iload 6, 2) := by decide +kernel
theorem dX8_stayed_133 : decode cX8_stayed 133 = .ok (.invokevirtual 60, 3) := by decide +kernel
theorem dX8_stayed_136 : decode cX8_stayed 136 = .ok (.ireturn, 1) := by decide +kernel
theorem dX8_away_0 : decode cX8_away 0 = .ok (.aload_n 0, 1) := by decide +kernel
theorem dX8_away_1 : decode cX8_away 1 = .ok (.getfield 137, 3) := by decide +kernel
theorem dX8_away_4 : decode cX8_away 4 = .ok (.ifCond .ne 7, 3) := by decide +kernel
theorem dX8_away_7 : decode cX8_away 7 = .ok (.ldc2_w 235, 3) := by decide +kernel
theorem dX8_away_10 : decode cX8_away 10 = .ok (.lreturn, 1) := by decide +kernel
theorem dX8_away_11 : decode cX8_away 11 = .ok (.iload_n 1, 1) := by decide +kernel
theorem dX8_away_12 : decode cX8_away 12 = .ok (.i2l, 1) := by decide +kernel
theorem dX8_away_13 : decode cX8_away 13 = .ok (.lconst 0, 1) := by decide +kernel
theorem dX8_away_14 : decode cX8_away 14 = .ok (.ldc2_w 237, 3) := by decide +kernel
theorem dX8_away_17 : decode cX8_away 17 = .ok (.invokestatic 45, 3) := by decide +kernel
theorem dX8_away_20 : decode cX8_away 20 = .ok (.ifCond .eq 13, 3) := by decide +kernel
theorem dX8_away_23 : decode cX8_away 23 = .ok (.iload_n 2, 1) := by decide +kernel
theorem dX8_away_24 : decode cX8_away 24 = .ok (.i2l, 1) := by decide +kernel
theorem dX8_away_25 : decode cX8_away 25 = .ok (.lconst 0, 1) := by decide +kernel
theorem dX8_away_26 : decode cX8_away 26 = .ok (.lconst 1, 1) := by decide +kernel
theorem dX8_away_27 : decode cX8_away 27 = .ok (.invokestatic 45, 3) := by decide +kernel
theorem dX8_away_30 : decode cX8_away 30 = .ok (.ifCond .ne 7, 3) := by decide +kernel
theorem dX8_away_33 : decode cX8_away 33 = .ok (.ldc2_w 239, 3) := by decide +kernel
theorem dX8_away_36 : decode cX8_away 36 = .ok (.lreturn, 1) := by decide +kernel
theorem dX8_away_37 : decode cX8_away 37 = .ok (.lconst 0, 1) := by decide +kernel
theorem dX8_away_38 : decode cX8_away 38 = .ok (.lstore_n 3, 1) := by decide +kernel
theorem dX8_away_39 : decode cX8_away 39 = .ok (.lconst 0, 1) := by decide +kernel
theorem dX8_away_40 : decode cX8_away 40 = .ok (.lstore 5, 2) := by decide +kernel
theorem dX8_away_42 : decode cX8_away 42 = .ok (.aload_n 0, 1) := by decide +kernel
theorem dX8_away_43 : decode cX8_away 43 = .ok (.getfield 7, 3) := by decide +kernel
theorem dX8_away_46 : decode cX8_away 46 = .ok (.bipush 7, 2) := by decide +kernel
theorem dX8_away_48 : decode cX8_away 48 = .ok (.iaload, 1) := by decide +kernel
theorem dX8_away_49 : decode cX8_away 49 = .ok (.istore 7, 2) := by decide +kernel
theorem dX8_away_51 : decode cX8_away 51 = .ok (.iconst 0, 1) := by decide +kernel
theorem dX8_away_52 : decode cX8_away 52 = .ok (.istore 8, 2) := by decide +kernel
theorem dX8_away_54 : decode cX8_away 54 = .ok (.iload 8, 2) := by decide +kernel
theorem dX8_away_56 : decode cX8_away 56 = .ok (.iconst 1, 1) := by decide +kernel
theorem dX8_away_57 : decode cX8_away 57 = .ok (.iload 7, 2) := by decide +kernel
theorem dX8_away_59 : decode cX8_away 59 = .ok (.ishl, 1) := by decide +kernel
theorem dX8_away_60 : decode cX8_away 60 = .ok (.if_icmp .ge 141, 3) := by decide +kernel
theorem dX8_away_63 : decode cX8_away 63 = .ok (.lconst 1, 1) := by decide +kernel
theorem dX8_away_64 : decode cX8_away 64 = .ok (.lstore 9, 2) := by decide +kernel
theorem dX8_away_66 : decode cX8_away 66 = .ok (.iconst 0, 1) := by decide +kernel
theorem dX8_away_67 : decode cX8_away 67 = .ok (.istore 11, 2) := by decide +kernel
theorem dX8_away_69 : decode cX8_away 69 = .ok (.iconst 0, 1) := by decide +kernel
theorem dX8_away_70 : decode cX8_away 70 = .ok (.istore 12, 2) := by decide +kernel
theorem dX8_away_72 : decode cX8_away 72 = .ok (.iload 12, 2) := by decide +kernel
theorem dX8_away_74 : decode cX8_away 74 = .ok (.iload 7, 2) := by decide +kernel
theorem dX8_away_76 : decode cX8_away 76 = .ok (.if_icmp .ge 65, 3) := by decide +kernel
theorem dX8_away_79 : decode cX8_away 79 = .ok (.lload 9, 2) := by decide +kernel
theorem dX8_away_81 : decode cX8_away 81 = .ok (.iload 8, 2) := by decide +kernel
theorem dX8_away_83 : decode cX8_away 83 = .ok (.iload 12, 2) := by decide +kernel
theorem dX8_away_85 : decode cX8_away 85 = .ok (.invokestatic 150, 3) := by decide +kernel
theorem dX8_away_88 : decode cX8_away 88 = .ok (.ifCond .eq 8, 3) := by decide +kernel
theorem dX8_away_91 : decode cX8_away 91 = .ok (.iload_n 1, 1) := by decide +kernel
theorem dX8_away_92 : decode cX8_away 92 = .ok (.i2l, 1) := by decide +kernel
theorem dX8_away_93 : decode cX8_away 93 = .ok (.goto 8, 3) := by decide +kernel
theorem dX8_away_96 : decode cX8_away 96 = .ok (.bipush 10, 2) := by decide +kernel
theorem dX8_away_98 : decode cX8_away 98 = .ok (.iload_n 1, 1) := by decide +kernel
theorem dX8_away_99 : decode cX8_away 99 = .ok (.isub, 1) := by decide +kernel
theorem dX8_away_100 : decode cX8_away 100 = .ok (.i2l, 1) := by decide +kernel
theorem dX8_away_101 : decode cX8_away 101 = .ok (.lmul, 1) := by decide +kernel
theorem dX8_away_102 : decode cX8_away 102 = .ok (.lstore 9, 2) := by decide +kernel
theorem dX8_away_104 : decode cX8_away 104 = .ok (.iload 11, 2) := by decide +kernel
theorem dX8_away_106 : decode cX8_away 106 = .ok (.iload 8, 2) := by decide +kernel
theorem dX8_away_108 : decode cX8_away 108 = .ok (.iload 12, 2) := by decide +kernel
theorem dX8_away_110 : decode cX8_away 110 = .ok (.invokestatic 150, 3) := by decide +kernel
theorem dX8_away_113 : decode cX8_away 113 = .ok (.ifCond .eq 18, 3) := by decide +kernel
theorem dX8_away_116 : decode cX8_away 116 = .ok (.iconst 1, 1) := by decide +kernel
theorem dX8_away_117 : decode cX8_away 117 = .ok (.aload_n 0, 1) := by decide +kernel
theorem dX8_away_118 : decode cX8_away 118 = .ok (.getfield 7, 3) := by decide +kernel
theorem dX8_away_121 : decode cX8_away 121 = .ok (.bipush 8, 2) := by decide +kernel
theorem dX8_away_123 : decode cX8_away 123 = .ok (.iload 12, 2) := by decide +kernel
theorem dX8_away_125 : decode cX8_away 125 = .ok (.iadd, 1) := by decide +kernel
theorem dX8_away_126 : decode cX8_away 126 = .ok (.iaload, 1) := by decide +kernel
theorem dX8_away_127 : decode cX8_away 127 = .ok (.ishl, 1) := by decide +kernel
theorem dX8_away_128 : decode cX8_away 128 = .ok (.goto 4, 3) := by decide +kernel
theorem dX8_away_131 : decode cX8_away 131 = .ok (.iconst 0, 1) := by decide +kernel
theorem dX8_away_132 : decode cX8_away 132 = .ok (.ior, 1) := by decide +kernel
theorem dX8_away_133 : decode cX8_away 133 = .ok (.istore 11, 2) := by decide +kernel
theorem dX8_away_135 : decode cX8_away 135 = .ok (.iinc 12 1, 3) := by decide +kernel
theorem dX8_away_138 : decode cX8_away 138 = .ok (.goto (-66), 3) := by decide +kernel
theorem dX8_away_141 : decode cX8_away 141 = .ok (.aload_n 0, 1) := by decide +kernel
theorem dX8_away_142 : decode cX8_away 142 = .ok (.iload 11, 2) := by decide +kernel
theorem dX8_away_144 : decode cX8_away 144 = .ok (.invokevirtual 232, 3) := by decide +kernel
theorem dX8_away_147 : decode cX8_away 147 = .ok (.aload_n 0, 1) := by decide +kernel
theorem dX8_away_148 : decode cX8_away 148 = .ok (.sipush 1323, 3) := by decide +kernel
theorem dX8_away_151 : decode cX8_away 151 = .ok (.iload 7, 2) := by decide +kernel
theorem dX8_away_153 : decode cX8_away 153 = .ok (.iload 8, 2) := by decide +kernel
theorem dX8_away_155 : decode cX8_away 155 = .ok (.invokestatic 220, 3) := by decide +kernel
theorem dX8_away_158 : decode cX8_away 158 = .ok (.isub, 1) := by decide +kernel
theorem dX8_away_159 : decode cX8_away 159 = .ok (.invokevirtual 194, 3) := by decide +kernel
theorem dX8_away_162 : decode cX8_away 162 = .ok (.lload_n 3, 1) := by decide +kernel
theorem dX8_away_163 : decode cX8_away 163 = .ok (.aload_n 0, 1) := by decide +kernel
theorem dX8_away_164 : decode cX8_away 164 = .ok (.getfield 7, 3) := by decide +kernel
theorem dX8_away_167 : decode cX8_away 167 = .ok (.sipush 1328, 3) := by decide +kernel
theorem dX8_away_170 : decode cX8_away 170 = .ok (.iaload, 1) := by decide +kernel
theorem dX8_away_171 : decode cX8_away 171 = .ok (.aload_n 0, 1) := by decide +kernel
theorem dX8_away_172 : decode cX8_away 172 = .ok (.getfield 7, 3) := by decide +kernel
theorem dX8_away_175 : decode cX8_away 175 = .ok (.iconst 5, 1) := by decide +kernel
theorem dX8_away_176 : decode cX8_away 176 = .ok (.iaload, 1) := by decide +kernel
theorem dX8_away_177 : decode cX8_away 177 = .ok (.if_icmp .ne 8, 3) := by decide +kernel
theorem dX8_away_180 : decode cX8_away 180 = .ok (.lload 9, 2) := by decide +kernel
theorem dX8_away_182 : decode cX8_away 182 = .ok (.goto 4, 3) := by decide +kernel
theorem dX8_away_185 : decode cX8_away 185 = .ok (.lconst 0, 1) := by decide +kernel
theorem dX8_away_186 : decode cX8_away 186 = .ok (.ladd, 1) := by decide +kernel
theorem dX8_away_187 : decode cX8_away 187 = .ok (.lstore_n 3, 1) := by decide +kernel
theorem dX8_away_188 : decode cX8_away 188 = .ok (.lload 5, 2) := by decide +kernel
theorem dX8_away_190 : decode cX8_away 190 = .ok (.lload 9, 2) := by decide +kernel
theorem dX8_away_192 : decode cX8_away 192 = .ok (.ladd, 1) := by decide +kernel
theorem dX8_away_193 : decode cX8_away 193 = .ok (.lstore 5, 2) := by decide +kernel
theorem dX8_away_195 : decode cX8_away 195 = .ok (.iinc 8 1, 3) := by decide +kernel
theorem dX8_away_198 : decode cX8_away 198 = .ok (.goto (-144), 3) := by decide +kernel
theorem dX8_away_201 : decode cX8_away 201 = .ok (.lload_n 3, 1) := by decide +kernel
theorem dX8_away_202 : decode cX8_away 202 = .ok (.lstore 8, 2) := by decide +kernel
theorem dX8_away_204 : decode cX8_away 204 = .ok (.lload 5, 2) := by decide +kernel
theorem dX8_away_206 : decode cX8_away 206 = .ok (.lstore 10, 2) := by decide +kernel
theorem dX8_away_208 : decode cX8_away 208 = .ok (.lload 10, 2) := by decide +kernel
theorem dX8_away_210 : decode cX8_away 210 = .ok (.lconst 0, 1) := by decide +kernel
theorem dX8_away_211 : decode cX8_away 211 = .ok (.lcmp, 1) := by decide +kernel
theorem dX8_away_212 : decode cX8_away 212 = .ok (.ifCond .eq 21, 3) := by decide +kernel
theorem dX8_away_215 : decode cX8_away 215 = .ok (.lload 8, 2) := by decide +kernel
theorem dX8_away_217 : decode cX8_away 217 = .ok (.lload 10, 2) := by decide +kernel
theorem dX8_away_219 : decode cX8_away 219 = .ok (.lrem, 1) := by decide +kernel
theorem dX8_away_220 : decode cX8_away 220 = .ok (.lstore 12, 2) := by decide +kernel
theorem dX8_away_222 : decode cX8_away 222 = .ok (.lload 10, 2) := by decide +kernel
theorem dX8_away_224 : decode cX8_away 224 = .ok (.lstore 8, 2) := by decide +kernel
theorem dX8_away_226 : decode cX8_away 226 = .ok (.lload 12, 2) := by decide +kernel
theorem dX8_away_228 : decode cX8_away 228 = .ok (.lstore 10, 2) := by decide +kernel
theorem dX8_away_230 : decode cX8_away 230 = .ok (.goto (-22), 3) := by decide +kernel
theorem dX8_away_233 : decode cX8_away 233 = .ok (.iload_n 2, 1) := by decide +kernel
theorem dX8_away_234 : decode cX8_away 234 = .ok (.ifCond .ne 10, 3) := by decide +kernel
theorem dX8_away_237 : decode cX8_away 237 = .ok (.lload_n 3, 1) := by decide +kernel
theorem dX8_away_238 : decode cX8_away 238 = .ok (.lload 8, 2) := by decide +kernel
theorem dX8_away_240 : decode cX8_away 240 = .ok (.ldiv, 1) := by decide +kernel
theorem dX8_away_241 : decode cX8_away 241 = .ok (.goto 8, 3) := by decide +kernel
theorem dX8_away_244 : decode cX8_away 244 = .ok (.lload 5, 2) := by decide +kernel
theorem dX8_away_246 : decode cX8_away 246 = .ok (.lload 8, 2) := by decide +kernel
theorem dX8_away_248 : decode cX8_away 248 = .ok (.ldiv, 1) := by decide +kernel
theorem dX8_away_249 : decode cX8_away 249 = .ok (.lreturn, 1) := by decide +kernel
theorem dX8_drawn_0 : decode cX8_drawn 0 = .ok (.aload_n 0, 1) := by decide +kernel
theorem dX8_drawn_1 : decode cX8_drawn 1 = .ok (.getfield 137, 3) := by decide +kernel
theorem dX8_drawn_4 : decode cX8_drawn 4 = .ok (.ifCond .ne 6, 3) := by decide +kernel
theorem dX8_drawn_7 : decode cX8_drawn 7 = .ok (.ldc 144, 2) := by decide +kernel
theorem dX8_drawn_9 : decode cX8_drawn 9 = .ok (.ireturn, 1) := by decide +kernel
theorem dX8_drawn_10 : decode cX8_drawn 10 = .ok (.iload_n 1, 1) := by decide +kernel
theorem dX8_drawn_11 : decode cX8_drawn 11 = .ok (.i2l, 1) := by decide +kernel
theorem dX8_drawn_12 : decode cX8_drawn 12 = .ok (.lconst 0, 1) := by decide +kernel
theorem dX8_drawn_13 : decode cX8_drawn 13 = .ok (.ldc2_w 197, 3) := by decide +kernel
theorem dX8_drawn_16 : decode cX8_drawn 16 = .ok (.invokestatic 45, 3) := by decide +kernel
theorem dX8_drawn_19 : decode cX8_drawn 19 = .ok (.ifCond .eq 25, 3) := by decide +kernel
theorem dX8_drawn_22 : decode cX8_drawn 22 = .ok (.iload_n 2, 1) := by decide +kernel
theorem dX8_drawn_23 : decode cX8_drawn 23 = .ok (.i2l, 1) := by decide +kernel
theorem dX8_drawn_24 : decode cX8_drawn 24 = .ok (.lconst 1, 1) := by decide +kernel
theorem dX8_drawn_25 : decode cX8_drawn 25 = .ok (.ldc2_w 241, 3) := by decide +kernel
theorem dX8_drawn_28 : decode cX8_drawn 28 = .ok (.invokestatic 45, 3) := by decide +kernel
theorem dX8_drawn_31 : decode cX8_drawn 31 = .ok (.ifCond .eq 13, 3) := by decide +kernel
theorem dX8_drawn_34 : decode cX8_drawn 34 = .ok (.iload_n 3, 1) := by decide +kernel
theorem dX8_drawn_35 : decode cX8_drawn 35 = .ok (.i2l, 1) := by decide +kernel
theorem dX8_drawn_36 : decode cX8_drawn 36 = .ok (.lconst 0, 1) := by decide +kernel
theorem dX8_drawn_37 : decode cX8_drawn 37 = .ok (.lconst 1, 1) := by decide +kernel
theorem dX8_drawn_38 : decode cX8_drawn 38 = .ok (.invokestatic 45, 3) := by decide +kernel
theorem dX8_drawn_41 : decode cX8_drawn 41 = .ok (.ifCond .ne 6, 3) := by decide +kernel
theorem dX8_drawn_44 : decode cX8_drawn 44 = .ok (.ldc 55, 2) := by decide +kernel
theorem dX8_drawn_46 : decode cX8_drawn 46 = .ok (.ireturn, 1) := by decide +kernel
theorem dX8_drawn_47 : decode cX8_drawn 47 = .ok (.aload_n 0, 1) := by decide +kernel
theorem dX8_drawn_48 : decode cX8_drawn 48 = .ok (.iconst 0, 1) := by decide +kernel
theorem dX8_drawn_49 : decode cX8_drawn 49 = .ok (.invokevirtual 199, 3) := by decide +kernel
theorem dX8_drawn_52 : decode cX8_drawn 52 = .ok (.iload_n 2, 1) := by decide +kernel
theorem dX8_drawn_53 : decode cX8_drawn 53 = .ok (.i2l, 1) := by decide +kernel
theorem dX8_drawn_54 : decode cX8_drawn 54 = .ok (.lstore 4, 2) := by decide +kernel
theorem dX8_drawn_56 : decode cX8_drawn 56 = .ok (.iconst 0, 1) := by decide +kernel
theorem dX8_drawn_57 : decode cX8_drawn 57 = .ok (.istore 6, 2) := by decide +kernel
theorem dX8_drawn_59 : decode cX8_drawn 59 = .ok (.iload 6, 2) := by decide +kernel
theorem dX8_drawn_61 : decode cX8_drawn 61 = .ok (.iload_n 1, 1) := by decide +kernel
theorem dX8_drawn_62 : decode cX8_drawn 62 = .ok (.if_icmp .ge 75, 3) := by decide +kernel
theorem dX8_drawn_65 : decode cX8_drawn 65 = .ok (.lload 4, 2) := by decide +kernel
theorem dX8_drawn_67 : decode cX8_drawn 67 = .ok (.ldc2_w 243, 3) := by decide +kernel
theorem dX8_drawn_70 : decode cX8_drawn 70 = .ok (.lmul, 1) := by decide +kernel
theorem dX8_drawn_71 : decode cX8_drawn 71 = .ok (.ldc2_w 245, 3) := by decide +kernel
theorem dX8_drawn_74 : decode cX8_drawn 74 = .ok (.lrem, 1) := by decide +kernel
theorem dX8_drawn_75 : decode cX8_drawn 75 = .ok (.lstore 4, 2) := by decide +kernel
theorem dX8_drawn_77 : decode cX8_drawn 77 = .ok (.aload_n 0, 1) := by decide +kernel
theorem dX8_drawn_78 : decode cX8_drawn 78 = .ok (.getfield 7, 3) := by decide +kernel
theorem dX8_drawn_81 : decode cX8_drawn 81 = .ok (.sipush 1330, 3) := by decide +kernel
theorem dX8_drawn_84 : decode cX8_drawn 84 = .ok (.iaload, 1) := by decide +kernel
theorem dX8_drawn_85 : decode cX8_drawn 85 = .ok (.bipush 7, 2) := by decide +kernel
theorem dX8_drawn_87 : decode cX8_drawn 87 = .ok (.if_icmp .ge 36, 3) := by decide +kernel
theorem dX8_drawn_90 : decode cX8_drawn 90 = .ok (.aload_n 0, 1) := by decide +kernel
theorem dX8_drawn_91 : decode cX8_drawn 91 = .ok (.sipush 1323, 3) := by decide +kernel
theorem dX8_drawn_94 : decode cX8_drawn 94 = .ok (.lload 4, 2) := by decide +kernel
theorem dX8_drawn_96 : decode cX8_drawn 96 = .ok (.ldc2_w 247, 3) := by decide +kernel
theorem dX8_drawn_99 : decode cX8_drawn 99 = .ok (.lrem, 1) := by decide +kernel
theorem dX8_drawn_100 : decode cX8_drawn 100 = .ok (.lconst 0, 1) := by decide +kernel
theorem dX8_drawn_101 : decode cX8_drawn 101 = .ok (.lcmp, 1) := by decide +kernel
theorem dX8_drawn_102 : decode cX8_drawn 102 = .ok (.ifCond .ne 7, 3) := by decide +kernel
theorem dX8_drawn_105 : decode cX8_drawn 105 = .ok (.iconst 0, 1) := by decide +kernel
theorem dX8_drawn_106 : decode cX8_drawn 106 = .ok (.goto 4, 3) := by decide +kernel
theorem dX8_drawn_109 : decode cX8_drawn 109 = .ok (.iconst 1, 1) := by decide +kernel
theorem dX8_drawn_110 : decode cX8_drawn 110 = .ok (.lload 4, 2) := by decide +kernel
theorem dX8_drawn_112 : decode cX8_drawn 112 = .ok (.ldc2_w 181, 3) := by decide +kernel
theorem dX8_drawn_115 : decode cX8_drawn 115 = .ok (.lrem, 1) := by decide +kernel
theorem dX8_drawn_116 : decode cX8_drawn 116 = .ok (.l2i, 1) := by decide +kernel
theorem dX8_drawn_117 : decode cX8_drawn 117 = .ok (.iconst 1, 1) := by decide +kernel
theorem dX8_drawn_118 : decode cX8_drawn 118 = .ok (.iadd, 1) := by decide +kernel
theorem dX8_drawn_119 : decode cX8_drawn 119 = .ok (.invokevirtual 183, 3) := by decide +kernel
theorem dX8_drawn_122 : decode cX8_drawn 122 = .ok (.pop, 1) := by decide +kernel
theorem dX8_drawn_123 : decode cX8_drawn 123 = .ok (.aload_n 0, 1) := by decide +kernel
theorem dX8_drawn_124 : decode cX8_drawn 124 = .ok (.sipush 1323, 3) := by decide +kernel
theorem dX8_drawn_127 : decode cX8_drawn 127 = .ok (.invokevirtual 167, 3) := by decide +kernel
theorem dX8_drawn_130 : decode cX8_drawn 130 = .ok (.pop, 1) := by decide +kernel
theorem dX8_drawn_131 : decode cX8_drawn 131 = .ok (.iinc 6 1, 3) := by decide +kernel
theorem dX8_drawn_134 : decode cX8_drawn 134 = .ok (.goto (-75), 3) := by decide +kernel
theorem dX8_drawn_137 : decode cX8_drawn 137 = .ok (.iload_n 3, 1) := by decide +kernel
theorem dX8_drawn_138 : decode cX8_drawn 138 = .ok (.ifCond .ne 21, 3) := by decide +kernel
theorem dX8_drawn_141 : decode cX8_drawn 141 = .ok (.aload_n 0, 1) := by decide +kernel
theorem dX8_drawn_142 : decode cX8_drawn 142 = .ok (.getfield 7, 3) := by decide +kernel
theorem dX8_drawn_145 : decode cX8_drawn 145 = .ok (.sipush 1328, 3) := by decide +kernel
theorem dX8_drawn_148 : decode cX8_drawn 148 = .ok (.iaload, 1) := by decide +kernel
theorem dX8_drawn_149 : decode cX8_drawn 149 = .ok (.aload_n 0, 1) := by decide +kernel
theorem dX8_drawn_150 : decode cX8_drawn 150 = .ok (.getfield 7, 3) := by decide +kernel
theorem dX8_drawn_153 : decode cX8_drawn 153 = .ok (.iconst 5, 1) := by decide +kernel
theorem dX8_drawn_154 : decode cX8_drawn 154 = .ok (.iaload, 1) := by decide +kernel
theorem dX8_drawn_155 : decode cX8_drawn 155 = .ok (.isub, 1) := by decide +kernel
theorem dX8_drawn_156 : decode cX8_drawn 156 = .ok (.goto 10, 3) := by decide +kernel
theorem dX8_drawn_159 : decode cX8_drawn 159 = .ok (.aload_n 0, 1) := by decide +kernel
theorem dX8_drawn_160 : decode cX8_drawn 160 = .ok (.sipush 1323, 3) := by decide +kernel
theorem dX8_drawn_163 : decode cX8_drawn 163 = .ok (.invokevirtual 208, 3) := by decide +kernel
theorem dX8_drawn_166 : decode cX8_drawn 166 = .ok (.ireturn, 1) := by decide +kernel
theorem dX8_image_0 : decode cX8_image 0 = .ok (.iload_n 1, 1) := by decide +kernel
theorem dX8_image_1 : decode cX8_image 1 = .ok (.i2l, 1) := by decide +kernel
theorem dX8_image_2 : decode cX8_image 2 = .ok (.lconst 0, 1) := by decide +kernel
theorem dX8_image_3 : decode cX8_image 3 = .ok (.lconst 1, 1) := by decide +kernel
theorem dX8_image_4 : decode cX8_image 4 = .ok (.invokestatic 45, 3) := by decide +kernel
theorem dX8_image_7 : decode cX8_image 7 = .ok (.ifCond .ne 6, 3) := by decide +kernel
theorem dX8_image_10 : decode cX8_image 10 = .ok (.ldc 55, 2) := by decide +kernel
theorem dX8_image_12 : decode cX8_image 12 = .ok (.ireturn, 1) := by decide +kernel
theorem dX8_image_13 : decode cX8_image 13 = .ok (.aload_n 0, 1) := by decide +kernel
theorem dX8_image_14 : decode cX8_image 14 = .ok (.getfield 137, 3) := by decide +kernel
theorem dX8_image_17 : decode cX8_image 17 = .ok (.ifCond .ne 6, 3) := by decide +kernel
theorem dX8_image_20 : decode cX8_image 20 = .ok (.ldc 144, 2) := by decide +kernel
theorem dX8_image_22 : decode cX8_image 22 = .ok (.ireturn, 1) := by decide +kernel
theorem dX8_image_23 : decode cX8_image 23 = .ok (.aload_n 0, 1) := by decide +kernel
theorem dX8_image_24 : decode cX8_image 24 = .ok (.iconst 0, 1) := by decide +kernel
theorem dX8_image_25 : decode cX8_image 25 = .ok (.sipush 1225, 3) := by decide +kernel
theorem dX8_image_28 : decode cX8_image 28 = .ok (.bipush 49, 2) := by decide +kernel
theorem dX8_image_30 : decode cX8_image 30 = .ok (.iload_n 1, 1) := by decide +kernel
theorem dX8_image_31 : decode cX8_image 31 = .ok (.imul, 1) := by decide +kernel
theorem dX8_image_32 : decode cX8_image 32 = .ok (.iadd, 1) := by decide +kernel
theorem dX8_image_33 : decode cX8_image 33 = .ok (.invokevirtual 133, 3) := by decide +kernel
theorem dX8_image_36 : decode cX8_image 36 = .ok (.aload_n 0, 1) := by decide +kernel
theorem dX8_image_37 : decode cX8_image 37 = .ok (.getfield 13, 3) := by decide +kernel
theorem dX8_image_40 : decode cX8_image 40 = .ok (.iload_n 1, 1) := by decide +kernel
theorem dX8_image_41 : decode cX8_image 41 = .ok (.iconst 1, 1) := by decide +kernel
theorem dX8_image_42 : decode cX8_image 42 = .ok (.bastore, 1) := by decide +kernel
theorem dX8_image_43 : decode cX8_image 43 = .ok (.iconst 1, 1) := by decide +kernel
theorem dX8_image_44 : decode cX8_image 44 = .ok (.ireturn, 1) := by decide +kernel
theorem dX8_restore_0 : decode cX8_restore 0 = .ok (.iload_n 1, 1) := by decide +kernel
theorem dX8_restore_1 : decode cX8_restore 1 = .ok (.i2l, 1) := by decide +kernel
theorem dX8_restore_2 : decode cX8_restore 2 = .ok (.lconst 0, 1) := by decide +kernel
theorem dX8_restore_3 : decode cX8_restore 3 = .ok (.lconst 1, 1) := by decide +kernel
theorem dX8_restore_4 : decode cX8_restore 4 = .ok (.invokestatic 45, 3) := by decide +kernel
theorem dX8_restore_7 : decode cX8_restore 7 = .ok (.ifCond .ne 6, 3) := by decide +kernel
theorem dX8_restore_10 : decode cX8_restore 10 = .ok (.ldc 55, 2) := by decide +kernel
theorem dX8_restore_12 : decode cX8_restore 12 = .ok (.ireturn, 1) := by decide +kernel
theorem dX8_restore_13 : decode cX8_restore 13 = .ok (.aload_n 0, 1) := by decide +kernel
theorem dX8_restore_14 : decode cX8_restore 14 = .ok (.getfield 13, 3) := by decide +kernel
theorem dX8_restore_17 : decode cX8_restore 17 = .ok (.iload_n 1, 1) := by decide +kernel
theorem dX8_restore_18 : decode cX8_restore 18 = .ok (.baload, 1) := by decide +kernel
theorem dX8_restore_19 : decode cX8_restore 19 = .ok (.ifCond .ne 6, 3) := by decide +kernel
theorem dX8_restore_22 : decode cX8_restore 22 = .ok (.ldc 144, 2) := by decide +kernel
theorem dX8_restore_24 : decode cX8_restore 24 = .ok (.ireturn, 1) := by decide +kernel
theorem dX8_restore_25 : decode cX8_restore 25 = .ok (.aload_n 0, 1) := by decide +kernel
theorem dX8_restore_26 : decode cX8_restore 26 = .ok (.sipush 1225, 3) := by decide +kernel
theorem dX8_restore_29 : decode cX8_restore 29 = .ok (.bipush 49, 2) := by decide +kernel
theorem dX8_restore_31 : decode cX8_restore 31 = .ok (.iload_n 1, 1) := by decide +kernel
theorem dX8_restore_32 : decode cX8_restore 32 = .ok (.imul, 1) := by decide +kernel
theorem dX8_restore_33 : decode cX8_restore 33 = .ok (.iadd, 1) := by decide +kernel
theorem dX8_restore_34 : decode cX8_restore 34 = .ok (.iconst 0, 1) := by decide +kernel
theorem dX8_restore_35 : decode cX8_restore 35 = .ok (.invokevirtual 133, 3) := by decide +kernel
theorem dX8_restore_38 : decode cX8_restore 38 = .ok (.aload_n 0, 1) := by decide +kernel
theorem dX8_restore_39 : decode cX8_restore 39 = .ok (.iconst 0, 1) := by decide +kernel
theorem dX8_restore_40 : decode cX8_restore 40 = .ok (.putfield 141, 3) := by decide +kernel
theorem dX8_restore_43 : decode cX8_restore 43 = .ok (.iconst 1, 1) := by decide +kernel
theorem dX8_restore_44 : decode cX8_restore 44 = .ok (.ireturn, 1) := by decide +kernel
theorem dX8_kind_0 : decode cX8_kind 0 = .ok (.aload_n 0, 1) := by decide +kernel
theorem dX8_kind_1 : decode cX8_kind 1 = .ok (.iload_n 1, 1) := by decide +kernel
theorem dX8_kind_2 : decode cX8_kind 2 = .ok (.invokevirtual 175, 3) := by decide +kernel
theorem dX8_kind_5 : decode cX8_kind 5 = .ok (.ifCond .eq 15, 3) := by decide +kernel
theorem dX8_kind_8 : decode cX8_kind 8 = .ok (.aload_n 0, 1) := by decide +kernel
theorem dX8_kind_9 : decode cX8_kind 9 = .ok (.getfield 7, 3) := by decide +kernel
theorem dX8_kind_12 : decode cX8_kind 12 = .ok (.bipush 29, 2) := by decide +kernel
theorem dX8_kind_14 : decode cX8_kind 14 = .ok (.iload_n 1, 1) := by decide +kernel
theorem dX8_kind_15 : decode cX8_kind 15 = .ok (.iadd, 1) := by decide +kernel
theorem dX8_kind_16 : decode cX8_kind 16 = .ok (.iaload, 1) := by decide +kernel
theorem dX8_kind_17 : decode cX8_kind 17 = .ok (.goto 5, 3) := by decide +kernel
theorem dX8_kind_20 : decode cX8_kind 20 = .ok (.ldc 55, 2) := by decide +kernel
theorem dX8_kind_22 : decode cX8_kind 22 = .ok (.ireturn, 1) := by decide +kernel
theorem dX8_isOf_0 : decode cX8_isOf 0 = .ok (.aload_n 0, 1) := by decide +kernel
theorem dX8_isOf_1 : decode cX8_isOf 1 = .ok (.getfield 7, 3) := by decide +kernel
theorem dX8_isOf_4 : decode cX8_isOf 4 = .ok (.bipush 29, 2) := by decide +kernel
theorem dX8_isOf_6 : decode cX8_isOf 6 = .ok (.iload_n 1, 1) := by decide +kernel
theorem dX8_isOf_7 : decode cX8_isOf 7 = .ok (.iadd, 1) := by decide +kernel
theorem dX8_isOf_8 : decode cX8_isOf 8 = .ok (.iaload, 1) := by decide +kernel
theorem dX8_isOf_9 : decode cX8_isOf 9 = .ok (.istore_n 3, 1) := by decide +kernel
theorem dX8_isOf_10 : decode cX8_isOf 10 = .ok (.iload_n 2, 1) := by decide +kernel
theorem dX8_isOf_11 : decode cX8_isOf 11 = .ok (.ifCond .eq 33, 3) := by decide +kernel
theorem dX8_isOf_14 : decode cX8_isOf 14 = .ok (.iload_n 2, 1) := by decide +kernel
theorem dX8_isOf_15 : decode cX8_isOf 15 = .ok (.iload_n 3, 1) := by decide +kernel
theorem dX8_isOf_16 : decode cX8_isOf 16 = .ok (.if_icmp .eq 28, 3) := by decide +kernel
theorem dX8_isOf_19 : decode cX8_isOf 19 = .ok (.iload_n 2, 1) := by decide +kernel
theorem dX8_isOf_20 : decode cX8_isOf 20 = .ok (.iconst 1, 1) := by decide +kernel
theorem dX8_isOf_21 : decode cX8_isOf 21 = .ok (.if_icmp .ne 13, 3) := by decide +kernel
theorem dX8_isOf_24 : decode cX8_isOf 24 = .ok (.iload_n 3, 1) := by decide +kernel
theorem dX8_isOf_25 : decode cX8_isOf 25 = .ok (.iconst 2, 1) := by decide +kernel
theorem dX8_isOf_26 : decode cX8_isOf 26 = .ok (.if_icmp .eq 18, 3) := by decide +kernel
theorem dX8_isOf_29 : decode cX8_isOf 29 = .ok (.iload_n 3, 1) := by decide +kernel
theorem dX8_isOf_30 : decode cX8_isOf 30 = .ok (.iconst 3, 1) := by decide +kernel
theorem dX8_isOf_31 : decode cX8_isOf 31 = .ok (.if_icmp .eq 13, 3) := by decide +kernel
theorem dX8_isOf_34 : decode cX8_isOf 34 = .ok (.iload_n 2, 1) := by decide +kernel
theorem dX8_isOf_35 : decode cX8_isOf 35 = .ok (.iconst 4, 1) := by decide +kernel
theorem dX8_isOf_36 : decode cX8_isOf 36 = .ok (.if_icmp .ne 12, 3) := by decide +kernel
theorem dX8_isOf_39 : decode cX8_isOf 39 = .ok (.iload_n 3, 1) := by decide +kernel
theorem dX8_isOf_40 : decode cX8_isOf 40 = .ok (.iconst 5, 1) := by decide +kernel
theorem dX8_isOf_41 : decode cX8_isOf 41 = .ok (.if_icmp .ne 7, 3) := by decide +kernel
theorem dX8_isOf_44 : decode cX8_isOf 44 = .ok (.iconst 1, 1) := by decide +kernel
theorem dX8_isOf_45 : decode cX8_isOf 45 = .ok (.goto 4, 3) := by decide +kernel
theorem dX8_isOf_48 : decode cX8_isOf 48 = .ok (.iconst 0, 1) := by decide +kernel
theorem dX8_isOf_49 : decode cX8_isOf 49 = .ok (.ireturn, 1) := by decide +kernel
theorem dX8_as_0 : decode cX8_as 0 = .ok (.aload_n 0, 1) := by decide +kernel
theorem dX8_as_1 : decode cX8_as 1 = .ok (.iload_n 1, 1) := by decide +kernel
theorem dX8_as_2 : decode cX8_as 2 = .ok (.invokevirtual 175, 3) := by decide +kernel
theorem dX8_as_5 : decode cX8_as 5 = .ok (.ifCond .eq 15, 3) := by decide +kernel
theorem dX8_as_8 : decode cX8_as 8 = .ok (.iload_n 2, 1) := by decide +kernel
theorem dX8_as_9 : decode cX8_as 9 = .ok (.i2l, 1) := by decide +kernel
theorem dX8_as_10 : decode cX8_as 10 = .ok (.lconst 0, 1) := by decide +kernel
theorem dX8_as_11 : decode cX8_as 11 = .ok (.ldc2_w 249, 3) := by decide +kernel
theorem dX8_as_14 : decode cX8_as 14 = .ok (.invokestatic 45, 3) := by decide +kernel
theorem dX8_as_17 : decode cX8_as 17 = .ok (.ifCond .ne 6, 3) := by decide +kernel
theorem dX8_as_20 : decode cX8_as 20 = .ok (.ldc 55, 2) := by decide +kernel
theorem dX8_as_22 : decode cX8_as 22 = .ok (.ireturn, 1) := by decide +kernel
theorem dX8_as_23 : decode cX8_as 23 = .ok (.aload_n 0, 1) := by decide +kernel
theorem dX8_as_24 : decode cX8_as 24 = .ok (.iload_n 1, 1) := by decide +kernel
theorem dX8_as_25 : decode cX8_as 25 = .ok (.iload_n 2, 1) := by decide +kernel
theorem dX8_as_26 : decode cX8_as 26 = .ok (.invokevirtual 251, 3) := by decide +kernel
theorem dX8_as_29 : decode cX8_as 29 = .ok (.ifCond .eq 11, 3) := by decide +kernel
theorem dX8_as_32 : decode cX8_as 32 = .ok (.aload_n 0, 1) := by decide +kernel
theorem dX8_as_33 : decode cX8_as 33 = .ok (.iload_n 1, 1) := by decide +kernel
theorem dX8_as_34 : decode cX8_as 34 = .ok (.invokevirtual 60, 3) := by decide +kernel
theorem dX8_as_37 : decode cX8_as 37 = .ok (.goto 8, 3) := by decide +kernel
theorem dX8_as_40 : decode cX8_as 40 = .ok (.aload_n 0, 1) := by decide +kernel
theorem dX8_as_41 : decode cX8_as 41 = .ok (.iconst 3, 1) := by decide +kernel
theorem dX8_as_42 : decode cX8_as 42 = .ok (.invokevirtual 56, 3) := by decide +kernel
theorem dX8_as_45 : decode cX8_as 45 = .ok (.ireturn, 1) := by decide +kernel
theorem dX8_begin_0 : decode cX8_begin 0 = .ok (.aload_n 0, 1) := by decide +kernel
theorem dX8_begin_1 : decode cX8_begin 1 = .ok (.getfield 254, 3) := by decide +kernel
theorem dX8_begin_4 : decode cX8_begin 4 = .ok (.bipush 16, 2) := by decide +kernel
theorem dX8_begin_6 : decode cX8_begin 6 = .ok (.if_icmp .ge 23, 3) := by decide +kernel
theorem dX8_begin_9 : decode cX8_begin 9 = .ok (.aload_n 0, 1) := by decide +kernel
theorem dX8_begin_10 : decode cX8_begin 10 = .ok (.getfield 29, 3) := by decide +kernel
theorem dX8_begin_13 : decode cX8_begin 13 = .ok (.aload_n 0, 1) := by decide +kernel
theorem dX8_begin_14 : decode cX8_begin 14 = .ok (.getfield 254, 3) := by decide +kernel
theorem dX8_begin_17 : decode cX8_begin 17 = .ok (.iload_n 1, 1) := by decide +kernel
theorem dX8_begin_18 : decode cX8_begin 18 = .ok (.iastore, 1) := by decide +kernel
theorem dX8_begin_19 : decode cX8_begin 19 = .ok (.aload_n 0, 1) := by decide +kernel
theorem dX8_begin_20 : decode cX8_begin 20 = .ok (.dup, 1) := by decide +kernel
theorem dX8_begin_21 : decode cX8_begin 21 = .ok (.getfield 254, 3) := by decide +kernel
theorem dX8_begin_24 : decode cX8_begin 24 = .ok (.iconst 1, 1) := by decide +kernel
theorem dX8_begin_25 : decode cX8_begin 25 = .ok (.iadd, 1) := by decide +kernel
theorem dX8_begin_26 : decode cX8_begin 26 = .ok (.putfield 254, 3) := by decide +kernel
theorem dX8_begin_29 : decode cX8_begin 29 = .ok (.return_, 1) := by decide +kernel
theorem dX8_lentSize_0 : decode cX8_lentSize 0 = .ok (.aload_n 0, 1) := by decide +kernel
theorem dX8_lentSize_1 : decode cX8_lentSize 1 = .ok (.bipush 10, 2) := by decide +kernel
theorem dX8_lentSize_3 : decode cX8_lentSize 3 = .ok (.invokevirtual 257, 3) := by decide +kernel
theorem dX8_lentSize_6 : decode cX8_lentSize 6 = .ok (.aload_n 0, 1) := by decide +kernel
theorem dX8_lentSize_7 : decode cX8_lentSize 7 = .ok (.getfield 7, 3) := by decide +kernel
theorem dX8_lentSize_10 : decode cX8_lentSize 10 = .ok (.bipush 37, 2) := by decide +kernel
theorem dX8_lentSize_12 : decode cX8_lentSize 12 = .ok (.iload_n 1, 1) := by decide +kernel
theorem dX8_lentSize_13 : decode cX8_lentSize 13 = .ok (.iadd, 1) := by decide +kernel
theorem dX8_lentSize_14 : decode cX8_lentSize 14 = .ok (.iaload, 1) := by decide +kernel
theorem dX8_lentSize_15 : decode cX8_lentSize 15 = .ok (.ireturn, 1) := by decide +kernel
theorem dX8_carefulSize_0 : decode cX8_carefulSize 0 = .ok (.aload_n 0, 1) := by decide +kernel
theorem dX8_carefulSize_1 : decode cX8_carefulSize 1 = .ok (.bipush 11, 2) := by decide +kernel
theorem dX8_carefulSize_3 : decode cX8_carefulSize 3 = .ok (.invokevirtual 257, 3) := by decide +kernel
theorem dX8_carefulSize_6 : decode cX8_carefulSize 6 = .ok (.aload_n 0, 1) := by decide +kernel
theorem dX8_carefulSize_7 : decode cX8_carefulSize 7 = .ok (.iload_n 1, 1) := by decide +kernel
theorem dX8_carefulSize_8 : decode cX8_carefulSize 8 = .ok (.invokevirtual 260, 3) := by decide +kernel
theorem dX8_carefulSize_11 : decode cX8_carefulSize 11 = .ok (.istore_n 2, 1) := by decide +kernel
theorem dX8_carefulSize_12 : decode cX8_carefulSize 12 = .ok (.iload_n 2, 1) := by decide +kernel
theorem dX8_carefulSize_13 : decode cX8_carefulSize 13 = .ok (.aload_n 0, 1) := by decide +kernel
theorem dX8_carefulSize_14 : decode cX8_carefulSize 14 = .ok (.iload_n 1, 1) := by decide +kernel
theorem dX8_carefulSize_15 : decode cX8_carefulSize 15 = .ok (.invokevirtual 263, 3) := by decide +kernel
theorem dX8_carefulSize_18 : decode cX8_carefulSize 18 = .ok (.iadd, 1) := by decide +kernel
theorem dX8_carefulSize_19 : decode cX8_carefulSize 19 = .ok (.ireturn, 1) := by decide +kernel
theorem dX8_youngSize_0 : decode cX8_youngSize 0 = .ok (.aload_n 0, 1) := by decide +kernel
theorem dX8_youngSize_1 : decode cX8_youngSize 1 = .ok (.bipush 13, 2) := by decide +kernel
theorem dX8_youngSize_3 : decode cX8_youngSize 3 = .ok (.invokevirtual 257, 3) := by decide +kernel
theorem dX8_youngSize_6 : decode cX8_youngSize 6 = .ok (.aload_n 0, 1) := by decide +kernel
theorem dX8_youngSize_7 : decode cX8_youngSize 7 = .ok (.iload_n 1, 1) := by decide +kernel
theorem dX8_youngSize_8 : decode cX8_youngSize 8 = .ok (.invokevirtual 260, 3) := by decide +kernel
theorem dX8_youngSize_11 : decode cX8_youngSize 11 = .ok (.bipush 100, 2) := by decide +kernel
theorem dX8_youngSize_13 : decode cX8_youngSize 13 = .ok (.isub, 1) := by decide +kernel
theorem dX8_youngSize_14 : decode cX8_youngSize 14 = .ok (.ireturn, 1) := by decide +kernel
theorem dX8_sizeOf_0 : decode cX8_sizeOf 0 = .ok (.aload_n 0, 1) := by decide +kernel
theorem dX8_sizeOf_1 : decode cX8_sizeOf 1 = .ok (.getfield 7, 3) := by decide +kernel
theorem dX8_sizeOf_4 : decode cX8_sizeOf 4 = .ok (.bipush 29, 2) := by decide +kernel
theorem dX8_sizeOf_6 : decode cX8_sizeOf 6 = .ok (.iload_n 1, 1) := by decide +kernel
theorem dX8_sizeOf_7 : decode cX8_sizeOf 7 = .ok (.iadd, 1) := by decide +kernel
theorem dX8_sizeOf_8 : decode cX8_sizeOf 8 = .ok (.iaload, 1) := by decide +kernel
theorem dX8_sizeOf_9 : decode cX8_sizeOf 9 = .ok (.tableswitch 64 2 5 #[31, 64, 44, 50], 31) := by decide +kernel
theorem dX8_sizeOf_40 : decode cX8_sizeOf 40 = .ok (.aload_n 0, 1) := by decide +kernel
theorem dX8_sizeOf_41 : decode cX8_sizeOf 41 = .ok (.bipush 12, 2) := by decide +kernel
theorem dX8_sizeOf_43 : decode cX8_sizeOf 43 = .ok (.invokevirtual 257, 3) := by decide +kernel
theorem dX8_sizeOf_46 : decode cX8_sizeOf 46 = .ok (.aload_n 0, 1) := by decide +kernel
theorem dX8_sizeOf_47 : decode cX8_sizeOf 47 = .ok (.iload_n 1, 1) := by decide +kernel
theorem dX8_sizeOf_48 : decode cX8_sizeOf 48 = .ok (.invokevirtual 266, 3) := by decide +kernel
theorem dX8_sizeOf_51 : decode cX8_sizeOf 51 = .ok (.ineg, 1) := by decide +kernel
theorem dX8_sizeOf_52 : decode cX8_sizeOf 52 = .ok (.ireturn, 1) := by decide +kernel
theorem dX8_sizeOf_53 : decode cX8_sizeOf 53 = .ok (.aload_n 0, 1) := by decide +kernel
theorem dX8_sizeOf_54 : decode cX8_sizeOf 54 = .ok (.iload_n 1, 1) := by decide +kernel
theorem dX8_sizeOf_55 : decode cX8_sizeOf 55 = .ok (.invokevirtual 269, 3) := by decide +kernel
theorem dX8_sizeOf_58 : decode cX8_sizeOf 58 = .ok (.ireturn, 1) := by decide +kernel
theorem dX8_sizeOf_59 : decode cX8_sizeOf 59 = .ok (.aload_n 0, 1) := by decide +kernel
theorem dX8_sizeOf_60 : decode cX8_sizeOf 60 = .ok (.bipush 14, 2) := by decide +kernel
theorem dX8_sizeOf_62 : decode cX8_sizeOf 62 = .ok (.invokevirtual 257, 3) := by decide +kernel
theorem dX8_sizeOf_65 : decode cX8_sizeOf 65 = .ok (.iconst 2, 1) := by decide +kernel
theorem dX8_sizeOf_66 : decode cX8_sizeOf 66 = .ok (.aload_n 0, 1) := by decide +kernel
theorem dX8_sizeOf_67 : decode cX8_sizeOf 67 = .ok (.iload_n 1, 1) := by decide +kernel
theorem dX8_sizeOf_68 : decode cX8_sizeOf 68 = .ok (.invokevirtual 269, 3) := by decide +kernel
theorem dX8_sizeOf_71 : decode cX8_sizeOf 71 = .ok (.imul, 1) := by decide +kernel
theorem dX8_sizeOf_72 : decode cX8_sizeOf 72 = .ok (.ireturn, 1) := by decide +kernel
theorem dX8_sizeOf_73 : decode cX8_sizeOf 73 = .ok (.aload_n 0, 1) := by decide +kernel
theorem dX8_sizeOf_74 : decode cX8_sizeOf 74 = .ok (.iload_n 1, 1) := by decide +kernel
theorem dX8_sizeOf_75 : decode cX8_sizeOf 75 = .ok (.invokevirtual 266, 3) := by decide +kernel
theorem dX8_sizeOf_78 : decode cX8_sizeOf 78 = .ok (.ireturn, 1) := by decide +kernel
theorem dX8_lentMark_0 : decode cX8_lentMark 0 = .ok (.aload_n 0, 1) := by decide +kernel
theorem dX8_lentMark_1 : decode cX8_lentMark 1 = .ok (.bipush 20, 2) := by decide +kernel
theorem dX8_lentMark_3 : decode cX8_lentMark 3 = .ok (.invokevirtual 257, 3) := by decide +kernel
theorem dX8_lentMark_6 : decode cX8_lentMark 6 = .ok (.iload_n 1, 1) := by decide +kernel
theorem dX8_lentMark_7 : decode cX8_lentMark 7 = .ok (.ireturn, 1) := by decide +kernel
theorem dX8_carefulMark_0 : decode cX8_carefulMark 0 = .ok (.aload_n 0, 1) := by decide +kernel
theorem dX8_carefulMark_1 : decode cX8_carefulMark 1 = .ok (.bipush 21, 2) := by decide +kernel
theorem dX8_carefulMark_3 : decode cX8_carefulMark 3 = .ok (.invokevirtual 257, 3) := by decide +kernel
theorem dX8_carefulMark_6 : decode cX8_carefulMark 6 = .ok (.aload_n 0, 1) := by decide +kernel
theorem dX8_carefulMark_7 : decode cX8_carefulMark 7 = .ok (.iload_n 1, 1) := by decide +kernel
theorem dX8_carefulMark_8 : decode cX8_carefulMark 8 = .ok (.invokevirtual 272, 3) := by decide +kernel
theorem dX8_carefulMark_11 : decode cX8_carefulMark 11 = .ok (.aload_n 0, 1) := by decide +kernel
theorem dX8_carefulMark_12 : decode cX8_carefulMark 12 = .ok (.getfield 7, 3) := by decide +kernel
theorem dX8_carefulMark_15 : decode cX8_carefulMark 15 = .ok (.bipush 41, 2) := by decide +kernel
theorem dX8_carefulMark_17 : decode cX8_carefulMark 17 = .ok (.iload_n 1, 1) := by decide +kernel
theorem dX8_carefulMark_18 : decode cX8_carefulMark 18 = .ok (.iadd, 1) := by decide +kernel
theorem dX8_carefulMark_19 : decode cX8_carefulMark 19 = .ok (.iaload, 1) := by decide +kernel
theorem dX8_carefulMark_20 : decode cX8_carefulMark 20 = .ok (.iadd, 1) := by decide +kernel
theorem dX8_carefulMark_21 : decode cX8_carefulMark 21 = .ok (.ireturn, 1) := by decide +kernel
theorem dX8_mark_0 : decode cX8_mark 0 = .ok (.aload_n 0, 1) := by decide +kernel
theorem dX8_mark_1 : decode cX8_mark 1 = .ok (.getfield 7, 3) := by decide +kernel
theorem dX8_mark_4 : decode cX8_mark 4 = .ok (.bipush 29, 2) := by decide +kernel
theorem dX8_mark_6 : decode cX8_mark 6 = .ok (.iload_n 1, 1) := by decide +kernel
theorem dX8_mark_7 : decode cX8_mark 7 = .ok (.iadd, 1) := by decide +kernel
theorem dX8_mark_8 : decode cX8_mark 8 = .ok (.iaload, 1) := by decide +kernel
theorem dX8_mark_9 : decode cX8_mark 9 = .ok (.lookupswitch 57 #[(2, 43), (3, 27)], 27) := by decide +kernel
theorem dX8_mark_36 : decode cX8_mark 36 = .ok (.aload_n 0, 1) := by decide +kernel
theorem dX8_mark_37 : decode cX8_mark 37 = .ok (.bipush 22, 2) := by decide +kernel
theorem dX8_mark_39 : decode cX8_mark 39 = .ok (.invokevirtual 257, 3) := by decide +kernel
theorem dX8_mark_42 : decode cX8_mark 42 = .ok (.aload_n 0, 1) := by decide +kernel
theorem dX8_mark_43 : decode cX8_mark 43 = .ok (.iload_n 1, 1) := by decide +kernel
theorem dX8_mark_44 : decode cX8_mark 44 = .ok (.invokevirtual 275, 3) := by decide +kernel
theorem dX8_mark_47 : decode cX8_mark 47 = .ok (.sipush 1000, 3) := by decide +kernel
theorem dX8_mark_50 : decode cX8_mark 50 = .ok (.isub, 1) := by decide +kernel
theorem dX8_mark_51 : decode cX8_mark 51 = .ok (.ireturn, 1) := by decide +kernel
theorem dX8_mark_52 : decode cX8_mark 52 = .ok (.aload_n 0, 1) := by decide +kernel
theorem dX8_mark_53 : decode cX8_mark 53 = .ok (.bipush 24, 2) := by decide +kernel
theorem dX8_mark_55 : decode cX8_mark 55 = .ok (.invokevirtual 257, 3) := by decide +kernel
theorem dX8_mark_58 : decode cX8_mark 58 = .ok (.iconst 2, 1) := by decide +kernel
theorem dX8_mark_59 : decode cX8_mark 59 = .ok (.aload_n 0, 1) := by decide +kernel
theorem dX8_mark_60 : decode cX8_mark 60 = .ok (.iload_n 1, 1) := by decide +kernel
theorem dX8_mark_61 : decode cX8_mark 61 = .ok (.invokevirtual 275, 3) := by decide +kernel
theorem dX8_mark_64 : decode cX8_mark 64 = .ok (.imul, 1) := by decide +kernel
theorem dX8_mark_65 : decode cX8_mark 65 = .ok (.ireturn, 1) := by decide +kernel
theorem dX8_mark_66 : decode cX8_mark 66 = .ok (.aload_n 0, 1) := by decide +kernel
theorem dX8_mark_67 : decode cX8_mark 67 = .ok (.iload_n 1, 1) := by decide +kernel
theorem dX8_mark_68 : decode cX8_mark 68 = .ok (.invokevirtual 275, 3) := by decide +kernel
theorem dX8_mark_71 : decode cX8_mark 71 = .ok (.ireturn, 1) := by decide +kernel
theorem dX8_youngMark_0 : decode cX8_youngMark 0 = .ok (.aload_n 0, 1) := by decide +kernel
theorem dX8_youngMark_1 : decode cX8_youngMark 1 = .ok (.bipush 23, 2) := by decide +kernel
theorem dX8_youngMark_3 : decode cX8_youngMark 3 = .ok (.invokevirtual 257, 3) := by decide +kernel
theorem dX8_youngMark_6 : decode cX8_youngMark 6 = .ok (.aload_n 0, 1) := by decide +kernel
theorem dX8_youngMark_7 : decode cX8_youngMark 7 = .ok (.iload_n 1, 1) := by decide +kernel
theorem dX8_youngMark_8 : decode cX8_youngMark 8 = .ok (.invokevirtual 272, 3) := by decide +kernel
theorem dX8_youngMark_11 : decode cX8_youngMark 11 = .ok (.istore_n 2, 1) := by decide +kernel
theorem dX8_youngMark_12 : decode cX8_youngMark 12 = .ok (.iload_n 2, 1) := by decide +kernel
theorem dX8_youngMark_13 : decode cX8_youngMark 13 = .ok (.aload_n 0, 1) := by decide +kernel
theorem dX8_youngMark_14 : decode cX8_youngMark 14 = .ok (.iload_n 1, 1) := by decide +kernel
theorem dX8_youngMark_15 : decode cX8_youngMark 15 = .ok (.invokevirtual 278, 3) := by decide +kernel
theorem dX8_youngMark_18 : decode cX8_youngMark 18 = .ok (.isub, 1) := by decide +kernel
theorem dX8_youngMark_19 : decode cX8_youngMark 19 = .ok (.ireturn, 1) := by decide +kernel
theorem dX8_ask_0 : decode cX8_ask 0 = .ok (.aload_n 0, 1) := by decide +kernel
theorem dX8_ask_1 : decode cX8_ask 1 = .ok (.iload_n 1, 1) := by decide +kernel
theorem dX8_ask_2 : decode cX8_ask 2 = .ok (.invokevirtual 175, 3) := by decide +kernel
theorem dX8_ask_5 : decode cX8_ask 5 = .ok (.ifCond .eq 13, 3) := by decide +kernel
theorem dX8_ask_8 : decode cX8_ask 8 = .ok (.iload_n 2, 1) := by decide +kernel
theorem dX8_ask_9 : decode cX8_ask 9 = .ok (.i2l, 1) := by decide +kernel
theorem dX8_ask_10 : decode cX8_ask 10 = .ok (.lconst 0, 1) := by decide +kernel
theorem dX8_ask_11 : decode cX8_ask 11 = .ok (.lconst 1, 1) := by decide +kernel
theorem dX8_ask_12 : decode cX8_ask 12 = .ok (.invokestatic 45, 3) := by decide +kernel
theorem dX8_ask_15 : decode cX8_ask 15 = .ok (.ifCond .ne 6, 3) := by decide +kernel
theorem dX8_ask_18 : decode cX8_ask 18 = .ok (.ldc 55, 2) := by decide +kernel
theorem dX8_ask_20 : decode cX8_ask 20 = .ok (.ireturn, 1) := by decide +kernel
theorem dX8_ask_21 : decode cX8_ask 21 = .ok (.aload_n 0, 1) := by decide +kernel
theorem dX8_ask_22 : decode cX8_ask 22 = .ok (.iconst 0, 1) := by decide +kernel
theorem dX8_ask_23 : decode cX8_ask 23 = .ok (.putfield 254, 3) := by decide +kernel
theorem dX8_ask_26 : decode cX8_ask 26 = .ok (.iload_n 2, 1) := by decide +kernel
theorem dX8_ask_27 : decode cX8_ask 27 = .ok (.ifCond .ne 11, 3) := by decide +kernel
theorem dX8_ask_30 : decode cX8_ask 30 = .ok (.aload_n 0, 1) := by decide +kernel
theorem dX8_ask_31 : decode cX8_ask 31 = .ok (.iload_n 1, 1) := by decide +kernel
theorem dX8_ask_32 : decode cX8_ask 32 = .ok (.invokevirtual 278, 3) := by decide +kernel
theorem dX8_ask_35 : decode cX8_ask 35 = .ok (.goto 25, 3) := by decide +kernel
theorem dX8_ask_38 : decode cX8_ask 38 = .ok (.aload_n 0, 1) := by decide +kernel
theorem dX8_ask_39 : decode cX8_ask 39 = .ok (.iload_n 1, 1) := by decide +kernel
theorem dX8_ask_40 : decode cX8_ask 40 = .ok (.iconst 4, 1) := by decide +kernel
theorem dX8_ask_41 : decode cX8_ask 41 = .ok (.invokevirtual 251, 3) := by decide +kernel
theorem dX8_ask_44 : decode cX8_ask 44 = .ok (.ifCond .eq 11, 3) := by decide +kernel
theorem dX8_ask_47 : decode cX8_ask 47 = .ok (.aload_n 0, 1) := by decide +kernel
theorem dX8_ask_48 : decode cX8_ask 48 = .ok (.iload_n 1, 1) := by decide +kernel
theorem dX8_ask_49 : decode cX8_ask 49 = .ok (.invokevirtual 281, 3) := by decide +kernel
theorem dX8_ask_52 : decode cX8_ask 52 = .ok (.goto 8, 3) := by decide +kernel
theorem dX8_ask_55 : decode cX8_ask 55 = .ok (.aload_n 0, 1) := by decide +kernel
theorem dX8_ask_56 : decode cX8_ask 56 = .ok (.iload_n 1, 1) := by decide +kernel
theorem dX8_ask_57 : decode cX8_ask 57 = .ok (.invokevirtual 263, 3) := by decide +kernel
theorem dX8_ask_60 : decode cX8_ask 60 = .ok (.ireturn, 1) := by decide +kernel
theorem dX8_trace_0 : decode cX8_trace 0 = .ok (.iload_n 1, 1) := by decide +kernel
theorem dX8_trace_1 : decode cX8_trace 1 = .ok (.i2l, 1) := by decide +kernel
theorem dX8_trace_2 : decode cX8_trace 2 = .ok (.lconst 0, 1) := by decide +kernel
theorem dX8_trace_3 : decode cX8_trace 3 = .ok (.aload_n 0, 1) := by decide +kernel
theorem dX8_trace_4 : decode cX8_trace 4 = .ok (.getfield 254, 3) := by decide +kernel
theorem dX8_trace_7 : decode cX8_trace 7 = .ok (.iconst 1, 1) := by decide +kernel
theorem dX8_trace_8 : decode cX8_trace 8 = .ok (.isub, 1) := by decide +kernel
theorem dX8_trace_9 : decode cX8_trace 9 = .ok (.i2l, 1) := by decide +kernel
theorem dX8_trace_10 : decode cX8_trace 10 = .ok (.invokestatic 45, 3) := by decide +kernel
theorem dX8_trace_13 : decode cX8_trace 13 = .ok (.ifCond .eq 12, 3) := by decide +kernel
theorem dX8_trace_16 : decode cX8_trace 16 = .ok (.aload_n 0, 1) := by decide +kernel
theorem dX8_trace_17 : decode cX8_trace 17 = .ok (.getfield 29, 3) := by decide +kernel
theorem dX8_trace_20 : decode cX8_trace 20 = .ok (.iload_n 1, 1) := by decide +kernel
theorem dX8_trace_21 : decode cX8_trace 21 = .ok (.iaload, 1) := by decide +kernel
theorem dX8_trace_22 : decode cX8_trace 22 = .ok (.goto 5, 3) := by decide +kernel
theorem dX8_trace_25 : decode cX8_trace 25 = .ok (.ldc 149, 2) := by decide +kernel
theorem dX8_trace_27 : decode cX8_trace 27 = .ok (.ireturn, 1) := by decide +kernel
theorem dX8_count_0 : decode cX8_count 0 = .ok (.iconst 0, 1) := by decide +kernel
theorem dX8_count_1 : decode cX8_count 1 = .ok (.istore_n 2, 1) := by decide +kernel
theorem dX8_count_2 : decode cX8_count 2 = .ok (.iload_n 1, 1) := by decide +kernel
theorem dX8_count_3 : decode cX8_count 3 = .ok (.tableswitch 124 0 7 #[45, 78, 85, 93, 100, 107, 114, 119], 45) := by decide +kernel
theorem dX8_count_48 : decode cX8_count 48 = .ok (.iconst 0, 1) := by decide +kernel
theorem dX8_count_49 : decode cX8_count 49 = .ok (.istore_n 3, 1) := by decide +kernel
theorem dX8_count_50 : decode cX8_count 50 = .ok (.iload_n 3, 1) := by decide +kernel
theorem dX8_count_51 : decode cX8_count 51 = .ok (.bipush 8, 2) := by decide +kernel
theorem dX8_count_53 : decode cX8_count 53 = .ok (.if_icmp .ge 26, 3) := by decide +kernel
theorem dX8_count_56 : decode cX8_count 56 = .ok (.iload_n 2, 1) := by decide +kernel
theorem dX8_count_57 : decode cX8_count 57 = .ok (.aload_n 0, 1) := by decide +kernel
theorem dX8_count_58 : decode cX8_count 58 = .ok (.getfield 20, 3) := by decide +kernel
theorem dX8_count_61 : decode cX8_count 61 = .ok (.iload_n 3, 1) := by decide +kernel
theorem dX8_count_62 : decode cX8_count 62 = .ok (.iaload, 1) := by decide +kernel
theorem dX8_count_63 : decode cX8_count 63 = .ok (.ifCond .ge 7, 3) := by decide +kernel
theorem dX8_count_66 : decode cX8_count 66 = .ok (.iconst 0, 1) := by decide +kernel
theorem dX8_count_67 : decode cX8_count 67 = .ok (.goto 4, 3) := by decide +kernel
theorem dX8_count_70 : decode cX8_count 70 = .ok (.iconst 1, 1) := by decide +kernel
theorem dX8_count_71 : decode cX8_count 71 = .ok (.iadd, 1) := by decide +kernel
theorem dX8_count_72 : decode cX8_count 72 = .ok (.istore_n 2, 1) := by decide +kernel
theorem dX8_count_73 : decode cX8_count 73 = .ok (.iinc 3 1, 3) := by decide +kernel
theorem dX8_count_76 : decode cX8_count 76 = .ok (.goto (-26), 3) := by decide +kernel
theorem dX8_count_79 : decode cX8_count 79 = .ok (.iload_n 2, 1) := by decide +kernel
theorem dX8_count_80 : decode cX8_count 80 = .ok (.ireturn, 1) := by decide +kernel
theorem dX8_count_81 : decode cX8_count 81 = .ok (.aload_n 0, 1) := by decide +kernel
theorem dX8_count_82 : decode cX8_count 82 = .ok (.getfield 7, 3) := by decide +kernel
theorem dX8_count_85 : decode cX8_count 85 = .ok (.iconst 0, 1) := by decide +kernel
theorem dX8_count_86 : decode cX8_count 86 = .ok (.iaload, 1) := by decide +kernel
theorem dX8_count_87 : decode cX8_count 87 = .ok (.ireturn, 1) := by decide +kernel
theorem dX8_count_88 : decode cX8_count 88 = .ok (.aload_n 0, 1) := by decide +kernel
theorem dX8_count_89 : decode cX8_count 89 = .ok (.getfield 7, 3) := by decide +kernel
theorem dX8_count_92 : decode cX8_count 92 = .ok (.bipush 7, 2) := by decide +kernel
theorem dX8_count_94 : decode cX8_count 94 = .ok (.iaload, 1) := by decide +kernel
theorem dX8_count_95 : decode cX8_count 95 = .ok (.ireturn, 1) := by decide +kernel
theorem dX8_count_96 : decode cX8_count 96 = .ok (.aload_n 0, 1) := by decide +kernel
theorem dX8_count_97 : decode cX8_count 97 = .ok (.getfield 7, 3) := by decide +kernel
theorem dX8_count_100 : decode cX8_count 100 = .ok (.iconst 3, 1) := by decide +kernel
theorem dX8_count_101 : decode cX8_count 101 = .ok (.iaload, 1) := by decide +kernel
theorem dX8_count_102 : decode cX8_count 102 = .ok (.ireturn, 1) := by decide +kernel
theorem dX8_count_103 : decode cX8_count 103 = .ok (.aload_n 0, 1) := by decide +kernel
theorem dX8_count_104 : decode cX8_count 104 = .ok (.getfield 7, 3) := by decide +kernel
theorem dX8_count_107 : decode cX8_count 107 = .ok (.iconst 4, 1) := by decide +kernel
theorem dX8_count_108 : decode cX8_count 108 = .ok (.iaload, 1) := by decide +kernel
theorem dX8_count_109 : decode cX8_count 109 = .ok (.ireturn, 1) := by decide +kernel
theorem dX8_count_110 : decode cX8_count 110 = .ok (.aload_n 0, 1) := by decide +kernel
theorem dX8_count_111 : decode cX8_count 111 = .ok (.getfield 7, 3) := by decide +kernel
theorem dX8_count_114 : decode cX8_count 114 = .ok (.iconst 5, 1) := by decide +kernel
theorem dX8_count_115 : decode cX8_count 115 = .ok (.iaload, 1) := by decide +kernel
theorem dX8_count_116 : decode cX8_count 116 = .ok (.ireturn, 1) := by decide +kernel
theorem dX8_count_117 : decode cX8_count 117 = .ok (.aload_n 0, 1) := by decide +kernel
theorem dX8_count_118 : decode cX8_count 118 = .ok (.getfield 141, 3) := by decide +kernel
theorem dX8_count_121 : decode cX8_count 121 = .ok (.ireturn, 1) := by decide +kernel
theorem dX8_count_122 : decode cX8_count 122 = .ok (.aload_n 0, 1) := by decide +kernel
theorem dX8_count_123 : decode cX8_count 123 = .ok (.getfield 73, 3) := by decide +kernel
theorem dX8_count_126 : decode cX8_count 126 = .ok (.ireturn, 1) := by decide +kernel
theorem dX8_count_127 : decode cX8_count 127 = .ok (.ldc 55, 2) := by decide +kernel
theorem dX8_count_129 : decode cX8_count 129 = .ok (.ireturn, 1) := by decide +kernel
theorem dX8_status_0 : decode cX8_status 0 = .ok (.aload_n 0, 1) := by decide +kernel
theorem dX8_status_1 : decode cX8_status 1 = .ok (.getfield 38, 3) := by decide +kernel
theorem dX8_status_4 : decode cX8_status 4 = .ok (.ireturn, 1) := by decide +kernel

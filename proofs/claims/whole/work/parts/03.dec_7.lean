theorem dX7_init_0 : decode cX7_init 0 = .ok (.aload_n 0, 1) := by decide +kernel
theorem dX7_init_1 : decode cX7_init 1 = .ok (.invokespecial 1, 3) := by decide +kernel
theorem dX7_init_4 : decode cX7_init 4 = .ok (.aload_n 0, 1) := by decide +kernel
theorem dX7_init_5 : decode cX7_init 5 = .ok (.new 7, 3) := by decide +kernel
theorem dX7_init_8 : decode cX7_init 8 = .ok (.dup, 1) := by decide +kernel
theorem dX7_init_9 : decode cX7_init 9 = .ok (.invokespecial 9, 3) := by decide +kernel
theorem dX7_init_12 : decode cX7_init 12 = .ok (.putfield 10, 3) := by decide +kernel
theorem dX7_init_15 : decode cX7_init 15 = .ok (.aload_n 0, 1) := by decide +kernel
theorem dX7_init_16 : decode cX7_init 16 = .ok (.new 16, 3) := by decide +kernel
theorem dX7_init_19 : decode cX7_init 19 = .ok (.dup, 1) := by decide +kernel
theorem dX7_init_20 : decode cX7_init 20 = .ok (.invokespecial 18, 3) := by decide +kernel
theorem dX7_init_23 : decode cX7_init 23 = .ok (.putfield 19, 3) := by decide +kernel
theorem dX7_init_26 : decode cX7_init 26 = .ok (.aload_n 0, 1) := by decide +kernel
theorem dX7_init_27 : decode cX7_init 27 = .ok (.new 23, 3) := by decide +kernel
theorem dX7_init_30 : decode cX7_init 30 = .ok (.dup, 1) := by decide +kernel
theorem dX7_init_31 : decode cX7_init 31 = .ok (.invokespecial 25, 3) := by decide +kernel
theorem dX7_init_34 : decode cX7_init 34 = .ok (.putfield 26, 3) := by decide +kernel
theorem dX7_init_37 : decode cX7_init 37 = .ok (.aload_n 0, 1) := by decide +kernel
theorem dX7_init_38 : decode cX7_init 38 = .ok (.new 30, 3) := by decide +kernel
theorem dX7_init_41 : decode cX7_init 41 = .ok (.dup, 1) := by decide +kernel
theorem dX7_init_42 : decode cX7_init 42 = .ok (.invokespecial 32, 3) := by decide +kernel
theorem dX7_init_45 : decode cX7_init 45 = .ok (.putfield 33, 3) := by decide +kernel
theorem dX7_init_48 : decode cX7_init 48 = .ok (.aload_n 0, 1) := by decide +kernel
theorem dX7_init_49 : decode cX7_init 49 = .ok (.iconst 2, 1) := by decide +kernel
theorem dX7_init_50 : decode cX7_init 50 = .ok (.anewarray 23, 3) := by decide +kernel
theorem dX7_init_53 : decode cX7_init 53 = .ok (.dup, 1) := by decide +kernel
theorem dX7_init_54 : decode cX7_init 54 = .ok (.iconst 0, 1) := by decide +kernel
theorem dX7_init_55 : decode cX7_init 55 = .ok (.new 23, 3) := by decide +kernel
theorem dX7_init_58 : decode cX7_init 58 = .ok (.dup, 1) := by decide +kernel
theorem dX7_init_59 : decode cX7_init 59 = .ok (.invokespecial 25, 3) := by decide +kernel
theorem dX7_init_62 : decode cX7_init 62 = .ok (.aastore, 1) := by decide +kernel
theorem dX7_init_63 : decode cX7_init 63 = .ok (.dup, 1) := by decide +kernel
theorem dX7_init_64 : decode cX7_init 64 = .ok (.iconst 1, 1) := by decide +kernel
theorem dX7_init_65 : decode cX7_init 65 = .ok (.new 23, 3) := by decide +kernel
theorem dX7_init_68 : decode cX7_init 68 = .ok (.dup, 1) := by decide +kernel
theorem dX7_init_69 : decode cX7_init 69 = .ok (.invokespecial 25, 3) := by decide +kernel
theorem dX7_init_72 : decode cX7_init 72 = .ok (.aastore, 1) := by decide +kernel
theorem dX7_init_73 : decode cX7_init 73 = .ok (.putfield 37, 3) := by decide +kernel
theorem dX7_init_76 : decode cX7_init 76 = .ok (.aload_n 0, 1) := by decide +kernel
theorem dX7_init_77 : decode cX7_init 77 = .ok (.new 41, 3) := by decide +kernel
theorem dX7_init_80 : decode cX7_init 80 = .ok (.dup, 1) := by decide +kernel
theorem dX7_init_81 : decode cX7_init 81 = .ok (.invokespecial 43, 3) := by decide +kernel
theorem dX7_init_84 : decode cX7_init 84 = .ok (.putfield 44, 3) := by decide +kernel
theorem dX7_init_87 : decode cX7_init 87 = .ok (.aload_n 0, 1) := by decide +kernel
theorem dX7_init_88 : decode cX7_init 88 = .ok (.new 48, 3) := by decide +kernel
theorem dX7_init_91 : decode cX7_init 91 = .ok (.dup, 1) := by decide +kernel
theorem dX7_init_92 : decode cX7_init 92 = .ok (.invokespecial 50, 3) := by decide +kernel
theorem dX7_init_95 : decode cX7_init 95 = .ok (.putfield 51, 3) := by decide +kernel
theorem dX7_init_98 : decode cX7_init 98 = .ok (.aload_n 0, 1) := by decide +kernel
theorem dX7_init_99 : decode cX7_init 99 = .ok (.new 55, 3) := by decide +kernel
theorem dX7_init_102 : decode cX7_init 102 = .ok (.dup, 1) := by decide +kernel
theorem dX7_init_103 : decode cX7_init 103 = .ok (.invokespecial 57, 3) := by decide +kernel
theorem dX7_init_106 : decode cX7_init 106 = .ok (.putfield 58, 3) := by decide +kernel
theorem dX7_init_109 : decode cX7_init 109 = .ok (.return_, 1) := by decide +kernel
theorem dX7_row_0 : decode cX7_row 0 = .ok (.iload_n 1, 1) := by decide +kernel
theorem dX7_row_1 : decode cX7_row 1 = .ok (.invokestatic 62, 3) := by decide +kernel
theorem dX7_row_4 : decode cX7_row 4 = .ok (.ifCond .eq 18, 3) := by decide +kernel
theorem dX7_row_7 : decode cX7_row 7 = .ok (.iload_n 2, 1) := by decide +kernel
theorem dX7_row_8 : decode cX7_row 8 = .ok (.ifCond .lt 14, 3) := by decide +kernel
theorem dX7_row_11 : decode cX7_row 11 = .ok (.iload_n 2, 1) := by decide +kernel
theorem dX7_row_12 : decode cX7_row 12 = .ok (.iconst 3, 1) := by decide +kernel
theorem dX7_row_13 : decode cX7_row 13 = .ok (.if_icmp .ge 9, 3) := by decide +kernel
theorem dX7_row_16 : decode cX7_row 16 = .ok (.iload_n 3, 1) := by decide +kernel
theorem dX7_row_17 : decode cX7_row 17 = .ok (.bipush 40, 2) := by decide +kernel
theorem dX7_row_19 : decode cX7_row 19 = .ok (.if_icmp .le 6, 3) := by decide +kernel
theorem dX7_row_22 : decode cX7_row 22 = .ok (.ldc 66, 2) := by decide +kernel
theorem dX7_row_24 : decode cX7_row 24 = .ok (.ireturn, 1) := by decide +kernel
theorem dX7_row_25 : decode cX7_row 25 = .ok (.iload_n 3, 1) := by decide +kernel
theorem dX7_row_26 : decode cX7_row 26 = .ok (.ifCond .ge 9, 3) := by decide +kernel
theorem dX7_row_29 : decode cX7_row 29 = .ok (.aload_n 0, 1) := by decide +kernel
theorem dX7_row_30 : decode cX7_row 30 = .ok (.iconst 4, 1) := by decide +kernel
theorem dX7_row_31 : decode cX7_row 31 = .ok (.invokevirtual 67, 3) := by decide +kernel
theorem dX7_row_34 : decode cX7_row 34 = .ok (.ireturn, 1) := by decide +kernel
theorem dX7_row_35 : decode cX7_row 35 = .ok (.aload_n 0, 1) := by decide +kernel
theorem dX7_row_36 : decode cX7_row 36 = .ok (.getfield 10, 3) := by decide +kernel
theorem dX7_row_39 : decode cX7_row 39 = .ok (.iload_n 1, 1) := by decide +kernel
theorem dX7_row_40 : decode cX7_row 40 = .ok (.iload_n 2, 1) := by decide +kernel
theorem dX7_row_41 : decode cX7_row 41 = .ok (.iload_n 3, 1) := by decide +kernel
theorem dX7_row_42 : decode cX7_row 42 = .ok (.invokevirtual 71, 3) := by decide +kernel
theorem dX7_row_45 : decode cX7_row 45 = .ok (.aload_n 0, 1) := by decide +kernel
theorem dX7_row_46 : decode cX7_row 46 = .ok (.iload_n 3, 1) := by decide +kernel
theorem dX7_row_47 : decode cX7_row 47 = .ok (.invokevirtual 75, 3) := by decide +kernel
theorem dX7_row_50 : decode cX7_row 50 = .ok (.ireturn, 1) := by decide +kernel
theorem dX7_set_0 : decode cX7_set 0 = .ok (.iload_n 1, 1) := by decide +kernel
theorem dX7_set_1 : decode cX7_set 1 = .ok (.invokestatic 62, 3) := by decide +kernel
theorem dX7_set_4 : decode cX7_set 4 = .ok (.ifCond .ne 6, 3) := by decide +kernel
theorem dX7_set_7 : decode cX7_set 7 = .ok (.ldc 66, 2) := by decide +kernel
theorem dX7_set_9 : decode cX7_set 9 = .ok (.ireturn, 1) := by decide +kernel
theorem dX7_set_10 : decode cX7_set 10 = .ok (.aload_n 0, 1) := by decide +kernel
theorem dX7_set_11 : decode cX7_set 11 = .ok (.getfield 10, 3) := by decide +kernel
theorem dX7_set_14 : decode cX7_set 14 = .ok (.iload_n 1, 1) := by decide +kernel
theorem dX7_set_15 : decode cX7_set 15 = .ok (.iload_n 2, 1) := by decide +kernel
theorem dX7_set_16 : decode cX7_set 16 = .ok (.iconst 1, 1) := by decide +kernel
theorem dX7_set_17 : decode cX7_set 17 = .ok (.invokevirtual 78, 3) := by decide +kernel
theorem dX7_set_20 : decode cX7_set 20 = .ok (.istore 4, 2) := by decide +kernel
theorem dX7_set_22 : decode cX7_set 22 = .ok (.iload 4, 2) := by decide +kernel
theorem dX7_set_24 : decode cX7_set 24 = .ok (.ifCond .eq 12, 3) := by decide +kernel
theorem dX7_set_27 : decode cX7_set 27 = .ok (.aload_n 0, 1) := by decide +kernel
theorem dX7_set_28 : decode cX7_set 28 = .ok (.iload 4, 2) := by decide +kernel
theorem dX7_set_30 : decode cX7_set 30 = .ok (.invokevirtual 67, 3) := by decide +kernel
theorem dX7_set_33 : decode cX7_set 33 = .ok (.goto 17, 3) := by decide +kernel
theorem dX7_set_36 : decode cX7_set 36 = .ok (.aload_n 0, 1) := by decide +kernel
theorem dX7_set_37 : decode cX7_set 37 = .ok (.aload_n 0, 1) := by decide +kernel
theorem dX7_set_38 : decode cX7_set 38 = .ok (.getfield 10, 3) := by decide +kernel
theorem dX7_set_41 : decode cX7_set 41 = .ok (.iload_n 1, 1) := by decide +kernel
theorem dX7_set_42 : decode cX7_set 42 = .ok (.iload_n 2, 1) := by decide +kernel
theorem dX7_set_43 : decode cX7_set 43 = .ok (.iload_n 3, 1) := by decide +kernel
theorem dX7_set_44 : decode cX7_set 44 = .ok (.invokevirtual 82, 3) := by decide +kernel
theorem dX7_set_47 : decode cX7_set 47 = .ok (.invokevirtual 75, 3) := by decide +kernel
theorem dX7_set_50 : decode cX7_set 50 = .ok (.ireturn, 1) := by decide +kernel
theorem dX7_copy_0 : decode cX7_copy 0 = .ok (.iload_n 1, 1) := by decide +kernel
theorem dX7_copy_1 : decode cX7_copy 1 = .ok (.invokestatic 62, 3) := by decide +kernel
theorem dX7_copy_4 : decode cX7_copy 4 = .ok (.ifCond .eq 10, 3) := by decide +kernel
theorem dX7_copy_7 : decode cX7_copy 7 = .ok (.iload_n 3, 1) := by decide +kernel
theorem dX7_copy_8 : decode cX7_copy 8 = .ok (.invokestatic 62, 3) := by decide +kernel
theorem dX7_copy_11 : decode cX7_copy 11 = .ok (.ifCond .ne 6, 3) := by decide +kernel
theorem dX7_copy_14 : decode cX7_copy 14 = .ok (.ldc 66, 2) := by decide +kernel
theorem dX7_copy_16 : decode cX7_copy 16 = .ok (.ireturn, 1) := by decide +kernel
theorem dX7_copy_17 : decode cX7_copy 17 = .ok (.aload_n 0, 1) := by decide +kernel
theorem dX7_copy_18 : decode cX7_copy 18 = .ok (.getfield 10, 3) := by decide +kernel
theorem dX7_copy_21 : decode cX7_copy 21 = .ok (.iload_n 1, 1) := by decide +kernel
theorem dX7_copy_22 : decode cX7_copy 22 = .ok (.invokevirtual 85, 3) := by decide +kernel
theorem dX7_copy_25 : decode cX7_copy 25 = .ok (.ifCond .ne 14, 3) := by decide +kernel
theorem dX7_copy_28 : decode cX7_copy 28 = .ok (.aload_n 0, 1) := by decide +kernel
theorem dX7_copy_29 : decode cX7_copy 29 = .ok (.getfield 10, 3) := by decide +kernel
theorem dX7_copy_32 : decode cX7_copy 32 = .ok (.iload_n 3, 1) := by decide +kernel
theorem dX7_copy_33 : decode cX7_copy 33 = .ok (.invokevirtual 85, 3) := by decide +kernel
theorem dX7_copy_36 : decode cX7_copy 36 = .ok (.ifCond .eq 9, 3) := by decide +kernel
theorem dX7_copy_39 : decode cX7_copy 39 = .ok (.aload_n 0, 1) := by decide +kernel
theorem dX7_copy_40 : decode cX7_copy 40 = .ok (.iconst 1, 1) := by decide +kernel
theorem dX7_copy_41 : decode cX7_copy 41 = .ok (.invokevirtual 67, 3) := by decide +kernel
theorem dX7_copy_44 : decode cX7_copy 44 = .ok (.ireturn, 1) := by decide +kernel
theorem dX7_copy_45 : decode cX7_copy 45 = .ok (.aload_n 0, 1) := by decide +kernel
theorem dX7_copy_46 : decode cX7_copy 46 = .ok (.getfield 10, 3) := by decide +kernel
theorem dX7_copy_49 : decode cX7_copy 49 = .ok (.iload_n 1, 1) := by decide +kernel
theorem dX7_copy_50 : decode cX7_copy 50 = .ok (.invokevirtual 88, 3) := by decide +kernel
theorem dX7_copy_53 : decode cX7_copy 53 = .ok (.aload_n 0, 1) := by decide +kernel
theorem dX7_copy_54 : decode cX7_copy 54 = .ok (.getfield 10, 3) := by decide +kernel
theorem dX7_copy_57 : decode cX7_copy 57 = .ok (.iload_n 3, 1) := by decide +kernel
theorem dX7_copy_58 : decode cX7_copy 58 = .ok (.invokevirtual 88, 3) := by decide +kernel
theorem dX7_copy_61 : decode cX7_copy 61 = .ok (.if_icmp .eq 9, 3) := by decide +kernel
theorem dX7_copy_64 : decode cX7_copy 64 = .ok (.aload_n 0, 1) := by decide +kernel
theorem dX7_copy_65 : decode cX7_copy 65 = .ok (.iconst 5, 1) := by decide +kernel
theorem dX7_copy_66 : decode cX7_copy 66 = .ok (.invokevirtual 67, 3) := by decide +kernel
theorem dX7_copy_69 : decode cX7_copy 69 = .ok (.ireturn, 1) := by decide +kernel
theorem dX7_copy_70 : decode cX7_copy 70 = .ok (.aload_n 0, 1) := by decide +kernel
theorem dX7_copy_71 : decode cX7_copy 71 = .ok (.getfield 10, 3) := by decide +kernel
theorem dX7_copy_74 : decode cX7_copy 74 = .ok (.iload_n 1, 1) := by decide +kernel
theorem dX7_copy_75 : decode cX7_copy 75 = .ok (.iload_n 2, 1) := by decide +kernel
theorem dX7_copy_76 : decode cX7_copy 76 = .ok (.iload 5, 2) := by decide +kernel
theorem dX7_copy_78 : decode cX7_copy 78 = .ok (.invokevirtual 91, 3) := by decide +kernel
theorem dX7_copy_81 : decode cX7_copy 81 = .ok (.ifCond .eq 18, 3) := by decide +kernel
theorem dX7_copy_84 : decode cX7_copy 84 = .ok (.aload_n 0, 1) := by decide +kernel
theorem dX7_copy_85 : decode cX7_copy 85 = .ok (.getfield 10, 3) := by decide +kernel
theorem dX7_copy_88 : decode cX7_copy 88 = .ok (.iload_n 3, 1) := by decide +kernel
theorem dX7_copy_89 : decode cX7_copy 89 = .ok (.iload 4, 2) := by decide +kernel
theorem dX7_copy_91 : decode cX7_copy 91 = .ok (.iload 5, 2) := by decide +kernel
theorem dX7_copy_93 : decode cX7_copy 93 = .ok (.invokevirtual 91, 3) := by decide +kernel
theorem dX7_copy_96 : decode cX7_copy 96 = .ok (.ifCond .ne 9, 3) := by decide +kernel
theorem dX7_copy_99 : decode cX7_copy 99 = .ok (.aload_n 0, 1) := by decide +kernel
theorem dX7_copy_100 : decode cX7_copy 100 = .ok (.iconst 2, 1) := by decide +kernel
theorem dX7_copy_101 : decode cX7_copy 101 = .ok (.invokevirtual 67, 3) := by decide +kernel
theorem dX7_copy_104 : decode cX7_copy 104 = .ok (.ireturn, 1) := by decide +kernel
theorem dX7_copy_105 : decode cX7_copy 105 = .ok (.aload_n 0, 1) := by decide +kernel
theorem dX7_copy_106 : decode cX7_copy 106 = .ok (.getfield 10, 3) := by decide +kernel
theorem dX7_copy_109 : decode cX7_copy 109 = .ok (.iload_n 1, 1) := by decide +kernel
theorem dX7_copy_110 : decode cX7_copy 110 = .ok (.iload_n 2, 1) := by decide +kernel
theorem dX7_copy_111 : decode cX7_copy 111 = .ok (.iload_n 3, 1) := by decide +kernel
theorem dX7_copy_112 : decode cX7_copy 112 = .ok (.iload 4, 2) := by decide +kernel
theorem dX7_copy_114 : decode cX7_copy 114 = .ok (.iload 5, 2) := by decide +kernel
theorem dX7_copy_116 : decode cX7_copy 116 = .ok (.invokevirtual 95, 3) := by decide +kernel
theorem dX7_copy_119 : decode cX7_copy 119 = .ok (.aload_n 0, 1) := by decide +kernel
theorem dX7_copy_120 : decode cX7_copy 120 = .ok (.iload 5, 2) := by decide +kernel
theorem dX7_copy_122 : decode cX7_copy 122 = .ok (.invokevirtual 75, 3) := by decide +kernel
theorem dX7_copy_125 : decode cX7_copy 125 = .ok (.ireturn, 1) := by decide +kernel
theorem dX7_drop_0 : decode cX7_drop 0 = .ok (.iload_n 1, 1) := by decide +kernel
theorem dX7_drop_1 : decode cX7_drop 1 = .ok (.invokestatic 62, 3) := by decide +kernel
theorem dX7_drop_4 : decode cX7_drop 4 = .ok (.ifCond .ne 6, 3) := by decide +kernel
theorem dX7_drop_7 : decode cX7_drop 7 = .ok (.ldc 66, 2) := by decide +kernel
theorem dX7_drop_9 : decode cX7_drop 9 = .ok (.ireturn, 1) := by decide +kernel
theorem dX7_drop_10 : decode cX7_drop 10 = .ok (.aload_n 0, 1) := by decide +kernel
theorem dX7_drop_11 : decode cX7_drop 11 = .ok (.getfield 10, 3) := by decide +kernel
theorem dX7_drop_14 : decode cX7_drop 14 = .ok (.iload_n 1, 1) := by decide +kernel
theorem dX7_drop_15 : decode cX7_drop 15 = .ok (.invokevirtual 85, 3) := by decide +kernel
theorem dX7_drop_18 : decode cX7_drop 18 = .ok (.ifCond .eq 11, 3) := by decide +kernel
theorem dX7_drop_21 : decode cX7_drop 21 = .ok (.aload_n 0, 1) := by decide +kernel
theorem dX7_drop_22 : decode cX7_drop 22 = .ok (.iconst 1, 1) := by decide +kernel
theorem dX7_drop_23 : decode cX7_drop 23 = .ok (.invokevirtual 67, 3) := by decide +kernel
theorem dX7_drop_26 : decode cX7_drop 26 = .ok (.goto 15, 3) := by decide +kernel
theorem dX7_drop_29 : decode cX7_drop 29 = .ok (.aload_n 0, 1) := by decide +kernel
theorem dX7_drop_30 : decode cX7_drop 30 = .ok (.aload_n 0, 1) := by decide +kernel
theorem dX7_drop_31 : decode cX7_drop 31 = .ok (.getfield 10, 3) := by decide +kernel
theorem dX7_drop_34 : decode cX7_drop 34 = .ok (.iload_n 1, 1) := by decide +kernel
theorem dX7_drop_35 : decode cX7_drop 35 = .ok (.invokevirtual 99, 3) := by decide +kernel
theorem dX7_drop_38 : decode cX7_drop 38 = .ok (.invokevirtual 75, 3) := by decide +kernel
theorem dX7_drop_41 : decode cX7_drop 41 = .ok (.ireturn, 1) := by decide +kernel
theorem dX7_feed_0 : decode cX7_feed 0 = .ok (.iload_n 1, 1) := by decide +kernel
theorem dX7_feed_1 : decode cX7_feed 1 = .ok (.ifCond .lt 10, 3) := by decide +kernel
theorem dX7_feed_4 : decode cX7_feed 4 = .ok (.iload_n 1, 1) := by decide +kernel
theorem dX7_feed_5 : decode cX7_feed 5 = .ok (.sipush 255, 3) := by decide +kernel
theorem dX7_feed_8 : decode cX7_feed 8 = .ok (.if_icmp .le 6, 3) := by decide +kernel
theorem dX7_feed_11 : decode cX7_feed 11 = .ok (.ldc 66, 2) := by decide +kernel
theorem dX7_feed_13 : decode cX7_feed 13 = .ok (.ireturn, 1) := by decide +kernel
theorem dX7_feed_14 : decode cX7_feed 14 = .ok (.aload_n 0, 1) := by decide +kernel
theorem dX7_feed_15 : decode cX7_feed 15 = .ok (.getfield 19, 3) := by decide +kernel
theorem dX7_feed_18 : decode cX7_feed 18 = .ok (.iload_n 1, 1) := by decide +kernel
theorem dX7_feed_19 : decode cX7_feed 19 = .ok (.invokevirtual 102, 3) := by decide +kernel
theorem dX7_feed_22 : decode cX7_feed 22 = .ok (.ifCond .eq 13, 3) := by decide +kernel
theorem dX7_feed_25 : decode cX7_feed 25 = .ok (.aload_n 0, 1) := by decide +kernel
theorem dX7_feed_26 : decode cX7_feed 26 = .ok (.getfield 19, 3) := by decide +kernel
theorem dX7_feed_29 : decode cX7_feed 29 = .ok (.getfield 105, 3) := by decide +kernel
theorem dX7_feed_32 : decode cX7_feed 32 = .ok (.goto 5, 3) := by decide +kernel
theorem dX7_feed_35 : decode cX7_feed 35 = .ok (.ldc 109, 2) := by decide +kernel
theorem dX7_feed_37 : decode cX7_feed 37 = .ok (.ireturn, 1) := by decide +kernel
theorem dX7_bank_0 : decode cX7_bank 0 = .ok (.aload_n 0, 1) := by decide +kernel
theorem dX7_bank_1 : decode cX7_bank 1 = .ok (.getfield 19, 3) := by decide +kernel
theorem dX7_bank_4 : decode cX7_bank 4 = .ok (.invokevirtual 110, 3) := by decide +kernel
theorem dX7_bank_7 : decode cX7_bank 7 = .ok (.ifCond .ne 14, 3) := by decide +kernel
theorem dX7_bank_10 : decode cX7_bank 10 = .ok (.ldc 114, 2) := by decide +kernel
theorem dX7_bank_12 : decode cX7_bank 12 = .ok (.aload_n 0, 1) := by decide +kernel
theorem dX7_bank_13 : decode cX7_bank 13 = .ok (.getfield 19, 3) := by decide +kernel
theorem dX7_bank_16 : decode cX7_bank 16 = .ok (.getfield 115, 3) := by decide +kernel
theorem dX7_bank_19 : decode cX7_bank 19 = .ok (.isub, 1) := by decide +kernel
theorem dX7_bank_20 : decode cX7_bank 20 = .ok (.ireturn, 1) := by decide +kernel
theorem dX7_bank_21 : decode cX7_bank 21 = .ok (.aload_n 0, 1) := by decide +kernel
theorem dX7_bank_22 : decode cX7_bank 22 = .ok (.aload_n 0, 1) := by decide +kernel
theorem dX7_bank_23 : decode cX7_bank 23 = .ok (.getfield 19, 3) := by decide +kernel
theorem dX7_bank_26 : decode cX7_bank 26 = .ok (.getfield 118, 3) := by decide +kernel
theorem dX7_bank_29 : decode cX7_bank 29 = .ok (.invokevirtual 121, 3) := by decide +kernel
theorem dX7_bank_32 : decode cX7_bank 32 = .ok (.aload_n 0, 1) := by decide +kernel
theorem dX7_bank_33 : decode cX7_bank 33 = .ok (.getfield 26, 3) := by decide +kernel
theorem dX7_bank_36 : decode cX7_bank 36 = .ok (.getfield 125, 3) := by decide +kernel
theorem dX7_bank_39 : decode cX7_bank 39 = .ok (.ireturn, 1) := by decide +kernel
theorem dX7_fault_0 : decode cX7_fault 0 = .ok (.aload_n 0, 1) := by decide +kernel
theorem dX7_fault_1 : decode cX7_fault 1 = .ok (.getfield 19, 3) := by decide +kernel
theorem dX7_fault_4 : decode cX7_fault 4 = .ok (.getfield 128, 3) := by decide +kernel
theorem dX7_fault_7 : decode cX7_fault 7 = .ok (.ireturn, 1) := by decide +kernel
theorem dX7_undo_0 : decode cX7_undo 0 = .ok (.aload_n 0, 1) := by decide +kernel
theorem dX7_undo_1 : decode cX7_undo 1 = .ok (.getfield 33, 3) := by decide +kernel
theorem dX7_undo_4 : decode cX7_undo 4 = .ok (.getfield 131, 3) := by decide +kernel
theorem dX7_undo_7 : decode cX7_undo 7 = .ok (.ifCond .ne 6, 3) := by decide +kernel
theorem dX7_undo_10 : decode cX7_undo 10 = .ok (.ldc 132, 2) := by decide +kernel
theorem dX7_undo_12 : decode cX7_undo 12 = .ok (.ireturn, 1) := by decide +kernel
theorem dX7_undo_13 : decode cX7_undo 13 = .ok (.aload_n 0, 1) := by decide +kernel
theorem dX7_undo_14 : decode cX7_undo 14 = .ok (.getfield 33, 3) := by decide +kernel
theorem dX7_undo_17 : decode cX7_undo 17 = .ok (.aload_n 0, 1) := by decide +kernel
theorem dX7_undo_18 : decode cX7_undo 18 = .ok (.getfield 26, 3) := by decide +kernel
theorem dX7_undo_21 : decode cX7_undo 21 = .ok (.invokevirtual 133, 3) := by decide +kernel
theorem dX7_undo_24 : decode cX7_undo 24 = .ok (.aload_n 0, 1) := by decide +kernel
theorem dX7_undo_25 : decode cX7_undo 25 = .ok (.getfield 51, 3) := by decide +kernel
theorem dX7_undo_28 : decode cX7_undo 28 = .ok (.invokevirtual 136, 3) := by decide +kernel
theorem dX7_undo_31 : decode cX7_undo 31 = .ok (.aload_n 0, 1) := by decide +kernel
theorem dX7_undo_32 : decode cX7_undo 32 = .ok (.getfield 33, 3) := by decide +kernel
theorem dX7_undo_35 : decode cX7_undo 35 = .ok (.getfield 131, 3) := by decide +kernel
theorem dX7_undo_38 : decode cX7_undo 38 = .ok (.ireturn, 1) := by decide +kernel
theorem dX7_serve_0 : decode cX7_serve 0 = .ok (.aload_n 0, 1) := by decide +kernel
theorem dX7_serve_1 : decode cX7_serve 1 = .ok (.getfield 26, 3) := by decide +kernel
theorem dX7_serve_4 : decode cX7_serve 4 = .ok (.invokevirtual 139, 3) := by decide +kernel
theorem dX7_serve_7 : decode cX7_serve 7 = .ok (.ifCond .ne 6, 3) := by decide +kernel
theorem dX7_serve_10 : decode cX7_serve 10 = .ok (.ldc 132, 2) := by decide +kernel
theorem dX7_serve_12 : decode cX7_serve 12 = .ok (.ireturn, 1) := by decide +kernel
theorem dX7_serve_13 : decode cX7_serve 13 = .ok (.iload_n 1, 1) := by decide +kernel
theorem dX7_serve_14 : decode cX7_serve 14 = .ok (.iconst 1, 1) := by decide +kernel
theorem dX7_serve_15 : decode cX7_serve 15 = .ok (.if_icmp .lt 9, 3) := by decide +kernel
theorem dX7_serve_18 : decode cX7_serve 18 = .ok (.iload_n 1, 1) := by decide +kernel
theorem dX7_serve_19 : decode cX7_serve 19 = .ok (.bipush 24, 2) := by decide +kernel
theorem dX7_serve_21 : decode cX7_serve 21 = .ok (.if_icmp .le 6, 3) := by decide +kernel
theorem dX7_serve_24 : decode cX7_serve 24 = .ok (.ldc 66, 2) := by decide +kernel
theorem dX7_serve_26 : decode cX7_serve 26 = .ok (.ireturn, 1) := by decide +kernel
theorem dX7_serve_27 : decode cX7_serve 27 = .ok (.aload_n 0, 1) := by decide +kernel
theorem dX7_serve_28 : decode cX7_serve 28 = .ok (.getfield 26, 3) := by decide +kernel
theorem dX7_serve_31 : decode cX7_serve 31 = .ok (.getfield 142, 3) := by decide +kernel
theorem dX7_serve_34 : decode cX7_serve 34 = .ok (.iload_n 1, 1) := by decide +kernel
theorem dX7_serve_35 : decode cX7_serve 35 = .ok (.iadd, 1) := by decide +kernel
theorem dX7_serve_36 : decode cX7_serve 36 = .ok (.sipush 999, 3) := by decide +kernel
theorem dX7_serve_39 : decode cX7_serve 39 = .ok (.if_icmp .le 6, 3) := by decide +kernel
theorem dX7_serve_42 : decode cX7_serve 42 = .ok (.ldc 109, 2) := by decide +kernel
theorem dX7_serve_44 : decode cX7_serve 44 = .ok (.ireturn, 1) := by decide +kernel
theorem dX7_serve_45 : decode cX7_serve 45 = .ok (.iconst 0, 1) := by decide +kernel
theorem dX7_serve_46 : decode cX7_serve 46 = .ok (.istore_n 2, 1) := by decide +kernel
theorem dX7_serve_47 : decode cX7_serve 47 = .ok (.iload_n 2, 1) := by decide +kernel
theorem dX7_serve_48 : decode cX7_serve 48 = .ok (.iload_n 1, 1) := by decide +kernel
theorem dX7_serve_49 : decode cX7_serve 49 = .ok (.if_icmp .ge 21, 3) := by decide +kernel
theorem dX7_serve_52 : decode cX7_serve 52 = .ok (.aload_n 0, 1) := by decide +kernel
theorem dX7_serve_53 : decode cX7_serve 53 = .ok (.invokevirtual 145, 3) := by decide +kernel
theorem dX7_serve_56 : decode cX7_serve 56 = .ok (.aload_n 0, 1) := by decide +kernel
theorem dX7_serve_57 : decode cX7_serve 57 = .ok (.getfield 26, 3) := by decide +kernel
theorem dX7_serve_60 : decode cX7_serve 60 = .ok (.invokevirtual 148, 3) := by decide +kernel
theorem dX7_serve_63 : decode cX7_serve 63 = .ok (.pop, 1) := by decide +kernel
theorem dX7_serve_64 : decode cX7_serve 64 = .ok (.iinc 2 1, 3) := by decide +kernel
theorem dX7_serve_67 : decode cX7_serve 67 = .ok (.goto (-20), 3) := by decide +kernel
theorem dX7_serve_70 : decode cX7_serve 70 = .ok (.aload_n 0, 1) := by decide +kernel
theorem dX7_serve_71 : decode cX7_serve 71 = .ok (.getfield 26, 3) := by decide +kernel
theorem dX7_serve_74 : decode cX7_serve 74 = .ok (.getfield 152, 3) := by decide +kernel
theorem dX7_serve_77 : decode cX7_serve 77 = .ok (.ireturn, 1) := by decide +kernel
theorem dX7_counter_0 : decode cX7_counter 0 = .ok (.aload_n 0, 1) := by decide +kernel
theorem dX7_counter_1 : decode cX7_counter 1 = .ok (.getfield 26, 3) := by decide +kernel
theorem dX7_counter_4 : decode cX7_counter 4 = .ok (.iload_n 1, 1) := by decide +kernel
theorem dX7_counter_5 : decode cX7_counter 5 = .ok (.invokevirtual 155, 3) := by decide +kernel
theorem dX7_counter_8 : decode cX7_counter 8 = .ok (.ifCond .eq 10, 3) := by decide +kernel
theorem dX7_counter_11 : decode cX7_counter 11 = .ok (.iload_n 2, 1) := by decide +kernel
theorem dX7_counter_12 : decode cX7_counter 12 = .ok (.invokestatic 158, 3) := by decide +kernel
theorem dX7_counter_15 : decode cX7_counter 15 = .ok (.ifCond .ne 6, 3) := by decide +kernel
theorem dX7_counter_18 : decode cX7_counter 18 = .ok (.ldc 66, 2) := by decide +kernel
theorem dX7_counter_20 : decode cX7_counter 20 = .ok (.ireturn, 1) := by decide +kernel
theorem dX7_counter_21 : decode cX7_counter 21 = .ok (.aload_n 0, 1) := by decide +kernel
theorem dX7_counter_22 : decode cX7_counter 22 = .ok (.getfield 26, 3) := by decide +kernel
theorem dX7_counter_25 : decode cX7_counter 25 = .ok (.iload_n 1, 1) := by decide +kernel
theorem dX7_counter_26 : decode cX7_counter 26 = .ok (.invokevirtual 161, 3) := by decide +kernel
theorem dX7_counter_29 : decode cX7_counter 29 = .ok (.iload_n 2, 1) := by decide +kernel
theorem dX7_counter_30 : decode cX7_counter 30 = .ok (.iconst 1, 1) := by decide +kernel
theorem dX7_counter_31 : decode cX7_counter 31 = .ok (.if_icmp .ne 7, 3) := by decide +kernel
theorem dX7_counter_34 : decode cX7_counter 34 = .ok (.iconst 1, 1) := by decide +kernel
theorem dX7_counter_35 : decode cX7_counter 35 = .ok (.goto 4, 3) := by decide +kernel
theorem dX7_counter_38 : decode cX7_counter 38 = .ok (.iconst 0, 1) := by decide +kernel
theorem dX7_counter_39 : decode cX7_counter 39 = .ok (.if_icmp .ne 6, 3) := by decide +kernel
theorem dX7_counter_42 : decode cX7_counter 42 = .ok (.ldc 132, 2) := by decide +kernel
theorem dX7_counter_44 : decode cX7_counter 44 = .ok (.ireturn, 1) := by decide +kernel
theorem dX7_counter_45 : decode cX7_counter 45 = .ok (.aload_n 0, 1) := by decide +kernel
theorem dX7_counter_46 : decode cX7_counter 46 = .ok (.invokevirtual 145, 3) := by decide +kernel
theorem dX7_counter_49 : decode cX7_counter 49 = .ok (.aload_n 0, 1) := by decide +kernel
theorem dX7_counter_50 : decode cX7_counter 50 = .ok (.getfield 26, 3) := by decide +kernel
theorem dX7_counter_53 : decode cX7_counter 53 = .ok (.dup, 1) := by decide +kernel
theorem dX7_counter_54 : decode cX7_counter 54 = .ok (.getfield 164, 3) := by decide +kernel
theorem dX7_counter_57 : decode cX7_counter 57 = .ok (.iconst 1, 1) := by decide +kernel
theorem dX7_counter_58 : decode cX7_counter 58 = .ok (.iload_n 1, 1) := by decide +kernel
theorem dX7_counter_59 : decode cX7_counter 59 = .ok (.ishl, 1) := by decide +kernel
theorem dX7_counter_60 : decode cX7_counter 60 = .ok (.ixor, 1) := by decide +kernel
theorem dX7_counter_61 : decode cX7_counter 61 = .ok (.putfield 164, 3) := by decide +kernel
theorem dX7_counter_64 : decode cX7_counter 64 = .ok (.aload_n 0, 1) := by decide +kernel
theorem dX7_counter_65 : decode cX7_counter 65 = .ok (.getfield 26, 3) := by decide +kernel
theorem dX7_counter_68 : decode cX7_counter 68 = .ok (.getfield 164, 3) := by decide +kernel
theorem dX7_counter_71 : decode cX7_counter 71 = .ok (.ireturn, 1) := by decide +kernel
theorem dX7_come_0 : decode cX7_come 0 = .ok (.aload_n 0, 1) := by decide +kernel
theorem dX7_come_1 : decode cX7_come 1 = .ok (.getfield 26, 3) := by decide +kernel
theorem dX7_come_4 : decode cX7_come 4 = .ok (.invokevirtual 139, 3) := by decide +kernel
theorem dX7_come_7 : decode cX7_come 7 = .ok (.ifCond .ne 6, 3) := by decide +kernel
theorem dX7_come_10 : decode cX7_come 10 = .ok (.ldc 132, 2) := by decide +kernel
theorem dX7_come_12 : decode cX7_come 12 = .ok (.ireturn, 1) := by decide +kernel
theorem dX7_come_13 : decode cX7_come 13 = .ok (.iload_n 1, 1) := by decide +kernel
theorem dX7_come_14 : decode cX7_come 14 = .ok (.invokestatic 158, 3) := by decide +kernel
theorem dX7_come_17 : decode cX7_come 17 = .ok (.ifCond .eq 10, 3) := by decide +kernel
theorem dX7_come_20 : decode cX7_come 20 = .ok (.iload_n 2, 1) := by decide +kernel
theorem dX7_come_21 : decode cX7_come 21 = .ok (.invokestatic 167, 3) := by decide +kernel
theorem dX7_come_24 : decode cX7_come 24 = .ok (.ifCond .ne 6, 3) := by decide +kernel
theorem dX7_come_27 : decode cX7_come 27 = .ok (.ldc 66, 2) := by decide +kernel
theorem dX7_come_29 : decode cX7_come 29 = .ok (.ireturn, 1) := by decide +kernel
theorem dX7_come_30 : decode cX7_come 30 = .ok (.aload_n 0, 1) := by decide +kernel
theorem dX7_come_31 : decode cX7_come 31 = .ok (.getfield 26, 3) := by decide +kernel
theorem dX7_come_34 : decode cX7_come 34 = .ok (.getfield 152, 3) := by decide +kernel
theorem dX7_come_37 : decode cX7_come 37 = .ok (.bipush 7, 2) := by decide +kernel
theorem dX7_come_39 : decode cX7_come 39 = .ok (.if_icmp .lt 6, 3) := by decide +kernel
theorem dX7_come_42 : decode cX7_come 42 = .ok (.ldc 109, 2) := by decide +kernel
theorem dX7_come_44 : decode cX7_come 44 = .ok (.ireturn, 1) := by decide +kernel
theorem dX7_come_45 : decode cX7_come 45 = .ok (.aload_n 0, 1) := by decide +kernel
theorem dX7_come_46 : decode cX7_come 46 = .ok (.invokevirtual 145, 3) := by decide +kernel
theorem dX7_come_49 : decode cX7_come 49 = .ok (.aload_n 0, 1) := by decide +kernel
theorem dX7_come_50 : decode cX7_come 50 = .ok (.getfield 26, 3) := by decide +kernel
theorem dX7_come_53 : decode cX7_come 53 = .ok (.iload_n 1, 1) := by decide +kernel
theorem dX7_come_54 : decode cX7_come 54 = .ok (.iconst 1, 1) := by decide +kernel
theorem dX7_come_55 : decode cX7_come 55 = .ok (.if_icmp .ne 7, 3) := by decide +kernel
theorem dX7_come_58 : decode cX7_come 58 = .ok (.iconst 1, 1) := by decide +kernel
theorem dX7_come_59 : decode cX7_come 59 = .ok (.goto 4, 3) := by decide +kernel
theorem dX7_come_62 : decode cX7_come 62 = .ok (.iconst 0, 1) := by decide +kernel
theorem dX7_come_63 : decode cX7_come 63 = .ok (.iload_n 2, 1) := by decide +kernel
theorem dX7_come_64 : decode cX7_come 64 = .ok (.invokevirtual 170, 3) := by decide +kernel
theorem dX7_come_67 : decode cX7_come 67 = .ok (.ireturn, 1) := by decide +kernel
theorem dX7_dismiss_0 : decode cX7_dismiss 0 = .ok (.aload_n 0, 1) := by decide +kernel
theorem dX7_dismiss_1 : decode cX7_dismiss 1 = .ok (.getfield 26, 3) := by decide +kernel
theorem dX7_dismiss_4 : decode cX7_dismiss 4 = .ok (.getfield 152, 3) := by decide +kernel
theorem dX7_dismiss_7 : decode cX7_dismiss 7 = .ok (.ifCond .ne 6, 3) := by decide +kernel
theorem dX7_dismiss_10 : decode cX7_dismiss 10 = .ok (.ldc 132, 2) := by decide +kernel
theorem dX7_dismiss_12 : decode cX7_dismiss 12 = .ok (.ireturn, 1) := by decide +kernel
theorem dX7_dismiss_13 : decode cX7_dismiss 13 = .ok (.aload_n 0, 1) := by decide +kernel
theorem dX7_dismiss_14 : decode cX7_dismiss 14 = .ok (.invokevirtual 145, 3) := by decide +kernel
theorem dX7_dismiss_17 : decode cX7_dismiss 17 = .ok (.aload_n 0, 1) := by decide +kernel
theorem dX7_dismiss_18 : decode cX7_dismiss 18 = .ok (.getfield 26, 3) := by decide +kernel
theorem dX7_dismiss_21 : decode cX7_dismiss 21 = .ok (.dup, 1) := by decide +kernel
theorem dX7_dismiss_22 : decode cX7_dismiss 22 = .ok (.getfield 174, 3) := by decide +kernel
theorem dX7_dismiss_25 : decode cX7_dismiss 25 = .ok (.iconst 1, 1) := by decide +kernel
theorem dX7_dismiss_26 : decode cX7_dismiss 26 = .ok (.iadd, 1) := by decide +kernel
theorem dX7_dismiss_27 : decode cX7_dismiss 27 = .ok (.putfield 174, 3) := by decide +kernel
theorem dX7_dismiss_30 : decode cX7_dismiss 30 = .ok (.aload_n 0, 1) := by decide +kernel
theorem dX7_dismiss_31 : decode cX7_dismiss 31 = .ok (.getfield 26, 3) := by decide +kernel
theorem dX7_dismiss_34 : decode cX7_dismiss 34 = .ok (.iconst 0, 1) := by decide +kernel
theorem dX7_dismiss_35 : decode cX7_dismiss 35 = .ok (.invokevirtual 177, 3) := by decide +kernel
theorem dX7_dismiss_38 : decode cX7_dismiss 38 = .ok (.ireturn, 1) := by decide +kernel
theorem dX7_swap_0 : decode cX7_swap 0 = .ok (.aload_n 0, 1) := by decide +kernel
theorem dX7_swap_1 : decode cX7_swap 1 = .ok (.getfield 26, 3) := by decide +kernel
theorem dX7_swap_4 : decode cX7_swap 4 = .ok (.getfield 152, 3) := by decide +kernel
theorem dX7_swap_7 : decode cX7_swap 7 = .ok (.iconst 2, 1) := by decide +kernel
theorem dX7_swap_8 : decode cX7_swap 8 = .ok (.if_icmp .ge 6, 3) := by decide +kernel
theorem dX7_swap_11 : decode cX7_swap 11 = .ok (.ldc 132, 2) := by decide +kernel
theorem dX7_swap_13 : decode cX7_swap 13 = .ok (.ireturn, 1) := by decide +kernel
theorem dX7_swap_14 : decode cX7_swap 14 = .ok (.aload_n 0, 1) := by decide +kernel
theorem dX7_swap_15 : decode cX7_swap 15 = .ok (.invokevirtual 145, 3) := by decide +kernel
theorem dX7_swap_18 : decode cX7_swap 18 = .ok (.aload_n 0, 1) := by decide +kernel
theorem dX7_swap_19 : decode cX7_swap 19 = .ok (.getfield 26, 3) := by decide +kernel
theorem dX7_swap_22 : decode cX7_swap 22 = .ok (.invokevirtual 180, 3) := by decide +kernel
theorem dX7_swap_25 : decode cX7_swap 25 = .ok (.aload_n 0, 1) := by decide +kernel
theorem dX7_swap_26 : decode cX7_swap 26 = .ok (.getfield 26, 3) := by decide +kernel
theorem dX7_swap_29 : decode cX7_swap 29 = .ok (.getfield 183, 3) := by decide +kernel
theorem dX7_swap_32 : decode cX7_swap 32 = .ok (.iconst 0, 1) := by decide +kernel
theorem dX7_swap_33 : decode cX7_swap 33 = .ok (.iaload, 1) := by decide +kernel
theorem dX7_swap_34 : decode cX7_swap 34 = .ok (.ireturn, 1) := by decide +kernel
theorem dX7_teller_0 : decode cX7_teller 0 = .ok (.aload_n 0, 1) := by decide +kernel
theorem dX7_teller_1 : decode cX7_teller 1 = .ok (.getfield 26, 3) := by decide +kernel
theorem dX7_teller_4 : decode cX7_teller 4 = .ok (.iload_n 1, 1) := by decide +kernel
theorem dX7_teller_5 : decode cX7_teller 5 = .ok (.invokevirtual 155, 3) := by decide +kernel
theorem dX7_teller_8 : decode cX7_teller 8 = .ok (.ifCond .ne 6, 3) := by decide +kernel
theorem dX7_teller_11 : decode cX7_teller 11 = .ok (.ldc 66, 2) := by decide +kernel
theorem dX7_teller_13 : decode cX7_teller 13 = .ok (.ireturn, 1) := by decide +kernel
theorem dX7_teller_14 : decode cX7_teller 14 = .ok (.iload_n 2, 1) := by decide +kernel
theorem dX7_teller_15 : decode cX7_teller 15 = .ok (.tableswitch 90 0 4 #[33, 43, 53, 63, 80], 33) := by decide +kernel
theorem dX7_teller_48 : decode cX7_teller 48 = .ok (.aload_n 0, 1) := by decide +kernel
theorem dX7_teller_49 : decode cX7_teller 49 = .ok (.getfield 26, 3) := by decide +kernel
theorem dX7_teller_52 : decode cX7_teller 52 = .ok (.getfield 187, 3) := by decide +kernel
theorem dX7_teller_55 : decode cX7_teller 55 = .ok (.iload_n 1, 1) := by decide +kernel
theorem dX7_teller_56 : decode cX7_teller 56 = .ok (.iaload, 1) := by decide +kernel
theorem dX7_teller_57 : decode cX7_teller 57 = .ok (.ireturn, 1) := by decide +kernel
theorem dX7_teller_58 : decode cX7_teller 58 = .ok (.aload_n 0, 1) := by decide +kernel
theorem dX7_teller_59 : decode cX7_teller 59 = .ok (.getfield 26, 3) := by decide +kernel
theorem dX7_teller_62 : decode cX7_teller 62 = .ok (.getfield 190, 3) := by decide +kernel
theorem dX7_teller_65 : decode cX7_teller 65 = .ok (.iload_n 1, 1) := by decide +kernel
theorem dX7_teller_66 : decode cX7_teller 66 = .ok (.iaload, 1) := by decide +kernel
theorem dX7_teller_67 : decode cX7_teller 67 = .ok (.ireturn, 1) := by decide +kernel
theorem dX7_teller_68 : decode cX7_teller 68 = .ok (.aload_n 0, 1) := by decide +kernel
theorem dX7_teller_69 : decode cX7_teller 69 = .ok (.getfield 26, 3) := by decide +kernel
theorem dX7_teller_72 : decode cX7_teller 72 = .ok (.getfield 193, 3) := by decide +kernel
theorem dX7_teller_75 : decode cX7_teller 75 = .ok (.iload_n 1, 1) := by decide +kernel
theorem dX7_teller_76 : decode cX7_teller 76 = .ok (.iaload, 1) := by decide +kernel
theorem dX7_teller_77 : decode cX7_teller 77 = .ok (.ireturn, 1) := by decide +kernel
theorem dX7_teller_78 : decode cX7_teller 78 = .ok (.aload_n 0, 1) := by decide +kernel
theorem dX7_teller_79 : decode cX7_teller 79 = .ok (.getfield 26, 3) := by decide +kernel
theorem dX7_teller_82 : decode cX7_teller 82 = .ok (.iload_n 1, 1) := by decide +kernel
theorem dX7_teller_83 : decode cX7_teller 83 = .ok (.invokevirtual 161, 3) := by decide +kernel
theorem dX7_teller_86 : decode cX7_teller 86 = .ok (.ifCond .eq 7, 3) := by decide +kernel
theorem dX7_teller_89 : decode cX7_teller 89 = .ok (.iconst 1, 1) := by decide +kernel
theorem dX7_teller_90 : decode cX7_teller 90 = .ok (.goto 4, 3) := by decide +kernel
theorem dX7_teller_93 : decode cX7_teller 93 = .ok (.iconst 0, 1) := by decide +kernel
theorem dX7_teller_94 : decode cX7_teller 94 = .ok (.ireturn, 1) := by decide +kernel
theorem dX7_teller_95 : decode cX7_teller 95 = .ok (.aload_n 0, 1) := by decide +kernel
theorem dX7_teller_96 : decode cX7_teller 96 = .ok (.getfield 26, 3) := by decide +kernel
theorem dX7_teller_99 : decode cX7_teller 99 = .ok (.getfield 196, 3) := by decide +kernel
theorem dX7_teller_102 : decode cX7_teller 102 = .ok (.iload_n 1, 1) := by decide +kernel
theorem dX7_teller_103 : decode cX7_teller 103 = .ok (.iaload, 1) := by decide +kernel
theorem dX7_teller_104 : decode cX7_teller 104 = .ok (.ireturn, 1) := by decide +kernel
theorem dX7_teller_105 : decode cX7_teller 105 = .ok (.ldc 66, 2) := by decide +kernel
theorem dX7_teller_107 : decode cX7_teller 107 = .ok (.ireturn, 1) := by decide +kernel
theorem dX7_paper_0 : decode cX7_paper 0 = .ok (.aload_n 0, 1) := by decide +kernel
theorem dX7_paper_1 : decode cX7_paper 1 = .ok (.getfield 26, 3) := by decide +kernel
theorem dX7_paper_4 : decode cX7_paper 4 = .ok (.iload_n 1, 1) := by decide +kernel
theorem dX7_paper_5 : decode cX7_paper 5 = .ok (.invokevirtual 199, 3) := by decide +kernel
theorem dX7_paper_8 : decode cX7_paper 8 = .ok (.ifCond .ne 6, 3) := by decide +kernel
theorem dX7_paper_11 : decode cX7_paper 11 = .ok (.ldc 66, 2) := by decide +kernel
theorem dX7_paper_13 : decode cX7_paper 13 = .ok (.ireturn, 1) := by decide +kernel
theorem dX7_paper_14 : decode cX7_paper 14 = .ok (.iload_n 2, 1) := by decide +kernel
theorem dX7_paper_15 : decode cX7_paper 15 = .ok (.tableswitch 60 0 2 #[25, 34, 51], 25) := by decide +kernel
theorem dX7_paper_40 : decode cX7_paper 40 = .ok (.aload_n 0, 1) := by decide +kernel
theorem dX7_paper_41 : decode cX7_paper 41 = .ok (.getfield 26, 3) := by decide +kernel
theorem dX7_paper_44 : decode cX7_paper 44 = .ok (.iload_n 1, 1) := by decide +kernel
theorem dX7_paper_45 : decode cX7_paper 45 = .ok (.invokevirtual 202, 3) := by decide +kernel
theorem dX7_paper_48 : decode cX7_paper 48 = .ok (.ireturn, 1) := by decide +kernel
theorem dX7_paper_49 : decode cX7_paper 49 = .ok (.aload_n 0, 1) := by decide +kernel
theorem dX7_paper_50 : decode cX7_paper 50 = .ok (.getfield 26, 3) := by decide +kernel
theorem dX7_paper_53 : decode cX7_paper 53 = .ok (.iload_n 1, 1) := by decide +kernel
theorem dX7_paper_54 : decode cX7_paper 54 = .ok (.invokevirtual 205, 3) := by decide +kernel
theorem dX7_paper_57 : decode cX7_paper 57 = .ok (.ifCond .eq 7, 3) := by decide +kernel
theorem dX7_paper_60 : decode cX7_paper 60 = .ok (.iconst 1, 1) := by decide +kernel
theorem dX7_paper_61 : decode cX7_paper 61 = .ok (.goto 4, 3) := by decide +kernel
theorem dX7_paper_64 : decode cX7_paper 64 = .ok (.iconst 0, 1) := by decide +kernel
theorem dX7_paper_65 : decode cX7_paper 65 = .ok (.ireturn, 1) := by decide +kernel
theorem dX7_paper_66 : decode cX7_paper 66 = .ok (.aload_n 0, 1) := by decide +kernel
theorem dX7_paper_67 : decode cX7_paper 67 = .ok (.getfield 26, 3) := by decide +kernel
theorem dX7_paper_70 : decode cX7_paper 70 = .ok (.iload_n 1, 1) := by decide +kernel
theorem dX7_paper_71 : decode cX7_paper 71 = .ok (.invokevirtual 208, 3) := by decide +kernel
theorem dX7_paper_74 : decode cX7_paper 74 = .ok (.ireturn, 1) := by decide +kernel
theorem dX7_paper_75 : decode cX7_paper 75 = .ok (.ldc 66, 2) := by decide +kernel
theorem dX7_paper_77 : decode cX7_paper 77 = .ok (.ireturn, 1) := by decide +kernel
theorem dX7_cost_0 : decode cX7_cost 0 = .ok (.aload_n 0, 1) := by decide +kernel
theorem dX7_cost_1 : decode cX7_cost 1 = .ok (.getfield 26, 3) := by decide +kernel
theorem dX7_cost_4 : decode cX7_cost 4 = .ok (.iload_n 1, 1) := by decide +kernel
theorem dX7_cost_5 : decode cX7_cost 5 = .ok (.invokevirtual 155, 3) := by decide +kernel
theorem dX7_cost_8 : decode cX7_cost 8 = .ok (.ifCond .eq 22, 3) := by decide +kernel
theorem dX7_cost_11 : decode cX7_cost 11 = .ok (.iload_n 2, 1) := by decide +kernel
theorem dX7_cost_12 : decode cX7_cost 12 = .ok (.invokestatic 167, 3) := by decide +kernel
theorem dX7_cost_15 : decode cX7_cost 15 = .ok (.ifCond .eq 15, 3) := by decide +kernel
theorem dX7_cost_18 : decode cX7_cost 18 = .ok (.aload_n 0, 1) := by decide +kernel
theorem dX7_cost_19 : decode cX7_cost 19 = .ok (.getfield 26, 3) := by decide +kernel
theorem dX7_cost_22 : decode cX7_cost 22 = .ok (.iload_n 1, 1) := by decide +kernel
theorem dX7_cost_23 : decode cX7_cost 23 = .ok (.iload_n 2, 1) := by decide +kernel
theorem dX7_cost_24 : decode cX7_cost 24 = .ok (.invokevirtual 211, 3) := by decide +kernel
theorem dX7_cost_27 : decode cX7_cost 27 = .ok (.goto 5, 3) := by decide +kernel
theorem dX7_cost_30 : decode cX7_cost 30 = .ok (.ldc 66, 2) := by decide +kernel
theorem dX7_cost_32 : decode cX7_cost 32 = .ok (.ireturn, 1) := by decide +kernel
theorem dX7_queue_0 : decode cX7_queue 0 = .ok (.aload_n 0, 1) := by decide +kernel
theorem dX7_queue_1 : decode cX7_queue 1 = .ok (.getfield 26, 3) := by decide +kernel
theorem dX7_queue_4 : decode cX7_queue 4 = .ok (.invokevirtual 139, 3) := by decide +kernel
theorem dX7_queue_7 : decode cX7_queue 7 = .ok (.ifCond .ne 6, 3) := by decide +kernel
theorem dX7_queue_10 : decode cX7_queue 10 = .ok (.ldc 132, 2) := by decide +kernel
theorem dX7_queue_12 : decode cX7_queue 12 = .ok (.ireturn, 1) := by decide +kernel
theorem dX7_queue_13 : decode cX7_queue 13 = .ok (.iload_n 1, 1) := by decide +kernel
theorem dX7_queue_14 : decode cX7_queue 14 = .ok (.ifCond .ge 8, 3) := by decide +kernel
theorem dX7_queue_17 : decode cX7_queue 17 = .ok (.ldc 66, 2) := by decide +kernel
theorem dX7_queue_19 : decode cX7_queue 19 = .ok (.goto 11, 3) := by decide +kernel
theorem dX7_queue_22 : decode cX7_queue 22 = .ok (.aload_n 0, 1) := by decide +kernel
theorem dX7_queue_23 : decode cX7_queue 23 = .ok (.getfield 26, 3) := by decide +kernel
theorem dX7_queue_26 : decode cX7_queue 26 = .ok (.iload_n 1, 1) := by decide +kernel
theorem dX7_queue_27 : decode cX7_queue 27 = .ok (.invokevirtual 215, 3) := by decide +kernel
theorem dX7_queue_30 : decode cX7_queue 30 = .ok (.ireturn, 1) := by decide +kernel
theorem dX7_ahead_0 : decode cX7_ahead 0 = .ok (.aload_n 0, 1) := by decide +kernel
theorem dX7_ahead_1 : decode cX7_ahead 1 = .ok (.getfield 26, 3) := by decide +kernel
theorem dX7_ahead_4 : decode cX7_ahead 4 = .ok (.iload_n 1, 1) := by decide +kernel
theorem dX7_ahead_5 : decode cX7_ahead 5 = .ok (.invokevirtual 155, 3) := by decide +kernel
theorem dX7_ahead_8 : decode cX7_ahead 8 = .ok (.ifCond .eq 10, 3) := by decide +kernel
theorem dX7_ahead_11 : decode cX7_ahead 11 = .ok (.iload_n 2, 1) := by decide +kernel
theorem dX7_ahead_12 : decode cX7_ahead 12 = .ok (.invokestatic 218, 3) := by decide +kernel
theorem dX7_ahead_15 : decode cX7_ahead 15 = .ok (.ifCond .ne 6, 3) := by decide +kernel
theorem dX7_ahead_18 : decode cX7_ahead 18 = .ok (.ldc 66, 2) := by decide +kernel
theorem dX7_ahead_20 : decode cX7_ahead 20 = .ok (.ireturn, 1) := by decide +kernel
theorem dX7_ahead_21 : decode cX7_ahead 21 = .ok (.aload_n 0, 1) := by decide +kernel
theorem dX7_ahead_22 : decode cX7_ahead 22 = .ok (.getfield 44, 3) := by decide +kernel
theorem dX7_ahead_25 : decode cX7_ahead 25 = .ok (.aload_n 0, 1) := by decide +kernel
theorem dX7_ahead_26 : decode cX7_ahead 26 = .ok (.getfield 26, 3) := by decide +kernel
theorem dX7_ahead_29 : decode cX7_ahead 29 = .ok (.iload_n 2, 1) := by decide +kernel
theorem dX7_ahead_30 : decode cX7_ahead 30 = .ok (.invokevirtual 221, 3) := by decide +kernel
theorem dX7_ahead_33 : decode cX7_ahead 33 = .ok (.getfield 193, 3) := by decide +kernel
theorem dX7_ahead_36 : decode cX7_ahead 36 = .ok (.iload_n 1, 1) := by decide +kernel
theorem dX7_ahead_37 : decode cX7_ahead 37 = .ok (.iaload, 1) := by decide +kernel
theorem dX7_ahead_38 : decode cX7_ahead 38 = .ok (.ireturn, 1) := by decide +kernel
theorem dX7_waiting_0 : decode cX7_waiting 0 = .ok (.aload_n 0, 1) := by decide +kernel
theorem dX7_waiting_1 : decode cX7_waiting 1 = .ok (.getfield 26, 3) := by decide +kernel
theorem dX7_waiting_4 : decode cX7_waiting 4 = .ok (.invokevirtual 139, 3) := by decide +kernel
theorem dX7_waiting_7 : decode cX7_waiting 7 = .ok (.ifCond .ne 6, 3) := by decide +kernel
theorem dX7_waiting_10 : decode cX7_waiting 10 = .ok (.ldc 132, 2) := by decide +kernel
theorem dX7_waiting_12 : decode cX7_waiting 12 = .ok (.ireturn, 1) := by decide +kernel
theorem dX7_waiting_13 : decode cX7_waiting 13 = .ok (.iload_n 1, 1) := by decide +kernel
theorem dX7_waiting_14 : decode cX7_waiting 14 = .ok (.invokestatic 218, 3) := by decide +kernel
theorem dX7_waiting_17 : decode cX7_waiting 17 = .ok (.ifCond .eq 21, 3) := by decide +kernel
theorem dX7_waiting_20 : decode cX7_waiting 20 = .ok (.aload_n 0, 1) := by decide +kernel
theorem dX7_waiting_21 : decode cX7_waiting 21 = .ok (.getfield 44, 3) := by decide +kernel
theorem dX7_waiting_24 : decode cX7_waiting 24 = .ok (.aload_n 0, 1) := by decide +kernel
theorem dX7_waiting_25 : decode cX7_waiting 25 = .ok (.getfield 26, 3) := by decide +kernel
theorem dX7_waiting_28 : decode cX7_waiting 28 = .ok (.iload_n 1, 1) := by decide +kernel
theorem dX7_waiting_29 : decode cX7_waiting 29 = .ok (.invokevirtual 221, 3) := by decide +kernel
theorem dX7_waiting_32 : decode cX7_waiting 32 = .ok (.invokevirtual 225, 3) := by decide +kernel
theorem dX7_waiting_35 : decode cX7_waiting 35 = .ok (.goto 5, 3) := by decide +kernel
theorem dX7_waiting_38 : decode cX7_waiting 38 = .ok (.ldc 66, 2) := by decide +kernel
theorem dX7_waiting_40 : decode cX7_waiting 40 = .ok (.ireturn, 1) := by decide +kernel
theorem dX7_server_0 : decode cX7_server 0 = .ok (.aload_n 0, 1) := by decide +kernel
theorem dX7_server_1 : decode cX7_server 1 = .ok (.getfield 26, 3) := by decide +kernel
theorem dX7_server_4 : decode cX7_server 4 = .ok (.iload_n 1, 1) := by decide +kernel
theorem dX7_server_5 : decode cX7_server 5 = .ok (.invokevirtual 199, 3) := by decide +kernel
theorem dX7_server_8 : decode cX7_server 8 = .ok (.ifCond .ne 6, 3) := by decide +kernel
theorem dX7_server_11 : decode cX7_server 11 = .ok (.ldc 66, 2) := by decide +kernel
theorem dX7_server_13 : decode cX7_server 13 = .ok (.ireturn, 1) := by decide +kernel
theorem dX7_server_14 : decode cX7_server 14 = .ok (.aload_n 0, 1) := by decide +kernel
theorem dX7_server_15 : decode cX7_server 15 = .ok (.getfield 26, 3) := by decide +kernel
theorem dX7_server_18 : decode cX7_server 18 = .ok (.iload_n 1, 1) := by decide +kernel
theorem dX7_server_19 : decode cX7_server 19 = .ok (.invokevirtual 208, 3) := by decide +kernel
theorem dX7_server_22 : decode cX7_server 22 = .ok (.ldc 228, 2) := by decide +kernel
theorem dX7_server_24 : decode cX7_server 24 = .ok (.if_icmp .ne 8, 3) := by decide +kernel
theorem dX7_server_27 : decode cX7_server 27 = .ok (.ldc 132, 2) := by decide +kernel
theorem dX7_server_29 : decode cX7_server 29 = .ok (.goto 15, 3) := by decide +kernel
theorem dX7_server_32 : decode cX7_server 32 = .ok (.aload_n 0, 1) := by decide +kernel
theorem dX7_server_33 : decode cX7_server 33 = .ok (.getfield 44, 3) := by decide +kernel
theorem dX7_server_36 : decode cX7_server 36 = .ok (.aload_n 0, 1) := by decide +kernel
theorem dX7_server_37 : decode cX7_server 37 = .ok (.getfield 26, 3) := by decide +kernel
theorem dX7_server_40 : decode cX7_server 40 = .ok (.iload_n 1, 1) := by decide +kernel
theorem dX7_server_41 : decode cX7_server 41 = .ok (.invokevirtual 229, 3) := by decide +kernel
theorem dX7_server_44 : decode cX7_server 44 = .ok (.ireturn, 1) := by decide +kernel
theorem dX7_holds_0 : decode cX7_holds 0 = .ok (.aload_n 0, 1) := by decide +kernel
theorem dX7_holds_1 : decode cX7_holds 1 = .ok (.getfield 26, 3) := by decide +kernel
theorem dX7_holds_4 : decode cX7_holds 4 = .ok (.invokevirtual 139, 3) := by decide +kernel
theorem dX7_holds_7 : decode cX7_holds 7 = .ok (.ifCond .eq 17, 3) := by decide +kernel
theorem dX7_holds_10 : decode cX7_holds 10 = .ok (.aload_n 0, 1) := by decide +kernel
theorem dX7_holds_11 : decode cX7_holds 11 = .ok (.getfield 44, 3) := by decide +kernel
theorem dX7_holds_14 : decode cX7_holds 14 = .ok (.aload_n 0, 1) := by decide +kernel
theorem dX7_holds_15 : decode cX7_holds 15 = .ok (.getfield 26, 3) := by decide +kernel
theorem dX7_holds_18 : decode cX7_holds 18 = .ok (.invokevirtual 233, 3) := by decide +kernel
theorem dX7_holds_21 : decode cX7_holds 21 = .ok (.goto 5, 3) := by decide +kernel
theorem dX7_holds_24 : decode cX7_holds 24 = .ok (.ldc 132, 2) := by decide +kernel
theorem dX7_holds_26 : decode cX7_holds 26 = .ok (.ireturn, 1) := by decide +kernel
theorem dX7_infant_0 : decode cX7_infant 0 = .ok (.aload_n 0, 1) := by decide +kernel
theorem dX7_infant_1 : decode cX7_infant 1 = .ok (.getfield 26, 3) := by decide +kernel
theorem dX7_infant_4 : decode cX7_infant 4 = .ok (.invokevirtual 139, 3) := by decide +kernel
theorem dX7_infant_7 : decode cX7_infant 7 = .ok (.ifCond .eq 17, 3) := by decide +kernel
theorem dX7_infant_10 : decode cX7_infant 10 = .ok (.aload_n 0, 1) := by decide +kernel
theorem dX7_infant_11 : decode cX7_infant 11 = .ok (.getfield 44, 3) := by decide +kernel
theorem dX7_infant_14 : decode cX7_infant 14 = .ok (.aload_n 0, 1) := by decide +kernel
theorem dX7_infant_15 : decode cX7_infant 15 = .ok (.getfield 26, 3) := by decide +kernel
theorem dX7_infant_18 : decode cX7_infant 18 = .ok (.invokevirtual 237, 3) := by decide +kernel
theorem dX7_infant_21 : decode cX7_infant 21 = .ok (.goto 5, 3) := by decide +kernel
theorem dX7_infant_24 : decode cX7_infant 24 = .ok (.ldc 132, 2) := by decide +kernel
theorem dX7_infant_26 : decode cX7_infant 26 = .ok (.ireturn, 1) := by decide +kernel
theorem dX7_order_0 : decode cX7_order 0 = .ok (.aload_n 0, 1) := by decide +kernel
theorem dX7_order_1 : decode cX7_order 1 = .ok (.getfield 26, 3) := by decide +kernel
theorem dX7_order_4 : decode cX7_order 4 = .ok (.invokevirtual 139, 3) := by decide +kernel
theorem dX7_order_7 : decode cX7_order 7 = .ok (.ifCond .ne 6, 3) := by decide +kernel
theorem dX7_order_10 : decode cX7_order 10 = .ok (.ldc 132, 2) := by decide +kernel
theorem dX7_order_12 : decode cX7_order 12 = .ok (.ireturn, 1) := by decide +kernel
theorem dX7_order_13 : decode cX7_order 13 = .ok (.iload_n 1, 1) := by decide +kernel
theorem dX7_order_14 : decode cX7_order 14 = .ok (.bipush (-2), 2) := by decide +kernel
theorem dX7_order_16 : decode cX7_order 16 = .ok (.if_icmp .ge 6, 3) := by decide +kernel
theorem dX7_order_19 : decode cX7_order 19 = .ok (.ldc 66, 2) := by decide +kernel
theorem dX7_order_21 : decode cX7_order 21 = .ok (.ireturn, 1) := by decide +kernel
theorem dX7_order_22 : decode cX7_order 22 = .ok (.aload_n 0, 1) := by decide +kernel
theorem dX7_order_23 : decode cX7_order 23 = .ok (.getfield 51, 3) := by decide +kernel
theorem dX7_order_26 : decode cX7_order 26 = .ok (.aload_n 0, 1) := by decide +kernel
theorem dX7_order_27 : decode cX7_order 27 = .ok (.getfield 26, 3) := by decide +kernel
theorem dX7_order_30 : decode cX7_order 30 = .ok (.invokevirtual 240, 3) := by decide +kernel
theorem dX7_order_33 : decode cX7_order 33 = .ok (.iload_n 1, 1) := by decide +kernel
theorem dX7_order_34 : decode cX7_order 34 = .ok (.bipush (-2), 2) := by decide +kernel
theorem dX7_order_36 : decode cX7_order 36 = .ok (.if_icmp .ne 11, 3) := by decide +kernel
theorem dX7_order_39 : decode cX7_order 39 = .ok (.aload_n 0, 1) := by decide +kernel
theorem dX7_order_40 : decode cX7_order 40 = .ok (.getfield 51, 3) := by decide +kernel
theorem dX7_order_43 : decode cX7_order 43 = .ok (.getfield 243, 3) := by decide +kernel
theorem dX7_order_46 : decode cX7_order 46 = .ok (.ireturn, 1) := by decide +kernel
theorem dX7_order_47 : decode cX7_order 47 = .ok (.iload_n 1, 1) := by decide +kernel
theorem dX7_order_48 : decode cX7_order 48 = .ok (.iconst (-1), 1) := by decide +kernel
theorem dX7_order_49 : decode cX7_order 49 = .ok (.if_icmp .ne 13, 3) := by decide +kernel
theorem dX7_order_52 : decode cX7_order 52 = .ok (.aload_n 0, 1) := by decide +kernel
theorem dX7_order_53 : decode cX7_order 53 = .ok (.getfield 51, 3) := by decide +kernel
theorem dX7_order_56 : decode cX7_order 56 = .ok (.getfield 246, 3) := by decide +kernel
theorem dX7_order_59 : decode cX7_order 59 = .ok (.goto 11, 3) := by decide +kernel
theorem dX7_order_62 : decode cX7_order 62 = .ok (.aload_n 0, 1) := by decide +kernel
theorem dX7_order_63 : decode cX7_order 63 = .ok (.getfield 51, 3) := by decide +kernel
theorem dX7_order_66 : decode cX7_order 66 = .ok (.iload_n 1, 1) := by decide +kernel
theorem dX7_order_67 : decode cX7_order 67 = .ok (.invokevirtual 249, 3) := by decide +kernel
theorem dX7_order_70 : decode cX7_order 70 = .ok (.ireturn, 1) := by decide +kernel
theorem dX7_share_0 : decode cX7_share 0 = .ok (.aload_n 0, 1) := by decide +kernel
theorem dX7_share_1 : decode cX7_share 1 = .ok (.getfield 26, 3) := by decide +kernel
theorem dX7_share_4 : decode cX7_share 4 = .ok (.invokevirtual 139, 3) := by decide +kernel
theorem dX7_share_7 : decode cX7_share 7 = .ok (.ifCond .ne 6, 3) := by decide +kernel
theorem dX7_share_10 : decode cX7_share 10 = .ok (.ldc 132, 2) := by decide +kernel
theorem dX7_share_12 : decode cX7_share 12 = .ok (.ireturn, 1) := by decide +kernel
theorem dX7_share_13 : decode cX7_share 13 = .ok (.iload_n 1, 1) := by decide +kernel
theorem dX7_share_14 : decode cX7_share 14 = .ok (.iconst (-1), 1) := by decide +kernel
theorem dX7_share_15 : decode cX7_share 15 = .ok (.if_icmp .ge 6, 3) := by decide +kernel
theorem dX7_share_18 : decode cX7_share 18 = .ok (.ldc 66, 2) := by decide +kernel
theorem dX7_share_20 : decode cX7_share 20 = .ok (.ireturn, 1) := by decide +kernel
theorem dX7_share_21 : decode cX7_share 21 = .ok (.aload_n 0, 1) := by decide +kernel
theorem dX7_share_22 : decode cX7_share 22 = .ok (.getfield 51, 3) := by decide +kernel
theorem dX7_share_25 : decode cX7_share 25 = .ok (.aload_n 0, 1) := by decide +kernel
theorem dX7_share_26 : decode cX7_share 26 = .ok (.getfield 26, 3) := by decide +kernel
theorem dX7_share_29 : decode cX7_share 29 = .ok (.invokevirtual 252, 3) := by decide +kernel
theorem dX7_share_32 : decode cX7_share 32 = .ok (.iload_n 1, 1) := by decide +kernel
theorem dX7_share_33 : decode cX7_share 33 = .ok (.iconst (-1), 1) := by decide +kernel
theorem dX7_share_34 : decode cX7_share 34 = .ok (.if_icmp .ne 13, 3) := by decide +kernel
theorem dX7_share_37 : decode cX7_share 37 = .ok (.aload_n 0, 1) := by decide +kernel
theorem dX7_share_38 : decode cX7_share 38 = .ok (.getfield 51, 3) := by decide +kernel
theorem dX7_share_41 : decode cX7_share 41 = .ok (.getfield 255, 3) := by decide +kernel
theorem dX7_share_44 : decode cX7_share 44 = .ok (.goto 11, 3) := by decide +kernel
theorem dX7_share_47 : decode cX7_share 47 = .ok (.aload_n 0, 1) := by decide +kernel
theorem dX7_share_48 : decode cX7_share 48 = .ok (.getfield 51, 3) := by decide +kernel
theorem dX7_share_51 : decode cX7_share 51 = .ok (.iload_n 1, 1) := by decide +kernel
theorem dX7_share_52 : decode cX7_share 52 = .ok (.invokevirtual 258, 3) := by decide +kernel
theorem dX7_share_55 : decode cX7_share 55 = .ok (.ireturn, 1) := by decide +kernel
theorem dX7_open_0 : decode cX7_open 0 = .ok (.aload_n 0, 1) := by decide +kernel
theorem dX7_open_1 : decode cX7_open 1 = .ok (.getfield 26, 3) := by decide +kernel
theorem dX7_open_4 : decode cX7_open 4 = .ok (.invokevirtual 139, 3) := by decide +kernel
theorem dX7_open_7 : decode cX7_open 7 = .ok (.ifCond .ne 6, 3) := by decide +kernel
theorem dX7_open_10 : decode cX7_open 10 = .ok (.ldc 132, 2) := by decide +kernel
theorem dX7_open_12 : decode cX7_open 12 = .ok (.ireturn, 1) := by decide +kernel
theorem dX7_open_13 : decode cX7_open 13 = .ok (.iload_n 1, 1) := by decide +kernel
theorem dX7_open_14 : decode cX7_open 14 = .ok (.invokestatic 158, 3) := by decide +kernel
theorem dX7_open_17 : decode cX7_open 17 = .ok (.ifCond .ne 6, 3) := by decide +kernel
theorem dX7_open_20 : decode cX7_open 20 = .ok (.ldc 66, 2) := by decide +kernel
theorem dX7_open_22 : decode cX7_open 22 = .ok (.ireturn, 1) := by decide +kernel
theorem dX7_open_23 : decode cX7_open 23 = .ok (.aload_n 0, 1) := by decide +kernel
theorem dX7_open_24 : decode cX7_open 24 = .ok (.getfield 44, 3) := by decide +kernel
theorem dX7_open_27 : decode cX7_open 27 = .ok (.aload_n 0, 1) := by decide +kernel
theorem dX7_open_28 : decode cX7_open 28 = .ok (.getfield 26, 3) := by decide +kernel
theorem dX7_open_31 : decode cX7_open 31 = .ok (.invokevirtual 261, 3) := by decide +kernel
theorem dX7_open_34 : decode cX7_open 34 = .ok (.istore_n 2, 1) := by decide +kernel
theorem dX7_open_35 : decode cX7_open 35 = .ok (.iload_n 1, 1) := by decide +kernel
theorem dX7_open_36 : decode cX7_open 36 = .ok (.iconst 1, 1) := by decide +kernel
theorem dX7_open_37 : decode cX7_open 37 = .ok (.if_icmp .eq 9, 3) := by decide +kernel
theorem dX7_open_40 : decode cX7_open 40 = .ok (.iload_n 2, 1) := by decide +kernel
theorem dX7_open_41 : decode cX7_open 41 = .ok (.ldc 228, 2) := by decide +kernel
theorem dX7_open_43 : decode cX7_open 43 = .ok (.if_icmp .ne 7, 3) := by decide +kernel
theorem dX7_open_46 : decode cX7_open 46 = .ok (.iload_n 2, 1) := by decide +kernel
theorem dX7_open_47 : decode cX7_open 47 = .ok (.goto 7, 3) := by decide +kernel
theorem dX7_open_50 : decode cX7_open 50 = .ok (.iload_n 2, 1) := by decide +kernel
theorem dX7_open_51 : decode cX7_open 51 = .ok (.invokestatic 264, 3) := by decide +kernel
theorem dX7_open_54 : decode cX7_open 54 = .ok (.ireturn, 1) := by decide +kernel
theorem dX7_cheap_0 : decode cX7_cheap 0 = .ok (.aload_n 0, 1) := by decide +kernel
theorem dX7_cheap_1 : decode cX7_cheap 1 = .ok (.getfield 26, 3) := by decide +kernel
theorem dX7_cheap_4 : decode cX7_cheap 4 = .ok (.invokevirtual 139, 3) := by decide +kernel
theorem dX7_cheap_7 : decode cX7_cheap 7 = .ok (.ifCond .ne 6, 3) := by decide +kernel
theorem dX7_cheap_10 : decode cX7_cheap 10 = .ok (.ldc 132, 2) := by decide +kernel
theorem dX7_cheap_12 : decode cX7_cheap 12 = .ok (.ireturn, 1) := by decide +kernel
theorem dX7_cheap_13 : decode cX7_cheap 13 = .ok (.iload_n 1, 1) := by decide +kernel
theorem dX7_cheap_14 : decode cX7_cheap 14 = .ok (.invokestatic 167, 3) := by decide +kernel
theorem dX7_cheap_17 : decode cX7_cheap 17 = .ok (.ifCond .eq 10, 3) := by decide +kernel
theorem dX7_cheap_20 : decode cX7_cheap 20 = .ok (.iload_n 2, 1) := by decide +kernel
theorem dX7_cheap_21 : decode cX7_cheap 21 = .ok (.invokestatic 158, 3) := by decide +kernel
theorem dX7_cheap_24 : decode cX7_cheap 24 = .ok (.ifCond .ne 6, 3) := by decide +kernel
theorem dX7_cheap_27 : decode cX7_cheap 27 = .ok (.ldc 66, 2) := by decide +kernel
theorem dX7_cheap_29 : decode cX7_cheap 29 = .ok (.ireturn, 1) := by decide +kernel
theorem dX7_cheap_30 : decode cX7_cheap 30 = .ok (.aload_n 0, 1) := by decide +kernel
theorem dX7_cheap_31 : decode cX7_cheap 31 = .ok (.getfield 26, 3) := by decide +kernel
theorem dX7_cheap_34 : decode cX7_cheap 34 = .ok (.iload_n 1, 1) := by decide +kernel
theorem dX7_cheap_35 : decode cX7_cheap 35 = .ok (.invokevirtual 269, 3) := by decide +kernel
theorem dX7_cheap_38 : decode cX7_cheap 38 = .ok (.istore_n 3, 1) := by decide +kernel
theorem dX7_cheap_39 : decode cX7_cheap 39 = .ok (.iload_n 2, 1) := by decide +kernel
theorem dX7_cheap_40 : decode cX7_cheap 40 = .ok (.ifCond .ne 7, 3) := by decide +kernel
theorem dX7_cheap_43 : decode cX7_cheap 43 = .ok (.iload_n 3, 1) := by decide +kernel
theorem dX7_cheap_44 : decode cX7_cheap 44 = .ok (.goto 12, 3) := by decide +kernel
theorem dX7_cheap_47 : decode cX7_cheap 47 = .ok (.aload_n 0, 1) := by decide +kernel
theorem dX7_cheap_48 : decode cX7_cheap 48 = .ok (.getfield 26, 3) := by decide +kernel
theorem dX7_cheap_51 : decode cX7_cheap 51 = .ok (.iload_n 3, 1) := by decide +kernel
theorem dX7_cheap_52 : decode cX7_cheap 52 = .ok (.iload_n 1, 1) := by decide +kernel
theorem dX7_cheap_53 : decode cX7_cheap 53 = .ok (.invokevirtual 211, 3) := by decide +kernel
theorem dX7_cheap_56 : decode cX7_cheap 56 = .ok (.ireturn, 1) := by decide +kernel
theorem dX7_most_0 : decode cX7_most 0 = .ok (.aload_n 0, 1) := by decide +kernel
theorem dX7_most_1 : decode cX7_most 1 = .ok (.getfield 26, 3) := by decide +kernel
theorem dX7_most_4 : decode cX7_most 4 = .ok (.invokevirtual 139, 3) := by decide +kernel
theorem dX7_most_7 : decode cX7_most 7 = .ok (.ifCond .eq 13, 3) := by decide +kernel
theorem dX7_most_10 : decode cX7_most 10 = .ok (.aload_n 0, 1) := by decide +kernel
theorem dX7_most_11 : decode cX7_most 11 = .ok (.getfield 26, 3) := by decide +kernel
theorem dX7_most_14 : decode cX7_most 14 = .ok (.invokevirtual 272, 3) := by decide +kernel
theorem dX7_most_17 : decode cX7_most 17 = .ok (.goto 5, 3) := by decide +kernel
theorem dX7_most_20 : decode cX7_most 20 = .ok (.ldc 132, 2) := by decide +kernel
theorem dX7_most_22 : decode cX7_most 22 = .ok (.ireturn, 1) := by decide +kernel
theorem dX7_twins_0 : decode cX7_twins 0 = .ok (.aload_n 0, 1) := by decide +kernel
theorem dX7_twins_1 : decode cX7_twins 1 = .ok (.getfield 26, 3) := by decide +kernel
theorem dX7_twins_4 : decode cX7_twins 4 = .ok (.invokevirtual 139, 3) := by decide +kernel
theorem dX7_twins_7 : decode cX7_twins 7 = .ok (.ifCond .ne 6, 3) := by decide +kernel
theorem dX7_twins_10 : decode cX7_twins 10 = .ok (.ldc 132, 2) := by decide +kernel
theorem dX7_twins_12 : decode cX7_twins 12 = .ok (.ireturn, 1) := by decide +kernel
theorem dX7_twins_13 : decode cX7_twins 13 = .ok (.iload_n 1, 1) := by decide +kernel
theorem dX7_twins_14 : decode cX7_twins 14 = .ok (.invokestatic 158, 3) := by decide +kernel
theorem dX7_twins_17 : decode cX7_twins 17 = .ok (.ifCond .ne 6, 3) := by decide +kernel
theorem dX7_twins_20 : decode cX7_twins 20 = .ok (.ldc 66, 2) := by decide +kernel
theorem dX7_twins_22 : decode cX7_twins 22 = .ok (.ireturn, 1) := by decide +kernel
theorem dX7_twins_23 : decode cX7_twins 23 = .ok (.iload_n 1, 1) := by decide +kernel
theorem dX7_twins_24 : decode cX7_twins 24 = .ok (.ifCond .ne 13, 3) := by decide +kernel
theorem dX7_twins_27 : decode cX7_twins 27 = .ok (.aload_n 0, 1) := by decide +kernel
theorem dX7_twins_28 : decode cX7_twins 28 = .ok (.getfield 26, 3) := by decide +kernel
theorem dX7_twins_31 : decode cX7_twins 31 = .ok (.invokevirtual 275, 3) := by decide +kernel
theorem dX7_twins_34 : decode cX7_twins 34 = .ok (.goto 10, 3) := by decide +kernel
theorem dX7_twins_37 : decode cX7_twins 37 = .ok (.aload_n 0, 1) := by decide +kernel
theorem dX7_twins_38 : decode cX7_twins 38 = .ok (.getfield 26, 3) := by decide +kernel
theorem dX7_twins_41 : decode cX7_twins 41 = .ok (.invokevirtual 278, 3) := by decide +kernel
theorem dX7_twins_44 : decode cX7_twins 44 = .ok (.ireturn, 1) := by decide +kernel
theorem dX7_who_0 : decode cX7_who 0 = .ok (.aload_n 0, 1) := by decide +kernel
theorem dX7_who_1 : decode cX7_who 1 = .ok (.getfield 26, 3) := by decide +kernel
theorem dX7_who_4 : decode cX7_who 4 = .ok (.iload_n 1, 1) := by decide +kernel
theorem dX7_who_5 : decode cX7_who 5 = .ok (.invokevirtual 155, 3) := by decide +kernel
theorem dX7_who_8 : decode cX7_who 8 = .ok (.ifCond .eq 37, 3) := by decide +kernel
theorem dX7_who_11 : decode cX7_who 11 = .ok (.iload_n 2, 1) := by decide +kernel
theorem dX7_who_12 : decode cX7_who 12 = .ok (.invokestatic 158, 3) := by decide +kernel
theorem dX7_who_15 : decode cX7_who 15 = .ok (.ifCond .eq 30, 3) := by decide +kernel
theorem dX7_who_18 : decode cX7_who 18 = .ok (.aload_n 0, 1) := by decide +kernel
theorem dX7_who_19 : decode cX7_who 19 = .ok (.getfield 26, 3) := by decide +kernel
theorem dX7_who_22 : decode cX7_who 22 = .ok (.iload_n 3, 1) := by decide +kernel
theorem dX7_who_23 : decode cX7_who 23 = .ok (.invokevirtual 155, 3) := by decide +kernel
theorem dX7_who_26 : decode cX7_who 26 = .ok (.ifCond .eq 19, 3) := by decide +kernel
theorem dX7_who_29 : decode cX7_who 29 = .ok (.iload 4, 2) := by decide +kernel
theorem dX7_who_31 : decode cX7_who 31 = .ok (.invokestatic 62, 3) := by decide +kernel
theorem dX7_who_34 : decode cX7_who 34 = .ok (.ifCond .eq 11, 3) := by decide +kernel
theorem dX7_who_37 : decode cX7_who 37 = .ok (.iload 6, 2) := by decide +kernel
theorem dX7_who_39 : decode cX7_who 39 = .ok (.invokestatic 281, 3) := by decide +kernel
theorem dX7_who_42 : decode cX7_who 42 = .ok (.ifCond .ne 6, 3) := by decide +kernel
theorem dX7_who_45 : decode cX7_who 45 = .ok (.ldc 66, 2) := by decide +kernel
theorem dX7_who_47 : decode cX7_who 47 = .ok (.ireturn, 1) := by decide +kernel
theorem dX7_who_48 : decode cX7_who 48 = .ok (.aload_n 0, 1) := by decide +kernel
theorem dX7_who_49 : decode cX7_who 49 = .ok (.getfield 10, 3) := by decide +kernel
theorem dX7_who_52 : decode cX7_who 52 = .ok (.iload 4, 2) := by decide +kernel
theorem dX7_who_54 : decode cX7_who 54 = .ok (.iload 5, 2) := by decide +kernel
theorem dX7_who_56 : decode cX7_who 56 = .ok (.iload 6, 2) := by decide +kernel
theorem dX7_who_58 : decode cX7_who 58 = .ok (.invokevirtual 78, 3) := by decide +kernel
theorem dX7_who_61 : decode cX7_who 61 = .ok (.istore 7, 2) := by decide +kernel
theorem dX7_who_63 : decode cX7_who 63 = .ok (.iload 7, 2) := by decide +kernel
theorem dX7_who_65 : decode cX7_who 65 = .ok (.ifCond .eq 10, 3) := by decide +kernel
theorem dX7_who_68 : decode cX7_who 68 = .ok (.aload_n 0, 1) := by decide +kernel
theorem dX7_who_69 : decode cX7_who 69 = .ok (.iload 7, 2) := by decide +kernel
theorem dX7_who_71 : decode cX7_who 71 = .ok (.invokevirtual 67, 3) := by decide +kernel
theorem dX7_who_74 : decode cX7_who 74 = .ok (.ireturn, 1) := by decide +kernel
theorem dX7_who_75 : decode cX7_who 75 = .ok (.aload_n 0, 1) := by decide +kernel
theorem dX7_who_76 : decode cX7_who 76 = .ok (.getfield 44, 3) := by decide +kernel
theorem dX7_who_79 : decode cX7_who 79 = .ok (.iload_n 3, 1) := by decide +kernel
theorem dX7_who_80 : decode cX7_who 80 = .ok (.aload_n 0, 1) := by decide +kernel
theorem dX7_who_81 : decode cX7_who 81 = .ok (.getfield 10, 3) := by decide +kernel
theorem dX7_who_84 : decode cX7_who 84 = .ok (.iload 4, 2) := by decide +kernel
theorem dX7_who_86 : decode cX7_who 86 = .ok (.iload 5, 2) := by decide +kernel
theorem dX7_who_88 : decode cX7_who 88 = .ok (.iload 6, 2) := by decide +kernel
theorem dX7_who_90 : decode cX7_who 90 = .ok (.invokevirtual 284, 3) := by decide +kernel
theorem dX7_who_93 : decode cX7_who 93 = .ok (.aload_n 0, 1) := by decide +kernel
theorem dX7_who_94 : decode cX7_who 94 = .ok (.iload_n 2, 1) := by decide +kernel
theorem dX7_who_95 : decode cX7_who 95 = .ok (.ifCond .ne 18, 3) := by decide +kernel
theorem dX7_who_98 : decode cX7_who 98 = .ok (.aload_n 0, 1) := by decide +kernel
theorem dX7_who_99 : decode cX7_who 99 = .ok (.getfield 44, 3) := by decide +kernel
theorem dX7_who_102 : decode cX7_who 102 = .ok (.aload_n 0, 1) := by decide +kernel
theorem dX7_who_103 : decode cX7_who 103 = .ok (.getfield 26, 3) := by decide +kernel
theorem dX7_who_106 : decode cX7_who 106 = .ok (.iload_n 1, 1) := by decide +kernel
theorem dX7_who_107 : decode cX7_who 107 = .ok (.invokevirtual 288, 3) := by decide +kernel
theorem dX7_who_110 : decode cX7_who 110 = .ok (.goto 15, 3) := by decide +kernel
theorem dX7_who_113 : decode cX7_who 113 = .ok (.aload_n 0, 1) := by decide +kernel
theorem dX7_who_114 : decode cX7_who 114 = .ok (.getfield 44, 3) := by decide +kernel
theorem dX7_who_117 : decode cX7_who 117 = .ok (.aload_n 0, 1) := by decide +kernel
theorem dX7_who_118 : decode cX7_who 118 = .ok (.getfield 26, 3) := by decide +kernel
theorem dX7_who_121 : decode cX7_who 121 = .ok (.iload_n 1, 1) := by decide +kernel
theorem dX7_who_122 : decode cX7_who 122 = .ok (.invokevirtual 291, 3) := by decide +kernel
theorem dX7_who_125 : decode cX7_who 125 = .ok (.invokevirtual 75, 3) := by decide +kernel
theorem dX7_who_128 : decode cX7_who 128 = .ok (.ireturn, 1) := by decide +kernel
theorem dX7_sums_0 : decode cX7_sums 0 = .ok (.aload_n 0, 1) := by decide +kernel
theorem dX7_sums_1 : decode cX7_sums 1 = .ok (.getfield 26, 3) := by decide +kernel
theorem dX7_sums_4 : decode cX7_sums 4 = .ok (.iload_n 1, 1) := by decide +kernel
theorem dX7_sums_5 : decode cX7_sums 5 = .ok (.invokevirtual 155, 3) := by decide +kernel
theorem dX7_sums_8 : decode cX7_sums 8 = .ok (.ifCond .eq 18, 3) := by decide +kernel
theorem dX7_sums_11 : decode cX7_sums 11 = .ok (.iload_n 2, 1) := by decide +kernel
theorem dX7_sums_12 : decode cX7_sums 12 = .ok (.invokestatic 62, 3) := by decide +kernel
theorem dX7_sums_15 : decode cX7_sums 15 = .ok (.ifCond .eq 11, 3) := by decide +kernel
theorem dX7_sums_18 : decode cX7_sums 18 = .ok (.iload 4, 2) := by decide +kernel
theorem dX7_sums_20 : decode cX7_sums 20 = .ok (.invokestatic 281, 3) := by decide +kernel
theorem dX7_sums_23 : decode cX7_sums 23 = .ok (.ifCond .ne 6, 3) := by decide +kernel
theorem dX7_sums_26 : decode cX7_sums 26 = .ok (.ldc 66, 2) := by decide +kernel
theorem dX7_sums_28 : decode cX7_sums 28 = .ok (.ireturn, 1) := by decide +kernel
theorem dX7_sums_29 : decode cX7_sums 29 = .ok (.aload_n 0, 1) := by decide +kernel
theorem dX7_sums_30 : decode cX7_sums 30 = .ok (.getfield 26, 3) := by decide +kernel
theorem dX7_sums_33 : decode cX7_sums 33 = .ok (.getfield 152, 3) := by decide +kernel
theorem dX7_sums_36 : decode cX7_sums 36 = .ok (.ifCond .ne 6, 3) := by decide +kernel
theorem dX7_sums_39 : decode cX7_sums 39 = .ok (.ldc 132, 2) := by decide +kernel
theorem dX7_sums_41 : decode cX7_sums 41 = .ok (.ireturn, 1) := by decide +kernel
theorem dX7_sums_42 : decode cX7_sums 42 = .ok (.aload_n 0, 1) := by decide +kernel
theorem dX7_sums_43 : decode cX7_sums 43 = .ok (.getfield 10, 3) := by decide +kernel
theorem dX7_sums_46 : decode cX7_sums 46 = .ok (.iload_n 2, 1) := by decide +kernel
theorem dX7_sums_47 : decode cX7_sums 47 = .ok (.iload_n 3, 1) := by decide +kernel
theorem dX7_sums_48 : decode cX7_sums 48 = .ok (.iload 4, 2) := by decide +kernel
theorem dX7_sums_50 : decode cX7_sums 50 = .ok (.invokevirtual 78, 3) := by decide +kernel
theorem dX7_sums_53 : decode cX7_sums 53 = .ok (.istore 5, 2) := by decide +kernel
theorem dX7_sums_55 : decode cX7_sums 55 = .ok (.iload 5, 2) := by decide +kernel
theorem dX7_sums_57 : decode cX7_sums 57 = .ok (.ifCond .eq 10, 3) := by decide +kernel
theorem dX7_sums_60 : decode cX7_sums 60 = .ok (.aload_n 0, 1) := by decide +kernel
theorem dX7_sums_61 : decode cX7_sums 61 = .ok (.iload 5, 2) := by decide +kernel
theorem dX7_sums_63 : decode cX7_sums 63 = .ok (.invokevirtual 67, 3) := by decide +kernel
theorem dX7_sums_66 : decode cX7_sums 66 = .ok (.ireturn, 1) := by decide +kernel
theorem dX7_sums_67 : decode cX7_sums 67 = .ok (.aload_n 0, 1) := by decide +kernel
theorem dX7_sums_68 : decode cX7_sums 68 = .ok (.getfield 44, 3) := by decide +kernel
theorem dX7_sums_71 : decode cX7_sums 71 = .ok (.iload_n 1, 1) := by decide +kernel
theorem dX7_sums_72 : decode cX7_sums 72 = .ok (.aload_n 0, 1) := by decide +kernel
theorem dX7_sums_73 : decode cX7_sums 73 = .ok (.getfield 10, 3) := by decide +kernel
theorem dX7_sums_76 : decode cX7_sums 76 = .ok (.iload_n 2, 1) := by decide +kernel
theorem dX7_sums_77 : decode cX7_sums 77 = .ok (.iload_n 3, 1) := by decide +kernel
theorem dX7_sums_78 : decode cX7_sums 78 = .ok (.iload 4, 2) := by decide +kernel
theorem dX7_sums_80 : decode cX7_sums 80 = .ok (.invokevirtual 284, 3) := by decide +kernel
theorem dX7_sums_83 : decode cX7_sums 83 = .ok (.aload_n 0, 1) := by decide +kernel
theorem dX7_sums_84 : decode cX7_sums 84 = .ok (.aload_n 0, 1) := by decide +kernel
theorem dX7_sums_85 : decode cX7_sums 85 = .ok (.getfield 44, 3) := by decide +kernel
theorem dX7_sums_88 : decode cX7_sums 88 = .ok (.aload_n 0, 1) := by decide +kernel
theorem dX7_sums_89 : decode cX7_sums 89 = .ok (.getfield 26, 3) := by decide +kernel
theorem dX7_sums_92 : decode cX7_sums 92 = .ok (.invokevirtual 294, 3) := by decide +kernel
theorem dX7_sums_95 : decode cX7_sums 95 = .ok (.invokevirtual 75, 3) := by decide +kernel
theorem dX7_sums_98 : decode cX7_sums 98 = .ok (.ireturn, 1) := by decide +kernel
theorem dX7_stayed_0 : decode cX7_stayed 0 = .ok (.aload_n 0, 1) := by decide +kernel
theorem dX7_stayed_1 : decode cX7_stayed 1 = .ok (.getfield 26, 3) := by decide +kernel
theorem dX7_stayed_4 : decode cX7_stayed 4 = .ok (.iload_n 1, 1) := by decide +kernel
theorem dX7_stayed_5 : decode cX7_stayed 5 = .ok (.invokevirtual 155, 3) := by decide +kernel
theorem dX7_stayed_8 : decode cX7_stayed 8 = .ok (.ifCond .eq 18, 3) := by decide +kernel
theorem dX7_stayed_11 : decode cX7_stayed 11 = .ok (.iload_n 2, 1) := by decide +kernel
theorem dX7_stayed_12 : decode cX7_stayed 12 = .ok (.invokestatic 62, 3) := by decide +kernel
theorem dX7_stayed_15 : decode cX7_stayed 15 = .ok (.ifCond .eq 11, 3) := by decide +kernel
theorem dX7_stayed_18 : decode cX7_stayed 18 = .ok (.iload 4, 2) := by decide +kernel
theorem dX7_stayed_20 : decode cX7_stayed 20 = .ok (.invokestatic 281, 3) := by decide +kernel
theorem dX7_stayed_23 : decode cX7_stayed 23 = .ok (.ifCond .ne 6, 3) := by decide +kernel
theorem dX7_stayed_26 : decode cX7_stayed 26 = .ok (.ldc 66, 2) := by decide +kernel
theorem dX7_stayed_28 : decode cX7_stayed 28 = .ok (.ireturn, 1) := by decide +kernel
theorem dX7_stayed_29 : decode cX7_stayed 29 = .ok (.aload_n 0, 1) := by decide +kernel
theorem dX7_stayed_30 : decode cX7_stayed 30 = .ok (.getfield 10, 3) := by decide +kernel
theorem dX7_stayed_33 : decode cX7_stayed 33 = .ok (.iload_n 2, 1) := by decide +kernel
theorem dX7_stayed_34 : decode cX7_stayed 34 = .ok (.iload_n 3, 1) := by decide +kernel
theorem dX7_stayed_35 : decode cX7_stayed 35 = .ok (.iload 4, 2) := by decide +kernel
theorem dX7_stayed_37 : decode cX7_stayed 37 = .ok (.invokevirtual 78, 3) := by decide +kernel
theorem dX7_stayed_40 : decode cX7_stayed 40 = .ok (.istore 5, 2) := by decide +kernel
theorem dX7_stayed_42 : decode cX7_stayed 42 = .ok (.iload 5, 2) := by decide +kernel
theorem dX7_stayed_44 : decode cX7_stayed 44 = .ok (.ifCond .eq 10, 3) := by decide +kernel
theorem dX7_stayed_47 : decode cX7_stayed 47 = .ok (.aload_n 0, 1) := by decide +kernel
theorem dX7_stayed_48 : decode cX7_stayed 48 = .ok (.iload 5, 2) := by decide +kernel
theorem dX7_stayed_50 : decode cX7_stayed 50 = .ok (.invokevirtual 67, 3) := by decide +kernel
theorem dX7_stayed_53 : decode cX7_stayed 53 = .ok (.ireturn, 1) := by decide +kernel
theorem dX7_stayed_54 : decode cX7_stayed 54 = .ok (.aload_n 0, 1) := by decide +kernel
theorem dX7_stayed_55 : decode cX7_stayed 55 = .ok (.getfield 44, 3) := by decide +kernel
theorem dX7_stayed_58 : decode cX7_stayed 58 = .ok (.iload_n 1, 1) := by decide +kernel
theorem dX7_stayed_59 : decode cX7_stayed 59 = .ok (.aload_n 0, 1) := by decide +kernel
theorem dX7_stayed_60 : decode cX7_stayed 60 = .ok (.getfield 10, 3) := by decide +kernel
theorem dX7_stayed_63 : decode cX7_stayed 63 = .ok (.iload_n 2, 1) := by decide +kernel
theorem dX7_stayed_64 : decode cX7_stayed 64 = .ok (.iload_n 3, 1) := by decide +kernel
theorem dX7_stayed_65 : decode cX7_stayed 65 = .ok (.iload 4, 2) := by decide +kernel
theorem dX7_stayed_67 : decode cX7_stayed 67 = .ok (.invokevirtual 284, 3) := by decide +kernel
theorem dX7_stayed_70 : decode cX7_stayed 70 = .ok (.aload_n 0, 1) := by decide +kernel
theorem dX7_stayed_71 : decode cX7_stayed 71 = .ok (.aload_n 0, 1) := by decide +kernel
theorem dX7_stayed_72 : decode cX7_stayed 72 = .ok (.getfield 44, 3) := by decide +kernel
theorem dX7_stayed_75 : decode cX7_stayed 75 = .ok (.aload_n 0, 1) := by decide +kernel
theorem dX7_stayed_76 : decode cX7_stayed 76 = .ok (.getfield 26, 3) := by decide +kernel
theorem dX7_stayed_79 : decode cX7_stayed 79 = .ok (.invokevirtual 297, 3) := by decide +kernel
theorem dX7_stayed_82 : decode cX7_stayed 82 = .ok (.invokevirtual 75, 3) := by decide +kernel
theorem dX7_stayed_85 : decode cX7_stayed 85 = .ok (.ireturn, 1) := by decide +kernel
theorem dX7_away_0 : decode cX7_away 0 = .ok (.aload_n 0, 1) := by decide +kernel
theorem dX7_away_1 : decode cX7_away 1 = .ok (.getfield 26, 3) := by decide +kernel
theorem dX7_away_4 : decode cX7_away 4 = .ok (.invokevirtual 139, 3) := by decide +kernel
theorem dX7_away_7 : decode cX7_away 7 = .ok (.ifCond .ne 7, 3) := by decide +kernel
theorem dX7_away_10 : decode cX7_away 10 = .ok (.ldc2_w 300, 3) := by decide +kernel
theorem dX7_away_13 : decode cX7_away 13 = .ok (.lreturn, 1) := by decide +kernel
theorem dX7_away_14 : decode cX7_away 14 = .ok (.iload_n 1, 1) := by decide +kernel
theorem dX7_away_15 : decode cX7_away 15 = .ok (.ifCond .lt 16, 3) := by decide +kernel
theorem dX7_away_18 : decode cX7_away 18 = .ok (.iload_n 1, 1) := by decide +kernel
theorem dX7_away_19 : decode cX7_away 19 = .ok (.bipush 10, 2) := by decide +kernel
theorem dX7_away_21 : decode cX7_away 21 = .ok (.if_icmp .gt 10, 3) := by decide +kernel
theorem dX7_away_24 : decode cX7_away 24 = .ok (.iload_n 2, 1) := by decide +kernel
theorem dX7_away_25 : decode cX7_away 25 = .ok (.invokestatic 158, 3) := by decide +kernel
theorem dX7_away_28 : decode cX7_away 28 = .ok (.ifCond .ne 7, 3) := by decide +kernel
theorem dX7_away_31 : decode cX7_away 31 = .ok (.ldc2_w 302, 3) := by decide +kernel
theorem dX7_away_34 : decode cX7_away 34 = .ok (.lreturn, 1) := by decide +kernel
theorem dX7_away_35 : decode cX7_away 35 = .ok (.aload_n 0, 1) := by decide +kernel
theorem dX7_away_36 : decode cX7_away 36 = .ok (.getfield 44, 3) := by decide +kernel
theorem dX7_away_39 : decode cX7_away 39 = .ok (.aload_n 0, 1) := by decide +kernel
theorem dX7_away_40 : decode cX7_away 40 = .ok (.getfield 26, 3) := by decide +kernel
theorem dX7_away_43 : decode cX7_away 43 = .ok (.iload_n 1, 1) := by decide +kernel
theorem dX7_away_44 : decode cX7_away 44 = .ok (.invokevirtual 304, 3) := by decide +kernel
theorem dX7_away_47 : decode cX7_away 47 = .ok (.lstore_n 3, 1) := by decide +kernel
theorem dX7_away_48 : decode cX7_away 48 = .ok (.bipush 10, 2) := by decide +kernel
theorem dX7_away_50 : decode cX7_away 50 = .ok (.aload_n 0, 1) := by decide +kernel
theorem dX7_away_51 : decode cX7_away 51 = .ok (.getfield 26, 3) := by decide +kernel
theorem dX7_away_54 : decode cX7_away 54 = .ok (.getfield 152, 3) := by decide +kernel
theorem dX7_away_57 : decode cX7_away 57 = .ok (.invokestatic 308, 3) := by decide +kernel
theorem dX7_away_60 : decode cX7_away 60 = .ok (.lstore 5, 2) := by decide +kernel
theorem dX7_away_62 : decode cX7_away 62 = .ok (.lload_n 3, 1) := by decide +kernel
theorem dX7_away_63 : decode cX7_away 63 = .ok (.lload 5, 2) := by decide +kernel
theorem dX7_away_65 : decode cX7_away 65 = .ok (.invokestatic 312, 3) := by decide +kernel
theorem dX7_away_68 : decode cX7_away 68 = .ok (.lstore 7, 2) := by decide +kernel
theorem dX7_away_70 : decode cX7_away 70 = .ok (.lload 7, 2) := by decide +kernel
theorem dX7_away_72 : decode cX7_away 72 = .ok (.lconst 0, 1) := by decide +kernel
theorem dX7_away_73 : decode cX7_away 73 = .ok (.lcmp, 1) := by decide +kernel
theorem dX7_away_74 : decode cX7_away 74 = .ok (.ifCond .gt 7, 3) := by decide +kernel
theorem dX7_away_77 : decode cX7_away 77 = .ok (.ldc2_w 316, 3) := by decide +kernel
theorem dX7_away_80 : decode cX7_away 80 = .ok (.lreturn, 1) := by decide +kernel
theorem dX7_away_81 : decode cX7_away 81 = .ok (.iload_n 2, 1) := by decide +kernel
theorem dX7_away_82 : decode cX7_away 82 = .ok (.ifCond .ne 7, 3) := by decide +kernel
theorem dX7_away_85 : decode cX7_away 85 = .ok (.lload_n 3, 1) := by decide +kernel
theorem dX7_away_86 : decode cX7_away 86 = .ok (.goto 5, 3) := by decide +kernel
theorem dX7_away_89 : decode cX7_away 89 = .ok (.lload 5, 2) := by decide +kernel
theorem dX7_away_91 : decode cX7_away 91 = .ok (.lload 7, 2) := by decide +kernel
theorem dX7_away_93 : decode cX7_away 93 = .ok (.ldiv, 1) := by decide +kernel
theorem dX7_away_94 : decode cX7_away 94 = .ok (.lreturn, 1) := by decide +kernel
theorem dX7_drawn_0 : decode cX7_drawn 0 = .ok (.aload_n 0, 1) := by decide +kernel
theorem dX7_drawn_1 : decode cX7_drawn 1 = .ok (.getfield 26, 3) := by decide +kernel
theorem dX7_drawn_4 : decode cX7_drawn 4 = .ok (.invokevirtual 139, 3) := by decide +kernel
theorem dX7_drawn_7 : decode cX7_drawn 7 = .ok (.ifCond .ne 6, 3) := by decide +kernel
theorem dX7_drawn_10 : decode cX7_drawn 10 = .ok (.ldc 132, 2) := by decide +kernel
theorem dX7_drawn_12 : decode cX7_drawn 12 = .ok (.ireturn, 1) := by decide +kernel
theorem dX7_drawn_13 : decode cX7_drawn 13 = .ok (.iload_n 1, 1) := by decide +kernel
theorem dX7_drawn_14 : decode cX7_drawn 14 = .ok (.invokestatic 218, 3) := by decide +kernel
theorem dX7_drawn_17 : decode cX7_drawn 17 = .ok (.ifCond .eq 22, 3) := by decide +kernel
theorem dX7_drawn_20 : decode cX7_drawn 20 = .ok (.iload_n 2, 1) := by decide +kernel
theorem dX7_drawn_21 : decode cX7_drawn 21 = .ok (.iconst 1, 1) := by decide +kernel
theorem dX7_drawn_22 : decode cX7_drawn 22 = .ok (.if_icmp .lt 17, 3) := by decide +kernel
theorem dX7_drawn_25 : decode cX7_drawn 25 = .ok (.iload_n 2, 1) := by decide +kernel
theorem dX7_drawn_26 : decode cX7_drawn 26 = .ok (.ldc_w 318, 3) := by decide +kernel
theorem dX7_drawn_29 : decode cX7_drawn 29 = .ok (.if_icmp .gt 10, 3) := by decide +kernel
theorem dX7_drawn_32 : decode cX7_drawn 32 = .ok (.iload_n 3, 1) := by decide +kernel
theorem dX7_drawn_33 : decode cX7_drawn 33 = .ok (.invokestatic 158, 3) := by decide +kernel
theorem dX7_drawn_36 : decode cX7_drawn 36 = .ok (.ifCond .ne 6, 3) := by decide +kernel
theorem dX7_drawn_39 : decode cX7_drawn 39 = .ok (.ldc 66, 2) := by decide +kernel
theorem dX7_drawn_41 : decode cX7_drawn 41 = .ok (.ireturn, 1) := by decide +kernel
theorem dX7_drawn_42 : decode cX7_drawn 42 = .ok (.aload_n 0, 1) := by decide +kernel
theorem dX7_drawn_43 : decode cX7_drawn 43 = .ok (.getfield 44, 3) := by decide +kernel
theorem dX7_drawn_46 : decode cX7_drawn 46 = .ok (.aload_n 0, 1) := by decide +kernel
theorem dX7_drawn_47 : decode cX7_drawn 47 = .ok (.getfield 26, 3) := by decide +kernel
theorem dX7_drawn_50 : decode cX7_drawn 50 = .ok (.iload_n 1, 1) := by decide +kernel
theorem dX7_drawn_51 : decode cX7_drawn 51 = .ok (.iload_n 2, 1) := by decide +kernel
theorem dX7_drawn_52 : decode cX7_drawn 52 = .ok (.invokevirtual 319, 3) := by decide +kernel
theorem dX7_drawn_55 : decode cX7_drawn 55 = .ok (.astore 4, 2) := by decide +kernel
theorem dX7_drawn_57 : decode cX7_drawn 57 = .ok (.iload_n 3, 1) := by decide +kernel
theorem dX7_drawn_58 : decode cX7_drawn 58 = .ok (.ifCond .ne 19, 3) := by decide +kernel
theorem dX7_drawn_61 : decode cX7_drawn 61 = .ok (.aload 4, 2) := by decide +kernel
theorem dX7_drawn_63 : decode cX7_drawn 63 = .ok (.getfield 174, 3) := by decide +kernel
theorem dX7_drawn_66 : decode cX7_drawn 66 = .ok (.aload_n 0, 1) := by decide +kernel
theorem dX7_drawn_67 : decode cX7_drawn 67 = .ok (.getfield 26, 3) := by decide +kernel
theorem dX7_drawn_70 : decode cX7_drawn 70 = .ok (.getfield 174, 3) := by decide +kernel
theorem dX7_drawn_73 : decode cX7_drawn 73 = .ok (.isub, 1) := by decide +kernel
theorem dX7_drawn_74 : decode cX7_drawn 74 = .ok (.goto 8, 3) := by decide +kernel
theorem dX7_drawn_77 : decode cX7_drawn 77 = .ok (.aload 4, 2) := by decide +kernel
theorem dX7_drawn_79 : decode cX7_drawn 79 = .ok (.invokevirtual 323, 3) := by decide +kernel
theorem dX7_drawn_82 : decode cX7_drawn 82 = .ok (.ireturn, 1) := by decide +kernel
theorem dX7_image_0 : decode cX7_image 0 = .ok (.iload_n 1, 1) := by decide +kernel
theorem dX7_image_1 : decode cX7_image 1 = .ok (.ifCond .lt 8, 3) := by decide +kernel
theorem dX7_image_4 : decode cX7_image 4 = .ok (.iload_n 1, 1) := by decide +kernel
theorem dX7_image_5 : decode cX7_image 5 = .ok (.iconst 2, 1) := by decide +kernel
theorem dX7_image_6 : decode cX7_image 6 = .ok (.if_icmp .lt 6, 3) := by decide +kernel
theorem dX7_image_9 : decode cX7_image 9 = .ok (.ldc 66, 2) := by decide +kernel
theorem dX7_image_11 : decode cX7_image 11 = .ok (.ireturn, 1) := by decide +kernel
theorem dX7_image_12 : decode cX7_image 12 = .ok (.aload_n 0, 1) := by decide +kernel
theorem dX7_image_13 : decode cX7_image 13 = .ok (.getfield 26, 3) := by decide +kernel
theorem dX7_image_16 : decode cX7_image 16 = .ok (.invokevirtual 139, 3) := by decide +kernel
theorem dX7_image_19 : decode cX7_image 19 = .ok (.ifCond .ne 6, 3) := by decide +kernel
theorem dX7_image_22 : decode cX7_image 22 = .ok (.ldc 132, 2) := by decide +kernel
theorem dX7_image_24 : decode cX7_image 24 = .ok (.ireturn, 1) := by decide +kernel
theorem dX7_image_25 : decode cX7_image 25 = .ok (.aload_n 0, 1) := by decide +kernel
theorem dX7_image_26 : decode cX7_image 26 = .ok (.getfield 37, 3) := by decide +kernel
theorem dX7_image_29 : decode cX7_image 29 = .ok (.iload_n 1, 1) := by decide +kernel
theorem dX7_image_30 : decode cX7_image 30 = .ok (.aaload, 1) := by decide +kernel
theorem dX7_image_31 : decode cX7_image 31 = .ok (.aload_n 0, 1) := by decide +kernel
theorem dX7_image_32 : decode cX7_image 32 = .ok (.getfield 26, 3) := by decide +kernel
theorem dX7_image_35 : decode cX7_image 35 = .ok (.invokevirtual 326, 3) := by decide +kernel
theorem dX7_image_38 : decode cX7_image 38 = .ok (.iconst 1, 1) := by decide +kernel
theorem dX7_image_39 : decode cX7_image 39 = .ok (.ireturn, 1) := by decide +kernel
theorem dX7_restore_0 : decode cX7_restore 0 = .ok (.iload_n 1, 1) := by decide +kernel
theorem dX7_restore_1 : decode cX7_restore 1 = .ok (.ifCond .lt 8, 3) := by decide +kernel
theorem dX7_restore_4 : decode cX7_restore 4 = .ok (.iload_n 1, 1) := by decide +kernel
theorem dX7_restore_5 : decode cX7_restore 5 = .ok (.iconst 2, 1) := by decide +kernel
theorem dX7_restore_6 : decode cX7_restore 6 = .ok (.if_icmp .lt 6, 3) := by decide +kernel
theorem dX7_restore_9 : decode cX7_restore 9 = .ok (.ldc 66, 2) := by decide +kernel
theorem dX7_restore_11 : decode cX7_restore 11 = .ok (.ireturn, 1) := by decide +kernel
theorem dX7_restore_12 : decode cX7_restore 12 = .ok (.aload_n 0, 1) := by decide +kernel
theorem dX7_restore_13 : decode cX7_restore 13 = .ok (.getfield 37, 3) := by decide +kernel
theorem dX7_restore_16 : decode cX7_restore 16 = .ok (.iload_n 1, 1) := by decide +kernel
theorem dX7_restore_17 : decode cX7_restore 17 = .ok (.aaload, 1) := by decide +kernel
theorem dX7_restore_18 : decode cX7_restore 18 = .ok (.invokevirtual 139, 3) := by decide +kernel
theorem dX7_restore_21 : decode cX7_restore 21 = .ok (.ifCond .ne 6, 3) := by decide +kernel
theorem dX7_restore_24 : decode cX7_restore 24 = .ok (.ldc 132, 2) := by decide +kernel
theorem dX7_restore_26 : decode cX7_restore 26 = .ok (.ireturn, 1) := by decide +kernel
theorem dX7_restore_27 : decode cX7_restore 27 = .ok (.aload_n 0, 1) := by decide +kernel
theorem dX7_restore_28 : decode cX7_restore 28 = .ok (.aload_n 0, 1) := by decide +kernel
theorem dX7_restore_29 : decode cX7_restore 29 = .ok (.getfield 37, 3) := by decide +kernel
theorem dX7_restore_32 : decode cX7_restore 32 = .ok (.iload_n 1, 1) := by decide +kernel
theorem dX7_restore_33 : decode cX7_restore 33 = .ok (.aaload, 1) := by decide +kernel
theorem dX7_restore_34 : decode cX7_restore 34 = .ok (.invokevirtual 121, 3) := by decide +kernel
theorem dX7_restore_37 : decode cX7_restore 37 = .ok (.iconst 1, 1) := by decide +kernel
theorem dX7_restore_38 : decode cX7_restore 38 = .ok (.ireturn, 1) := by decide +kernel
theorem dX7_kind_0 : decode cX7_kind 0 = .ok (.aload_n 0, 1) := by decide +kernel
theorem dX7_kind_1 : decode cX7_kind 1 = .ok (.getfield 26, 3) := by decide +kernel
theorem dX7_kind_4 : decode cX7_kind 4 = .ok (.iload_n 1, 1) := by decide +kernel
theorem dX7_kind_5 : decode cX7_kind 5 = .ok (.invokevirtual 155, 3) := by decide +kernel
theorem dX7_kind_8 : decode cX7_kind 8 = .ok (.ifCond .eq 15, 3) := by decide +kernel
theorem dX7_kind_11 : decode cX7_kind 11 = .ok (.aload_n 0, 1) := by decide +kernel
theorem dX7_kind_12 : decode cX7_kind 12 = .ok (.getfield 26, 3) := by decide +kernel
theorem dX7_kind_15 : decode cX7_kind 15 = .ok (.getfield 329, 3) := by decide +kernel
theorem dX7_kind_18 : decode cX7_kind 18 = .ok (.iload_n 1, 1) := by decide +kernel
theorem dX7_kind_19 : decode cX7_kind 19 = .ok (.iaload, 1) := by decide +kernel
theorem dX7_kind_20 : decode cX7_kind 20 = .ok (.goto 5, 3) := by decide +kernel
theorem dX7_kind_23 : decode cX7_kind 23 = .ok (.ldc 66, 2) := by decide +kernel
theorem dX7_kind_25 : decode cX7_kind 25 = .ok (.ireturn, 1) := by decide +kernel
theorem dX7_as_0 : decode cX7_as 0 = .ok (.aload_n 0, 1) := by decide +kernel
theorem dX7_as_1 : decode cX7_as 1 = .ok (.getfield 26, 3) := by decide +kernel
theorem dX7_as_4 : decode cX7_as 4 = .ok (.iload_n 1, 1) := by decide +kernel
theorem dX7_as_5 : decode cX7_as 5 = .ok (.invokevirtual 155, 3) := by decide +kernel
theorem dX7_as_8 : decode cX7_as 8 = .ok (.ifCond .eq 13, 3) := by decide +kernel
theorem dX7_as_11 : decode cX7_as 11 = .ok (.iload_n 2, 1) := by decide +kernel
theorem dX7_as_12 : decode cX7_as 12 = .ok (.ifCond .lt 9, 3) := by decide +kernel
theorem dX7_as_15 : decode cX7_as 15 = .ok (.iload_n 2, 1) := by decide +kernel
theorem dX7_as_16 : decode cX7_as 16 = .ok (.bipush 6, 2) := by decide +kernel
theorem dX7_as_18 : decode cX7_as 18 = .ok (.if_icmp .lt 6, 3) := by decide +kernel
theorem dX7_as_21 : decode cX7_as 21 = .ok (.ldc 66, 2) := by decide +kernel
theorem dX7_as_23 : decode cX7_as 23 = .ok (.ireturn, 1) := by decide +kernel
theorem dX7_as_24 : decode cX7_as 24 = .ok (.aload_n 0, 1) := by decide +kernel
theorem dX7_as_25 : decode cX7_as 25 = .ok (.getfield 26, 3) := by decide +kernel
theorem dX7_as_28 : decode cX7_as 28 = .ok (.getfield 329, 3) := by decide +kernel
theorem dX7_as_31 : decode cX7_as 31 = .ok (.iload_n 1, 1) := by decide +kernel
theorem dX7_as_32 : decode cX7_as 32 = .ok (.iaload, 1) := by decide +kernel
theorem dX7_as_33 : decode cX7_as 33 = .ok (.iload_n 2, 1) := by decide +kernel
theorem dX7_as_34 : decode cX7_as 34 = .ok (.invokestatic 332, 3) := by decide +kernel
theorem dX7_as_37 : decode cX7_as 37 = .ok (.ifCond .eq 11, 3) := by decide +kernel
theorem dX7_as_40 : decode cX7_as 40 = .ok (.aload_n 0, 1) := by decide +kernel
theorem dX7_as_41 : decode cX7_as 41 = .ok (.iload_n 1, 1) := by decide +kernel
theorem dX7_as_42 : decode cX7_as 42 = .ok (.invokevirtual 75, 3) := by decide +kernel
theorem dX7_as_45 : decode cX7_as 45 = .ok (.goto 8, 3) := by decide +kernel
theorem dX7_as_48 : decode cX7_as 48 = .ok (.aload_n 0, 1) := by decide +kernel
theorem dX7_as_49 : decode cX7_as 49 = .ok (.iconst 3, 1) := by decide +kernel
theorem dX7_as_50 : decode cX7_as 50 = .ok (.invokevirtual 67, 3) := by decide +kernel
theorem dX7_as_53 : decode cX7_as 53 = .ok (.ireturn, 1) := by decide +kernel
theorem dX7_ask_0 : decode cX7_ask 0 = .ok (.aload_n 0, 1) := by decide +kernel
theorem dX7_ask_1 : decode cX7_ask 1 = .ok (.getfield 26, 3) := by decide +kernel
theorem dX7_ask_4 : decode cX7_ask 4 = .ok (.iload_n 1, 1) := by decide +kernel
theorem dX7_ask_5 : decode cX7_ask 5 = .ok (.invokevirtual 155, 3) := by decide +kernel
theorem dX7_ask_8 : decode cX7_ask 8 = .ok (.ifCond .eq 10, 3) := by decide +kernel
theorem dX7_ask_11 : decode cX7_ask 11 = .ok (.iload_n 2, 1) := by decide +kernel
theorem dX7_ask_12 : decode cX7_ask 12 = .ok (.invokestatic 158, 3) := by decide +kernel
theorem dX7_ask_15 : decode cX7_ask 15 = .ok (.ifCond .ne 6, 3) := by decide +kernel
theorem dX7_ask_18 : decode cX7_ask 18 = .ok (.ldc 66, 2) := by decide +kernel
theorem dX7_ask_20 : decode cX7_ask 20 = .ok (.ireturn, 1) := by decide +kernel
theorem dX7_ask_21 : decode cX7_ask 21 = .ok (.aload_n 0, 1) := by decide +kernel
theorem dX7_ask_22 : decode cX7_ask 22 = .ok (.getfield 58, 3) := by decide +kernel
theorem dX7_ask_25 : decode cX7_ask 25 = .ok (.aload_n 0, 1) := by decide +kernel
theorem dX7_ask_26 : decode cX7_ask 26 = .ok (.getfield 26, 3) := by decide +kernel
theorem dX7_ask_29 : decode cX7_ask 29 = .ok (.iload_n 1, 1) := by decide +kernel
theorem dX7_ask_30 : decode cX7_ask 30 = .ok (.iload_n 2, 1) := by decide +kernel
theorem dX7_ask_31 : decode cX7_ask 31 = .ok (.invokevirtual 336, 3) := by decide +kernel
theorem dX7_ask_34 : decode cX7_ask 34 = .ok (.ireturn, 1) := by decide +kernel
theorem dX7_trace_0 : decode cX7_trace 0 = .ok (.aload_n 0, 1) := by decide +kernel
theorem dX7_trace_1 : decode cX7_trace 1 = .ok (.getfield 58, 3) := by decide +kernel
theorem dX7_trace_4 : decode cX7_trace 4 = .ok (.iload_n 1, 1) := by decide +kernel
theorem dX7_trace_5 : decode cX7_trace 5 = .ok (.invokevirtual 340, 3) := by decide +kernel
theorem dX7_trace_8 : decode cX7_trace 8 = .ok (.ireturn, 1) := by decide +kernel
theorem dX7_count_0 : decode cX7_count 0 = .ok (.iload_n 1, 1) := by decide +kernel
theorem dX7_count_1 : decode cX7_count 1 = .ok (.tableswitch 111 0 7 #[47, 55, 63, 71, 79, 87, 95, 103], 47) := by decide +kernel
theorem dX7_count_48 : decode cX7_count 48 = .ok (.aload_n 0, 1) := by decide +kernel
theorem dX7_count_49 : decode cX7_count 49 = .ok (.getfield 10, 3) := by decide +kernel
theorem dX7_count_52 : decode cX7_count 52 = .ok (.invokevirtual 343, 3) := by decide +kernel
theorem dX7_count_55 : decode cX7_count 55 = .ok (.ireturn, 1) := by decide +kernel
theorem dX7_count_56 : decode cX7_count 56 = .ok (.aload_n 0, 1) := by decide +kernel
theorem dX7_count_57 : decode cX7_count 57 = .ok (.getfield 26, 3) := by decide +kernel
theorem dX7_count_60 : decode cX7_count 60 = .ok (.getfield 125, 3) := by decide +kernel
theorem dX7_count_63 : decode cX7_count 63 = .ok (.ireturn, 1) := by decide +kernel
theorem dX7_count_64 : decode cX7_count 64 = .ok (.aload_n 0, 1) := by decide +kernel
theorem dX7_count_65 : decode cX7_count 65 = .ok (.getfield 26, 3) := by decide +kernel
theorem dX7_count_68 : decode cX7_count 68 = .ok (.getfield 152, 3) := by decide +kernel
theorem dX7_count_71 : decode cX7_count 71 = .ok (.ireturn, 1) := by decide +kernel
theorem dX7_count_72 : decode cX7_count 72 = .ok (.aload_n 0, 1) := by decide +kernel
theorem dX7_count_73 : decode cX7_count 73 = .ok (.getfield 26, 3) := by decide +kernel
theorem dX7_count_76 : decode cX7_count 76 = .ok (.getfield 142, 3) := by decide +kernel
theorem dX7_count_79 : decode cX7_count 79 = .ok (.ireturn, 1) := by decide +kernel
theorem dX7_count_80 : decode cX7_count 80 = .ok (.aload_n 0, 1) := by decide +kernel
theorem dX7_count_81 : decode cX7_count 81 = .ok (.getfield 26, 3) := by decide +kernel
theorem dX7_count_84 : decode cX7_count 84 = .ok (.getfield 346, 3) := by decide +kernel
theorem dX7_count_87 : decode cX7_count 87 = .ok (.ireturn, 1) := by decide +kernel
theorem dX7_count_88 : decode cX7_count 88 = .ok (.aload_n 0, 1) := by decide +kernel
theorem dX7_count_89 : decode cX7_count 89 = .ok (.getfield 26, 3) := by decide +kernel
theorem dX7_count_92 : decode cX7_count 92 = .ok (.getfield 174, 3) := by decide +kernel
theorem dX7_count_95 : decode cX7_count 95 = .ok (.ireturn, 1) := by decide +kernel
theorem dX7_count_96 : decode cX7_count 96 = .ok (.aload_n 0, 1) := by decide +kernel
theorem dX7_count_97 : decode cX7_count 97 = .ok (.getfield 33, 3) := by decide +kernel
theorem dX7_count_100 : decode cX7_count 100 = .ok (.getfield 131, 3) := by decide +kernel
theorem dX7_count_103 : decode cX7_count 103 = .ok (.ireturn, 1) := by decide +kernel
theorem dX7_count_104 : decode cX7_count 104 = .ok (.aload_n 0, 1) := by decide +kernel
theorem dX7_count_105 : decode cX7_count 105 = .ok (.getfield 19, 3) := by decide +kernel
theorem dX7_count_108 : decode cX7_count 108 = .ok (.getfield 105, 3) := by decide +kernel
theorem dX7_count_111 : decode cX7_count 111 = .ok (.ireturn, 1) := by decide +kernel
theorem dX7_count_112 : decode cX7_count 112 = .ok (.ldc 66, 2) := by decide +kernel
theorem dX7_count_114 : decode cX7_count 114 = .ok (.ireturn, 1) := by decide +kernel
theorem dX7_status_0 : decode cX7_status 0 = .ok (.aload_n 0, 1) := by decide +kernel
theorem dX7_status_1 : decode cX7_status 1 = .ok (.getfield 349, 3) := by decide +kernel
theorem dX7_status_4 : decode cX7_status 4 = .ok (.ireturn, 1) := by decide +kernel
theorem dX7_found_0 : decode cX7_found 0 = .ok (.aload_n 0, 1) := by decide +kernel
theorem dX7_found_1 : decode cX7_found 1 = .ok (.iload_n 1, 1) := by decide +kernel
theorem dX7_found_2 : decode cX7_found 2 = .ok (.putfield 349, 3) := by decide +kernel
theorem dX7_found_5 : decode cX7_found 5 = .ok (.ldc_w 352, 3) := by decide +kernel
theorem dX7_found_8 : decode cX7_found 8 = .ok (.iload_n 1, 1) := by decide +kernel
theorem dX7_found_9 : decode cX7_found 9 = .ok (.isub, 1) := by decide +kernel
theorem dX7_found_10 : decode cX7_found 10 = .ok (.ireturn, 1) := by decide +kernel
theorem dX7_fine_0 : decode cX7_fine 0 = .ok (.aload_n 0, 1) := by decide +kernel
theorem dX7_fine_1 : decode cX7_fine 1 = .ok (.iconst 0, 1) := by decide +kernel
theorem dX7_fine_2 : decode cX7_fine 2 = .ok (.putfield 349, 3) := by decide +kernel
theorem dX7_fine_5 : decode cX7_fine 5 = .ok (.iload_n 1, 1) := by decide +kernel
theorem dX7_fine_6 : decode cX7_fine 6 = .ok (.ireturn, 1) := by decide +kernel
theorem dX7_beginAct_0 : decode cX7_beginAct 0 = .ok (.aload_n 0, 1) := by decide +kernel
theorem dX7_beginAct_1 : decode cX7_beginAct 1 = .ok (.getfield 33, 3) := by decide +kernel
theorem dX7_beginAct_4 : decode cX7_beginAct 4 = .ok (.aload_n 0, 1) := by decide +kernel
theorem dX7_beginAct_5 : decode cX7_beginAct 5 = .ok (.getfield 26, 3) := by decide +kernel
theorem dX7_beginAct_8 : decode cX7_beginAct 8 = .ok (.invokevirtual 353, 3) := by decide +kernel
theorem dX7_beginAct_11 : decode cX7_beginAct 11 = .ok (.aload_n 0, 1) := by decide +kernel
theorem dX7_beginAct_12 : decode cX7_beginAct 12 = .ok (.getfield 51, 3) := by decide +kernel
theorem dX7_beginAct_15 : decode cX7_beginAct 15 = .ok (.invokevirtual 136, 3) := by decide +kernel
theorem dX7_beginAct_18 : decode cX7_beginAct 18 = .ok (.return_, 1) := by decide +kernel
theorem dX7_standAs_0 : decode cX7_standAs 0 = .ok (.aload_n 0, 1) := by decide +kernel
theorem dX7_standAs_1 : decode cX7_standAs 1 = .ok (.getfield 26, 3) := by decide +kernel
theorem dX7_standAs_4 : decode cX7_standAs 4 = .ok (.aload_n 1, 1) := by decide +kernel
theorem dX7_standAs_5 : decode cX7_standAs 5 = .ok (.invokevirtual 326, 3) := by decide +kernel
theorem dX7_standAs_8 : decode cX7_standAs 8 = .ok (.aload_n 0, 1) := by decide +kernel
theorem dX7_standAs_9 : decode cX7_standAs 9 = .ok (.getfield 33, 3) := by decide +kernel
theorem dX7_standAs_12 : decode cX7_standAs 12 = .ok (.invokevirtual 356, 3) := by decide +kernel
theorem dX7_standAs_15 : decode cX7_standAs 15 = .ok (.aload_n 0, 1) := by decide +kernel
theorem dX7_standAs_16 : decode cX7_standAs 16 = .ok (.getfield 51, 3) := by decide +kernel
theorem dX7_standAs_19 : decode cX7_standAs 19 = .ok (.invokevirtual 136, 3) := by decide +kernel
theorem dX7_standAs_22 : decode cX7_standAs 22 = .ok (.return_, 1) := by decide +kernel
theorem dX7_isRow_0 : decode cX7_isRow 0 = .ok (.iload_n 0, 1) := by decide +kernel
theorem dX7_isRow_1 : decode cX7_isRow 1 = .ok (.ifCond .lt 13, 3) := by decide +kernel
theorem dX7_isRow_4 : decode cX7_isRow 4 = .ok (.iload_n 0, 1) := by decide +kernel
theorem dX7_isRow_5 : decode cX7_isRow 5 = .ok (.bipush 8, 2) := by decide +kernel
theorem dX7_isRow_7 : decode cX7_isRow 7 = .ok (.if_icmp .ge 7, 3) := by decide +kernel
theorem dX7_isRow_10 : decode cX7_isRow 10 = .ok (.iconst 1, 1) := by decide +kernel
theorem dX7_isRow_11 : decode cX7_isRow 11 = .ok (.goto 4, 3) := by decide +kernel
theorem dX7_isRow_14 : decode cX7_isRow 14 = .ok (.iconst 0, 1) := by decide +kernel
theorem dX7_isRow_15 : decode cX7_isRow 15 = .ok (.ireturn, 1) := by decide +kernel
theorem dX7_isChoice_0 : decode cX7_isChoice 0 = .ok (.iload_n 0, 1) := by decide +kernel
theorem dX7_isChoice_1 : decode cX7_isChoice 1 = .ok (.ifCond .eq 8, 3) := by decide +kernel
theorem dX7_isChoice_4 : decode cX7_isChoice 4 = .ok (.iload_n 0, 1) := by decide +kernel
theorem dX7_isChoice_5 : decode cX7_isChoice 5 = .ok (.iconst 1, 1) := by decide +kernel
theorem dX7_isChoice_6 : decode cX7_isChoice 6 = .ok (.if_icmp .ne 7, 3) := by decide +kernel
theorem dX7_isChoice_9 : decode cX7_isChoice 9 = .ok (.iconst 1, 1) := by decide +kernel
theorem dX7_isChoice_10 : decode cX7_isChoice 10 = .ok (.goto 4, 3) := by decide +kernel
theorem dX7_isChoice_13 : decode cX7_isChoice 13 = .ok (.iconst 0, 1) := by decide +kernel
theorem dX7_isChoice_14 : decode cX7_isChoice 14 = .ok (.ireturn, 1) := by decide +kernel
theorem dX7_isSum_0 : decode cX7_isSum 0 = .ok (.iload_n 0, 1) := by decide +kernel
theorem dX7_isSum_1 : decode cX7_isSum 1 = .ok (.iconst 1, 1) := by decide +kernel
theorem dX7_isSum_2 : decode cX7_isSum 2 = .ok (.if_icmp .lt 13, 3) := by decide +kernel
theorem dX7_isSum_5 : decode cX7_isSum 5 = .ok (.iload_n 0, 1) := by decide +kernel
theorem dX7_isSum_6 : decode cX7_isSum 6 = .ok (.bipush 30, 2) := by decide +kernel
theorem dX7_isSum_8 : decode cX7_isSum 8 = .ok (.if_icmp .gt 7, 3) := by decide +kernel
theorem dX7_isSum_11 : decode cX7_isSum 11 = .ok (.iconst 1, 1) := by decide +kernel
theorem dX7_isSum_12 : decode cX7_isSum 12 = .ok (.goto 4, 3) := by decide +kernel
theorem dX7_isSum_15 : decode cX7_isSum 15 = .ok (.iconst 0, 1) := by decide +kernel
theorem dX7_isSum_16 : decode cX7_isSum 16 = .ok (.ireturn, 1) := by decide +kernel
theorem dX7_isForetold_0 : decode cX7_isForetold 0 = .ok (.iload_n 0, 1) := by decide +kernel
theorem dX7_isForetold_1 : decode cX7_isForetold 1 = .ok (.ifCond .lt 13, 3) := by decide +kernel
theorem dX7_isForetold_4 : decode cX7_isForetold 4 = .ok (.iload_n 0, 1) := by decide +kernel
theorem dX7_isForetold_5 : decode cX7_isForetold 5 = .ok (.bipush 60, 2) := by decide +kernel
theorem dX7_isForetold_7 : decode cX7_isForetold 7 = .ok (.if_icmp .gt 7, 3) := by decide +kernel
theorem dX7_isForetold_10 : decode cX7_isForetold 10 = .ok (.iconst 1, 1) := by decide +kernel
theorem dX7_isForetold_11 : decode cX7_isForetold 11 = .ok (.goto 4, 3) := by decide +kernel
theorem dX7_isForetold_14 : decode cX7_isForetold 14 = .ok (.iconst 0, 1) := by decide +kernel
theorem dX7_isForetold_15 : decode cX7_isForetold 15 = .ok (.ireturn, 1) := by decide +kernel
theorem dX7_isWatched_0 : decode cX7_isWatched 0 = .ok (.iload_n 0, 1) := by decide +kernel
theorem dX7_isWatched_1 : decode cX7_isWatched 1 = .ok (.iconst 1, 1) := by decide +kernel
theorem dX7_isWatched_2 : decode cX7_isWatched 2 = .ok (.if_icmp .lt 13, 3) := by decide +kernel
theorem dX7_isWatched_5 : decode cX7_isWatched 5 = .ok (.iload_n 0, 1) := by decide +kernel
theorem dX7_isWatched_6 : decode cX7_isWatched 6 = .ok (.bipush 12, 2) := by decide +kernel
theorem dX7_isWatched_8 : decode cX7_isWatched 8 = .ok (.if_icmp .gt 7, 3) := by decide +kernel
theorem dX7_isWatched_11 : decode cX7_isWatched 11 = .ok (.iconst 1, 1) := by decide +kernel
theorem dX7_isWatched_12 : decode cX7_isWatched 12 = .ok (.goto 4, 3) := by decide +kernel
theorem dX7_isWatched_15 : decode cX7_isWatched 15 = .ok (.iconst 0, 1) := by decide +kernel
theorem dX7_isWatched_16 : decode cX7_isWatched 16 = .ok (.ireturn, 1) := by decide +kernel
theorem dX7_isKindOf_0 : decode cX7_isKindOf 0 = .ok (.iload_n 0, 1) := by decide +kernel
theorem dX7_isKindOf_1 : decode cX7_isKindOf 1 = .ok (.istore_n 2, 1) := by decide +kernel
theorem dX7_isKindOf_2 : decode cX7_isKindOf 2 = .ok (.iconst 0, 1) := by decide +kernel
theorem dX7_isKindOf_3 : decode cX7_isKindOf 3 = .ok (.istore_n 3, 1) := by decide +kernel
theorem dX7_isKindOf_4 : decode cX7_isKindOf 4 = .ok (.iload_n 3, 1) := by decide +kernel
theorem dX7_isKindOf_5 : decode cX7_isKindOf 5 = .ok (.bipush 6, 2) := by decide +kernel
theorem dX7_isKindOf_7 : decode cX7_isKindOf 7 = .ok (.if_icmp .ge 34, 3) := by decide +kernel
theorem dX7_isKindOf_10 : decode cX7_isKindOf 10 = .ok (.iload_n 2, 1) := by decide +kernel
theorem dX7_isKindOf_11 : decode cX7_isKindOf 11 = .ok (.ifCond .lt 30, 3) := by decide +kernel
theorem dX7_isKindOf_14 : decode cX7_isKindOf 14 = .ok (.iload_n 2, 1) := by decide +kernel
theorem dX7_isKindOf_15 : decode cX7_isKindOf 15 = .ok (.getstatic 359, 3) := by decide +kernel
theorem dX7_isKindOf_18 : decode cX7_isKindOf 18 = .ok (.arraylength, 1) := by decide +kernel
theorem dX7_isKindOf_19 : decode cX7_isKindOf 19 = .ok (.if_icmp .ge 22, 3) := by decide +kernel
theorem dX7_isKindOf_22 : decode cX7_isKindOf 22 = .ok (.iload_n 2, 1) := by decide +kernel
theorem dX7_isKindOf_23 : decode cX7_isKindOf 23 = .ok (.iload_n 1, 1) := by decide +kernel
theorem dX7_isKindOf_24 : decode cX7_isKindOf 24 = .ok (.if_icmp .ne 5, 3) := by decide +kernel
theorem dX7_isKindOf_27 : decode cX7_isKindOf 27 = .ok (.iconst 1, 1) := by decide +kernel
theorem dX7_isKindOf_28 : decode cX7_isKindOf 28 = .ok (.ireturn, 1) := by decide +kernel
theorem dX7_isKindOf_29 : decode cX7_isKindOf 29 = .ok (.getstatic 359, 3) := by decide +kernel
theorem dX7_isKindOf_32 : decode cX7_isKindOf 32 = .ok (.iload_n 2, 1) := by decide +kernel
theorem dX7_isKindOf_33 : decode cX7_isKindOf 33 = .ok (.iaload, 1) := by decide +kernel
theorem dX7_isKindOf_34 : decode cX7_isKindOf 34 = .ok (.istore_n 2, 1) := by decide +kernel
theorem dX7_isKindOf_35 : decode cX7_isKindOf 35 = .ok (.iinc 3 1, 3) := by decide +kernel
theorem dX7_isKindOf_38 : decode cX7_isKindOf 38 = .ok (.goto (-34), 3) := by decide +kernel
theorem dX7_isKindOf_41 : decode cX7_isKindOf 41 = .ok (.iconst 0, 1) := by decide +kernel
theorem dX7_isKindOf_42 : decode cX7_isKindOf 42 = .ok (.ireturn, 1) := by decide +kernel
theorem dX7_power_0 : decode cX7_power 0 = .ok (.lconst 1, 1) := by decide +kernel
theorem dX7_power_1 : decode cX7_power 1 = .ok (.lstore_n 2, 1) := by decide +kernel
theorem dX7_power_2 : decode cX7_power 2 = .ok (.iconst 0, 1) := by decide +kernel
theorem dX7_power_3 : decode cX7_power 3 = .ok (.istore 4, 2) := by decide +kernel
theorem dX7_power_5 : decode cX7_power 5 = .ok (.iload 4, 2) := by decide +kernel
theorem dX7_power_7 : decode cX7_power 7 = .ok (.iload_n 1, 1) := by decide +kernel
theorem dX7_power_8 : decode cX7_power 8 = .ok (.if_icmp .ge 14, 3) := by decide +kernel
theorem dX7_power_11 : decode cX7_power 11 = .ok (.lload_n 2, 1) := by decide +kernel
theorem dX7_power_12 : decode cX7_power 12 = .ok (.iload_n 0, 1) := by decide +kernel
theorem dX7_power_13 : decode cX7_power 13 = .ok (.i2l, 1) := by decide +kernel
theorem dX7_power_14 : decode cX7_power 14 = .ok (.lmul, 1) := by decide +kernel
theorem dX7_power_15 : decode cX7_power 15 = .ok (.lstore_n 2, 1) := by decide +kernel
theorem dX7_power_16 : decode cX7_power 16 = .ok (.iinc 4 1, 3) := by decide +kernel
theorem dX7_power_19 : decode cX7_power 19 = .ok (.goto (-14), 3) := by decide +kernel
theorem dX7_power_22 : decode cX7_power 22 = .ok (.lload_n 2, 1) := by decide +kernel
theorem dX7_power_23 : decode cX7_power 23 = .ok (.lreturn, 1) := by decide +kernel
theorem dX7_greatestDivisor_0 : decode cX7_greatestDivisor 0 = .ok (.lload_n 0, 1) := by decide +kernel
theorem dX7_greatestDivisor_1 : decode cX7_greatestDivisor 1 = .ok (.lstore 4, 2) := by decide +kernel
theorem dX7_greatestDivisor_3 : decode cX7_greatestDivisor 3 = .ok (.lload_n 2, 1) := by decide +kernel
theorem dX7_greatestDivisor_4 : decode cX7_greatestDivisor 4 = .ok (.lstore 6, 2) := by decide +kernel
theorem dX7_greatestDivisor_6 : decode cX7_greatestDivisor 6 = .ok (.iconst 0, 1) := by decide +kernel
theorem dX7_greatestDivisor_7 : decode cX7_greatestDivisor 7 = .ok (.istore 8, 2) := by decide +kernel
theorem dX7_greatestDivisor_9 : decode cX7_greatestDivisor 9 = .ok (.iload 8, 2) := by decide +kernel
theorem dX7_greatestDivisor_11 : decode cX7_greatestDivisor 11 = .ok (.bipush 100, 2) := by decide +kernel
theorem dX7_greatestDivisor_13 : decode cX7_greatestDivisor 13 = .ok (.if_icmp .ge 31, 3) := by decide +kernel
theorem dX7_greatestDivisor_16 : decode cX7_greatestDivisor 16 = .ok (.lload 6, 2) := by decide +kernel
theorem dX7_greatestDivisor_18 : decode cX7_greatestDivisor 18 = .ok (.lconst 0, 1) := by decide +kernel
theorem dX7_greatestDivisor_19 : decode cX7_greatestDivisor 19 = .ok (.lcmp, 1) := by decide +kernel
theorem dX7_greatestDivisor_20 : decode cX7_greatestDivisor 20 = .ok (.ifCond .eq 24, 3) := by decide +kernel
theorem dX7_greatestDivisor_23 : decode cX7_greatestDivisor 23 = .ok (.lload 4, 2) := by decide +kernel
theorem dX7_greatestDivisor_25 : decode cX7_greatestDivisor 25 = .ok (.lload 6, 2) := by decide +kernel
theorem dX7_greatestDivisor_27 : decode cX7_greatestDivisor 27 = .ok (.lrem, 1) := by decide +kernel
theorem dX7_greatestDivisor_28 : decode cX7_greatestDivisor 28 = .ok (.lstore 9, 2) := by decide +kernel
theorem dX7_greatestDivisor_30 : decode cX7_greatestDivisor 30 = .ok (.lload 6, 2) := by decide +kernel
theorem dX7_greatestDivisor_32 : decode cX7_greatestDivisor 32 = .ok (.lstore 4, 2) := by decide +kernel
theorem dX7_greatestDivisor_34 : decode cX7_greatestDivisor 34 = .ok (.lload 9, 2) := by decide +kernel
theorem dX7_greatestDivisor_36 : decode cX7_greatestDivisor 36 = .ok (.lstore 6, 2) := by decide +kernel
theorem dX7_greatestDivisor_38 : decode cX7_greatestDivisor 38 = .ok (.iinc 8 1, 3) := by decide +kernel
theorem dX7_greatestDivisor_41 : decode cX7_greatestDivisor 41 = .ok (.goto (-32), 3) := by decide +kernel
theorem dX7_greatestDivisor_44 : decode cX7_greatestDivisor 44 = .ok (.lload 4, 2) := by decide +kernel
theorem dX7_greatestDivisor_46 : decode cX7_greatestDivisor 46 = .ok (.lreturn, 1) := by decide +kernel

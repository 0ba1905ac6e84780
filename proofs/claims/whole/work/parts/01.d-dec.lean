theorem dX6_areKingsInOrder_10 : decode cX6_areKingsInOrder 10 = .ok (.invokevirtual 368, 3) := by decide +kernel
theorem dX6_areKingsInOrder_13 : decode cX6_areKingsInOrder 13 = .ok (.iconst 1, 1) := by decide +kernel
theorem dX6_areKingsInOrder_14 : decode cX6_areKingsInOrder 14 = .ok (.if_icmp .ne 13, 3) := by decide +kernel
theorem dX6_areKingsInOrder_17 : decode cX6_areKingsInOrder 17 = .ok (.aload_n 1, 1) := by decide +kernel
theorem dX6_areKingsInOrder_18 : decode cX6_areKingsInOrder 18 = .ok (.bipush 9, 2) := by decide +kernel
theorem dX6_areKingsInOrder_20 : decode cX6_areKingsInOrder 20 = .ok (.invokevirtual 368, 3) := by decide +kernel
theorem dX6_areKingsInOrder_23 : decode cX6_areKingsInOrder 23 = .ok (.iconst 1, 1) := by decide +kernel
theorem dX6_areKingsInOrder_24 : decode cX6_areKingsInOrder 24 = .ok (.if_icmp .eq 5, 3) := by decide +kernel
theorem dX6_areKingsInOrder_27 : decode cX6_areKingsInOrder 27 = .ok (.iconst 0, 1) := by decide +kernel
theorem dX6_areKingsInOrder_28 : decode cX6_areKingsInOrder 28 = .ok (.ireturn, 1) := by decide +kernel
theorem dX6_areKingsInOrder_29 : decode cX6_areKingsInOrder 29 = .ok (.aload_n 0, 1) := by decide +kernel
theorem dX6_areKingsInOrder_30 : decode cX6_areKingsInOrder 30 = .ok (.getfield 33, 3) := by decide +kernel
theorem dX6_areKingsInOrder_33 : decode cX6_areKingsInOrder 33 = .ok (.getfield 174, 3) := by decide +kernel
theorem dX6_areKingsInOrder_36 : decode cX6_areKingsInOrder 36 = .ok (.ifCond .ne 5, 3) := by decide +kernel
theorem dX6_areKingsInOrder_39 : decode cX6_areKingsInOrder 39 = .ok (.iconst 1, 1) := by decide +kernel
theorem dX6_areKingsInOrder_40 : decode cX6_areKingsInOrder 40 = .ok (.ireturn, 1) := by decide +kernel
theorem dX6_areKingsInOrder_41 : decode cX6_areKingsInOrder 41 = .ok (.aload_n 0, 1) := by decide +kernel
theorem dX6_areKingsInOrder_42 : decode cX6_areKingsInOrder 42 = .ok (.getfield 33, 3) := by decide +kernel
theorem dX6_areKingsInOrder_45 : decode cX6_areKingsInOrder 45 = .ok (.aload_n 0, 1) := by decide +kernel
theorem dX6_areKingsInOrder_46 : decode cX6_areKingsInOrder 46 = .ok (.getfield 33, 3) := by decide +kernel
theorem dX6_areKingsInOrder_49 : decode cX6_areKingsInOrder 49 = .ok (.getfield 174, 3) := by decide +kernel
theorem dX6_areKingsInOrder_52 : decode cX6_areKingsInOrder 52 = .ok (.invokevirtual 189, 3) := by decide +kernel
theorem dX6_areKingsInOrder_55 : decode cX6_areKingsInOrder 55 = .ok (.istore_n 2, 1) := by decide +kernel
theorem dX6_areKingsInOrder_56 : decode cX6_areKingsInOrder 56 = .ok (.aload_n 1, 1) := by decide +kernel
theorem dX6_areKingsInOrder_57 : decode cX6_areKingsInOrder 57 = .ok (.aload_n 1, 1) := by decide +kernel
theorem dX6_areKingsInOrder_58 : decode cX6_areKingsInOrder 58 = .ok (.iconst 1, 1) := by decide +kernel
theorem dX6_areKingsInOrder_59 : decode cX6_areKingsInOrder 59 = .ok (.iload_n 2, 1) := by decide +kernel
theorem dX6_areKingsInOrder_60 : decode cX6_areKingsInOrder 60 = .ok (.isub, 1) := by decide +kernel
theorem dX6_areKingsInOrder_61 : decode cX6_areKingsInOrder 61 = .ok (.invokevirtual 371, 3) := by decide +kernel
theorem dX6_areKingsInOrder_64 : decode cX6_areKingsInOrder 64 = .ok (.iload_n 2, 1) := by decide +kernel
theorem dX6_areKingsInOrder_65 : decode cX6_areKingsInOrder 65 = .ok (.invokevirtual 253, 3) := by decide +kernel
theorem dX6_areKingsInOrder_68 : decode cX6_areKingsInOrder 68 = .ok (.ifCond .ne 7, 3) := by decide +kernel
theorem dX6_areKingsInOrder_71 : decode cX6_areKingsInOrder 71 = .ok (.iconst 1, 1) := by decide +kernel
theorem dX6_areKingsInOrder_72 : decode cX6_areKingsInOrder 72 = .ok (.goto 4, 3) := by decide +kernel
theorem dX6_areKingsInOrder_75 : decode cX6_areKingsInOrder 75 = .ok (.iconst 0, 1) := by decide +kernel
theorem dX6_areKingsInOrder_76 : decode cX6_areKingsInOrder 76 = .ok (.ireturn, 1) := by decide +kernel
theorem dX7_init_0 : decode cX7_init 0 = .ok (.aload_n 0, 1) := by decide +kernel
theorem dX7_init_1 : decode cX7_init 1 = .ok (.invokespecial 3, 3) := by decide +kernel
theorem dX7_init_4 : decode cX7_init 4 = .ok (.aload_n 0, 1) := by decide +kernel
theorem dX7_init_5 : decode cX7_init 5 = .ok (.bipush 109, 2) := by decide +kernel
theorem dX7_init_7 : decode cX7_init 7 = .ok (.newarray .int, 2) := by decide +kernel
theorem dX7_init_9 : decode cX7_init 9 = .ok (.putfield 9, 3) := by decide +kernel
theorem dX7_init_12 : decode cX7_init 12 = .ok (.aload_n 0, 1) := by decide +kernel
theorem dX7_init_13 : decode cX7_init 13 = .ok (.sipush 872, 3) := by decide +kernel
theorem dX7_init_16 : decode cX7_init 16 = .ok (.newarray .int, 2) := by decide +kernel
theorem dX7_init_18 : decode cX7_init 18 = .ok (.putfield 13, 3) := by decide +kernel
theorem dX7_init_21 : decode cX7_init 21 = .ok (.aload_n 0, 1) := by decide +kernel
theorem dX7_init_22 : decode cX7_init 22 = .ok (.sipush 218, 3) := by decide +kernel
theorem dX7_init_25 : decode cX7_init 25 = .ok (.newarray .int, 2) := by decide +kernel
theorem dX7_init_27 : decode cX7_init 27 = .ok (.putfield 16, 3) := by decide +kernel
theorem dX7_init_30 : decode cX7_init 30 = .ok (.aload_n 0, 1) := by decide +kernel
theorem dX7_init_31 : decode cX7_init 31 = .ok (.bipush 109, 2) := by decide +kernel
theorem dX7_init_33 : decode cX7_init 33 = .ok (.newarray .int, 2) := by decide +kernel
theorem dX7_init_35 : decode cX7_init 35 = .ok (.putfield 19, 3) := by decide +kernel
theorem dX7_init_38 : decode cX7_init 38 = .ok (.aload_n 0, 1) := by decide +kernel
theorem dX7_init_39 : decode cX7_init 39 = .ok (.iconst 2, 1) := by decide +kernel
theorem dX7_init_40 : decode cX7_init 40 = .ok (.newarray .boolean, 2) := by decide +kernel
theorem dX7_init_42 : decode cX7_init 42 = .ok (.putfield 22, 3) := by decide +kernel
theorem dX7_init_45 : decode cX7_init 45 = .ok (.aload_n 0, 1) := by decide +kernel
theorem dX7_init_46 : decode cX7_init 46 = .ok (.sipush 600, 3) := by decide +kernel
theorem dX7_init_49 : decode cX7_init 49 = .ok (.newarray .int, 2) := by decide +kernel
theorem dX7_init_51 : decode cX7_init 51 = .ok (.putfield 26, 3) := by decide +kernel
theorem dX7_init_54 : decode cX7_init 54 = .ok (.aload_n 0, 1) := by decide +kernel
theorem dX7_init_55 : decode cX7_init 55 = .ok (.bipush 60, 2) := by decide +kernel
theorem dX7_init_57 : decode cX7_init 57 = .ok (.newarray .int, 2) := by decide +kernel
theorem dX7_init_59 : decode cX7_init 59 = .ok (.putfield 29, 3) := by decide +kernel
theorem dX7_init_62 : decode cX7_init 62 = .ok (.aload_n 0, 1) := by decide +kernel
theorem dX7_init_63 : decode cX7_init 63 = .ok (.iconst (-1), 1) := by decide +kernel
theorem dX7_init_64 : decode cX7_init 64 = .ok (.putfield 32, 3) := by decide +kernel
theorem dX7_init_67 : decode cX7_init 67 = .ok (.aload_n 0, 1) := by decide +kernel
theorem dX7_init_68 : decode cX7_init 68 = .ok (.sipush 15840, 3) := by decide +kernel
theorem dX7_init_71 : decode cX7_init 71 = .ok (.newarray .int, 2) := by decide +kernel
theorem dX7_init_73 : decode cX7_init 73 = .ok (.putfield 36, 3) := by decide +kernel
theorem dX7_init_76 : decode cX7_init 76 = .ok (.aload_n 0, 1) := by decide +kernel
theorem dX7_init_77 : decode cX7_init 77 = .ok (.bipush 11, 2) := by decide +kernel
theorem dX7_init_79 : decode cX7_init 79 = .ok (.newarray .int, 2) := by decide +kernel
theorem dX7_init_81 : decode cX7_init 81 = .ok (.putfield 39, 3) := by decide +kernel
theorem dX7_init_84 : decode cX7_init 84 = .ok (.aload_n 0, 1) := by decide +kernel
theorem dX7_init_85 : decode cX7_init 85 = .ok (.sipush 16000, 3) := by decide +kernel
theorem dX7_init_88 : decode cX7_init 88 = .ok (.newarray .int, 2) := by decide +kernel
theorem dX7_init_90 : decode cX7_init 90 = .ok (.putfield 42, 3) := by decide +kernel
theorem dX7_init_93 : decode cX7_init 93 = .ok (.aload_n 0, 1) := by decide +kernel
theorem dX7_init_94 : decode cX7_init 94 = .ok (.bipush 10, 2) := by decide +kernel
theorem dX7_init_96 : decode cX7_init 96 = .ok (.newarray .int, 2) := by decide +kernel
theorem dX7_init_98 : decode cX7_init 98 = .ok (.putfield 45, 3) := by decide +kernel
theorem dX7_init_101 : decode cX7_init 101 = .ok (.aload_n 0, 1) := by decide +kernel
theorem dX7_init_102 : decode cX7_init 102 = .ok (.bipush 36, 2) := by decide +kernel
theorem dX7_init_104 : decode cX7_init 104 = .ok (.newarray .int, 2) := by decide +kernel
theorem dX7_init_106 : decode cX7_init 106 = .ok (.putfield 48, 3) := by decide +kernel
theorem dX7_init_109 : decode cX7_init 109 = .ok (.aload_n 0, 1) := by decide +kernel
theorem dX7_init_110 : decode cX7_init 110 = .ok (.sipush 440, 3) := by decide +kernel
theorem dX7_init_113 : decode cX7_init 113 = .ok (.newarray .long, 2) := by decide +kernel
theorem dX7_init_115 : decode cX7_init 115 = .ok (.putfield 51, 3) := by decide +kernel
theorem dX7_init_118 : decode cX7_init 118 = .ok (.aload_n 0, 1) := by decide +kernel
theorem dX7_init_119 : decode cX7_init 119 = .ok (.sipush 440, 3) := by decide +kernel
theorem dX7_init_122 : decode cX7_init 122 = .ok (.newarray .long, 2) := by decide +kernel
theorem dX7_init_124 : decode cX7_init 124 = .ok (.putfield 55, 3) := by decide +kernel
theorem dX7_init_127 : decode cX7_init 127 = .ok (.aload_n 0, 1) := by decide +kernel
theorem dX7_init_128 : decode cX7_init 128 = .ok (.sipush 1296, 3) := by decide +kernel
theorem dX7_init_131 : decode cX7_init 131 = .ok (.newarray .boolean, 2) := by decide +kernel
theorem dX7_init_133 : decode cX7_init 133 = .ok (.putfield 58, 3) := by decide +kernel
theorem dX7_init_136 : decode cX7_init 136 = .ok (.aload_n 0, 1) := by decide +kernel
theorem dX7_init_137 : decode cX7_init 137 = .ok (.ldc 61, 2) := by decide +kernel
theorem dX7_init_139 : decode cX7_init 139 = .ok (.invokevirtual 63, 3) := by decide +kernel
theorem dX7_init_142 : decode cX7_init 142 = .ok (.return_, 1) := by decide +kernel
theorem dX7_lays_0 : decode cX7_lays 0 = .ok (.aload_n 0, 1) := by decide +kernel
theorem dX7_lays_1 : decode cX7_lays 1 = .ok (.aload_n 1, 1) := by decide +kernel
theorem dX7_lays_2 : decode cX7_lays 2 = .ok (.invokevirtual 67, 3) := by decide +kernel
theorem dX7_lays_5 : decode cX7_lays 5 = .ok (.putfield 73, 3) := by decide +kernel
theorem dX7_lays_8 : decode cX7_lays 8 = .ok (.iconst 0, 1) := by decide +kernel
theorem dX7_lays_9 : decode cX7_lays 9 = .ok (.istore_n 2, 1) := by decide +kernel
theorem dX7_lays_10 : decode cX7_lays 10 = .ok (.iload_n 2, 1) := by decide +kernel
theorem dX7_lays_11 : decode cX7_lays 11 = .ok (.aload_n 0, 1) := by decide +kernel
theorem dX7_lays_12 : decode cX7_lays 12 = .ok (.getfield 73, 3) := by decide +kernel
theorem dX7_lays_15 : decode cX7_lays 15 = .ok (.if_icmp .ge 20, 3) := by decide +kernel
theorem dX7_lays_18 : decode cX7_lays 18 = .ok (.aload_n 0, 1) := by decide +kernel
theorem dX7_lays_19 : decode cX7_lays 19 = .ok (.getfield 26, 3) := by decide +kernel
theorem dX7_lays_22 : decode cX7_lays 22 = .ok (.iload_n 2, 1) := by decide +kernel
theorem dX7_lays_23 : decode cX7_lays 23 = .ok (.aload_n 1, 1) := by decide +kernel
theorem dX7_lays_24 : decode cX7_lays 24 = .ok (.iload_n 2, 1) := by decide +kernel
theorem dX7_lays_25 : decode cX7_lays 25 = .ok (.invokevirtual 76, 3) := by decide +kernel
theorem dX7_lays_28 : decode cX7_lays 28 = .ok (.iastore, 1) := by decide +kernel
theorem dX7_lays_29 : decode cX7_lays 29 = .ok (.iinc 2 1, 3) := by decide +kernel
theorem dX7_lays_32 : decode cX7_lays 32 = .ok (.goto (-22), 3) := by decide +kernel
theorem dX7_lays_35 : decode cX7_lays 35 = .ok (.aload_n 0, 1) := by decide +kernel
theorem dX7_lays_36 : decode cX7_lays 36 = .ok (.invokevirtual 80, 3) := by decide +kernel
theorem dX7_lays_39 : decode cX7_lays 39 = .ok (.istore_n 2, 1) := by decide +kernel
theorem dX7_lays_40 : decode cX7_lays 40 = .ok (.aload_n 0, 1) := by decide +kernel
theorem dX7_lays_41 : decode cX7_lays 41 = .ok (.iconst 0, 1) := by decide +kernel
theorem dX7_lays_42 : decode cX7_lays 42 = .ok (.putfield 83, 3) := by decide +kernel
theorem dX7_lays_45 : decode cX7_lays 45 = .ok (.return_, 1) := by decide +kernel
theorem dX7_thrown_0 : decode cX7_thrown 0 = .ok (.aload_n 0, 1) := by decide +kernel
theorem dX7_thrown_1 : decode cX7_thrown 1 = .ok (.getfield 86, 3) := by decide +kernel
theorem dX7_thrown_4 : decode cX7_thrown 4 = .ok (.ireturn, 1) := by decide +kernel
theorem dX7_fails_0 : decode cX7_fails 0 = .ok (.aload_n 0, 1) := by decide +kernel
theorem dX7_fails_1 : decode cX7_fails 1 = .ok (.iload_n 1, 1) := by decide +kernel
theorem dX7_fails_2 : decode cX7_fails 2 = .ok (.ifCond .eq 7, 3) := by decide +kernel
theorem dX7_fails_5 : decode cX7_fails 5 = .ok (.iconst 1, 1) := by decide +kernel
theorem dX7_fails_6 : decode cX7_fails 6 = .ok (.goto 20, 3) := by decide +kernel
theorem dX7_fails_9 : decode cX7_fails 9 = .ok (.iload_n 2, 1) := by decide +kernel
theorem dX7_fails_10 : decode cX7_fails 10 = .ok (.ifCond .eq 7, 3) := by decide +kernel
theorem dX7_fails_13 : decode cX7_fails 13 = .ok (.iconst 2, 1) := by decide +kernel
theorem dX7_fails_14 : decode cX7_fails 14 = .ok (.goto 12, 3) := by decide +kernel
theorem dX7_fails_17 : decode cX7_fails 17 = .ok (.iload_n 3, 1) := by decide +kernel
theorem dX7_fails_18 : decode cX7_fails 18 = .ok (.ifCond .eq 7, 3) := by decide +kernel
theorem dX7_fails_21 : decode cX7_fails 21 = .ok (.iconst 3, 1) := by decide +kernel
theorem dX7_fails_22 : decode cX7_fails 22 = .ok (.goto 4, 3) := by decide +kernel
theorem dX7_fails_25 : decode cX7_fails 25 = .ok (.iconst 0, 1) := by decide +kernel
theorem dX7_fails_26 : decode cX7_fails 26 = .ok (.putfield 86, 3) := by decide +kernel
theorem dX7_fails_29 : decode cX7_fails 29 = .ok (.aload_n 0, 1) := by decide +kernel
theorem dX7_fails_30 : decode cX7_fails 30 = .ok (.getfield 86, 3) := by decide +kernel
theorem dX7_fails_33 : decode cX7_fails 33 = .ok (.ifCond .le 7, 3) := by decide +kernel
theorem dX7_fails_36 : decode cX7_fails 36 = .ok (.iconst 1, 1) := by decide +kernel
theorem dX7_fails_37 : decode cX7_fails 37 = .ok (.goto 4, 3) := by decide +kernel
theorem dX7_fails_40 : decode cX7_fails 40 = .ok (.iconst 0, 1) := by decide +kernel
theorem dX7_fails_41 : decode cX7_fails 41 = .ok (.ireturn, 1) := by decide +kernel
theorem dX7_told_0 : decode cX7_told 0 = .ok (.aload_n 0, 1) := by decide +kernel
theorem dX7_told_1 : decode cX7_told 1 = .ok (.iconst 0, 1) := by decide +kernel
theorem dX7_told_2 : decode cX7_told 2 = .ok (.putfield 86, 3) := by decide +kernel
theorem dX7_told_5 : decode cX7_told 5 = .ok (.iload_n 1, 1) := by decide +kernel
theorem dX7_told_6 : decode cX7_told 6 = .ok (.ireturn, 1) := by decide +kernel
theorem dX7_isIn_0 : decode cX7_isIn 0 = .ok (.iload_n 0, 1) := by decide +kernel
theorem dX7_isIn_1 : decode cX7_isIn 1 = .ok (.iload_n 1, 1) := by decide +kernel
theorem dX7_isIn_2 : decode cX7_isIn 2 = .ok (.if_icmp .lt 12, 3) := by decide +kernel
theorem dX7_isIn_5 : decode cX7_isIn 5 = .ok (.iload_n 0, 1) := by decide +kernel
theorem dX7_isIn_6 : decode cX7_isIn 6 = .ok (.iload_n 2, 1) := by decide +kernel
theorem dX7_isIn_7 : decode cX7_isIn 7 = .ok (.if_icmp .gt 7, 3) := by decide +kernel
theorem dX7_isIn_10 : decode cX7_isIn 10 = .ok (.iconst 1, 1) := by decide +kernel
theorem dX7_isIn_11 : decode cX7_isIn 11 = .ok (.goto 4, 3) := by decide +kernel
theorem dX7_isIn_14 : decode cX7_isIn 14 = .ok (.iconst 0, 1) := by decide +kernel
theorem dX7_isIn_15 : decode cX7_isIn 15 = .ok (.ireturn, 1) := by decide +kernel
theorem dX7_copy_0 : decode cX7_copy 0 = .ok (.aload_n 0, 1) := by decide +kernel
theorem dX7_copy_1 : decode cX7_copy 1 = .ok (.iload_n 1, 1) := by decide +kernel
theorem dX7_copy_2 : decode cX7_copy 2 = .ok (.aload_n 2, 1) := by decide +kernel
theorem dX7_copy_3 : decode cX7_copy 3 = .ok (.iload_n 3, 1) := by decide +kernel
theorem dX7_copy_4 : decode cX7_copy 4 = .ok (.bipush 109, 2) := by decide +kernel
theorem dX7_copy_6 : decode cX7_copy 6 = .ok (.invokestatic 89, 3) := by decide +kernel
theorem dX7_copy_9 : decode cX7_copy 9 = .ok (.return_, 1) := by decide +kernel
theorem dX7_remember_0 : decode cX7_remember 0 = .ok (.aload_n 0, 1) := by decide +kernel
theorem dX7_remember_1 : decode cX7_remember 1 = .ok (.getfield 83, 3) := by decide +kernel
theorem dX7_remember_4 : decode cX7_remember 4 = .ok (.bipush 8, 2) := by decide +kernel
theorem dX7_remember_6 : decode cX7_remember 6 = .ok (.if_icmp .ne 30, 3) := by decide +kernel
theorem dX7_remember_9 : decode cX7_remember 9 = .ok (.aload_n 0, 1) := by decide +kernel
theorem dX7_remember_10 : decode cX7_remember 10 = .ok (.getfield 13, 3) := by decide +kernel
theorem dX7_remember_13 : decode cX7_remember 13 = .ok (.bipush 109, 2) := by decide +kernel
theorem dX7_remember_15 : decode cX7_remember 15 = .ok (.aload_n 0, 1) := by decide +kernel
theorem dX7_remember_16 : decode cX7_remember 16 = .ok (.getfield 13, 3) := by decide +kernel
theorem dX7_remember_19 : decode cX7_remember 19 = .ok (.iconst 0, 1) := by decide +kernel
theorem dX7_remember_20 : decode cX7_remember 20 = .ok (.sipush 763, 3) := by decide +kernel
theorem dX7_remember_23 : decode cX7_remember 23 = .ok (.invokestatic 89, 3) := by decide +kernel
theorem dX7_remember_26 : decode cX7_remember 26 = .ok (.aload_n 0, 1) := by decide +kernel
theorem dX7_remember_27 : decode cX7_remember 27 = .ok (.dup, 1) := by decide +kernel
theorem dX7_remember_28 : decode cX7_remember 28 = .ok (.getfield 83, 3) := by decide +kernel
theorem dX7_remember_31 : decode cX7_remember 31 = .ok (.iconst 1, 1) := by decide +kernel
theorem dX7_remember_32 : decode cX7_remember 32 = .ok (.isub, 1) := by decide +kernel
theorem dX7_remember_33 : decode cX7_remember 33 = .ok (.putfield 83, 3) := by decide +kernel
theorem dX7_remember_36 : decode cX7_remember 36 = .ok (.aload_n 1, 1) := by decide +kernel
theorem dX7_remember_37 : decode cX7_remember 37 = .ok (.iconst 0, 1) := by decide +kernel
theorem dX7_remember_38 : decode cX7_remember 38 = .ok (.aload_n 0, 1) := by decide +kernel
theorem dX7_remember_39 : decode cX7_remember 39 = .ok (.getfield 13, 3) := by decide +kernel
theorem dX7_remember_42 : decode cX7_remember 42 = .ok (.aload_n 0, 1) := by decide +kernel
theorem dX7_remember_43 : decode cX7_remember 43 = .ok (.getfield 83, 3) := by decide +kernel
theorem dX7_remember_46 : decode cX7_remember 46 = .ok (.bipush 109, 2) := by decide +kernel
theorem dX7_remember_48 : decode cX7_remember 48 = .ok (.imul, 1) := by decide +kernel
theorem dX7_remember_49 : decode cX7_remember 49 = .ok (.invokestatic 95, 3) := by decide +kernel
theorem dX7_remember_52 : decode cX7_remember 52 = .ok (.aload_n 0, 1) := by decide +kernel
theorem dX7_remember_53 : decode cX7_remember 53 = .ok (.dup, 1) := by decide +kernel
theorem dX7_remember_54 : decode cX7_remember 54 = .ok (.getfield 83, 3) := by decide +kernel
theorem dX7_remember_57 : decode cX7_remember 57 = .ok (.iconst 1, 1) := by decide +kernel
theorem dX7_remember_58 : decode cX7_remember 58 = .ok (.iadd, 1) := by decide +kernel
theorem dX7_remember_59 : decode cX7_remember 59 = .ok (.putfield 83, 3) := by decide +kernel
theorem dX7_remember_62 : decode cX7_remember 62 = .ok (.return_, 1) := by decide +kernel
theorem dX7_squareMany_0 : decode cX7_squareMany 0 = .ok (.aload_n 0, 1) := by decide +kernel
theorem dX7_squareMany_1 : decode cX7_squareMany 1 = .ok (.getfield 9, 3) := by decide +kernel
theorem dX7_squareMany_4 : decode cX7_squareMany 4 = .ok (.iconst 0, 1) := by decide +kernel
theorem dX7_squareMany_5 : decode cX7_squareMany 5 = .ok (.iaload, 1) := by decide +kernel
theorem dX7_squareMany_6 : decode cX7_squareMany 6 = .ok (.aload_n 0, 1) := by decide +kernel
theorem dX7_squareMany_7 : decode cX7_squareMany 7 = .ok (.getfield 9, 3) := by decide +kernel
theorem dX7_squareMany_10 : decode cX7_squareMany 10 = .ok (.iconst 1, 1) := by decide +kernel
theorem dX7_squareMany_11 : decode cX7_squareMany 11 = .ok (.iaload, 1) := by decide +kernel
theorem dX7_squareMany_12 : decode cX7_squareMany 12 = .ok (.imul, 1) := by decide +kernel
theorem dX7_squareMany_13 : decode cX7_squareMany 13 = .ok (.ireturn, 1) := by decide +kernel
theorem dX7_kindOf_0 : decode cX7_kindOf 0 = .ok (.iload_n 0, 1) := by decide +kernel
theorem dX7_kindOf_1 : decode cX7_kindOf 1 = .ok (.iconst 1, 1) := by decide +kernel
theorem dX7_kindOf_2 : decode cX7_kindOf 2 = .ok (.isub, 1) := by decide +kernel
theorem dX7_kindOf_3 : decode cX7_kindOf 3 = .ok (.iconst 5, 1) := by decide +kernel
theorem dX7_kindOf_4 : decode cX7_kindOf 4 = .ok (.irem, 1) := by decide +kernel
theorem dX7_kindOf_5 : decode cX7_kindOf 5 = .ok (.ireturn, 1) := by decide +kernel
theorem dX7_colourOf_0 : decode cX7_colourOf 0 = .ok (.iload_n 0, 1) := by decide +kernel
theorem dX7_colourOf_1 : decode cX7_colourOf 1 = .ok (.iconst 1, 1) := by decide +kernel
theorem dX7_colourOf_2 : decode cX7_colourOf 2 = .ok (.isub, 1) := by decide +kernel
theorem dX7_colourOf_3 : decode cX7_colourOf 3 = .ok (.iconst 5, 1) := by decide +kernel
theorem dX7_colourOf_4 : decode cX7_colourOf 4 = .ok (.idiv, 1) := by decide +kernel
theorem dX7_colourOf_5 : decode cX7_colourOf 5 = .ok (.ireturn, 1) := by decide +kernel
theorem dX7_isOf_0 : decode cX7_isOf 0 = .ok (.iload_n 0, 1) := by decide +kernel
theorem dX7_isOf_1 : decode cX7_isOf 1 = .ok (.ifCond .le 15, 3) := by decide +kernel
theorem dX7_isOf_4 : decode cX7_isOf 4 = .ok (.iload_n 0, 1) := by decide +kernel
theorem dX7_isOf_5 : decode cX7_isOf 5 = .ok (.invokestatic 99, 3) := by decide +kernel
theorem dX7_isOf_8 : decode cX7_isOf 8 = .ok (.iload_n 1, 1) := by decide +kernel
theorem dX7_isOf_9 : decode cX7_isOf 9 = .ok (.if_icmp .ne 7, 3) := by decide +kernel
theorem dX7_isOf_12 : decode cX7_isOf 12 = .ok (.iconst 1, 1) := by decide +kernel
theorem dX7_isOf_13 : decode cX7_isOf 13 = .ok (.goto 4, 3) := by decide +kernel
theorem dX7_isOf_16 : decode cX7_isOf 16 = .ok (.iconst 0, 1) := by decide +kernel
theorem dX7_isOf_17 : decode cX7_isOf 17 = .ok (.ireturn, 1) := by decide +kernel
theorem dX7_pieceOf_0 : decode cX7_pieceOf 0 = .ok (.iconst 1, 1) := by decide +kernel
theorem dX7_pieceOf_1 : decode cX7_pieceOf 1 = .ok (.iconst 5, 1) := by decide +kernel
theorem dX7_pieceOf_2 : decode cX7_pieceOf 2 = .ok (.iload_n 0, 1) := by decide +kernel
theorem dX7_pieceOf_3 : decode cX7_pieceOf 3 = .ok (.imul, 1) := by decide +kernel
theorem dX7_pieceOf_4 : decode cX7_pieceOf 4 = .ok (.iadd, 1) := by decide +kernel
theorem dX7_pieceOf_5 : decode cX7_pieceOf 5 = .ok (.iload_n 1, 1) := by decide +kernel
theorem dX7_pieceOf_6 : decode cX7_pieceOf 6 = .ok (.iadd, 1) := by decide +kernel
theorem dX7_pieceOf_7 : decode cX7_pieceOf 7 = .ok (.ireturn, 1) := by decide +kernel
theorem dX7_isFree_0 : decode cX7_isFree 0 = .ok (.iload_n 3, 1) := by decide +kernel
theorem dX7_isFree_1 : decode cX7_isFree 1 = .ok (.aload_n 0, 1) := by decide +kernel
theorem dX7_isFree_2 : decode cX7_isFree 2 = .ok (.getfield 9, 3) := by decide +kernel
theorem dX7_isFree_5 : decode cX7_isFree 5 = .ok (.iconst 0, 1) := by decide +kernel
theorem dX7_isFree_6 : decode cX7_isFree 6 = .ok (.iaload, 1) := by decide +kernel
theorem dX7_isFree_7 : decode cX7_isFree 7 = .ok (.irem, 1) := by decide +kernel
theorem dX7_isFree_8 : decode cX7_isFree 8 = .ok (.istore 5, 2) := by decide +kernel
theorem dX7_isFree_10 : decode cX7_isFree 10 = .ok (.iload_n 3, 1) := by decide +kernel
theorem dX7_isFree_11 : decode cX7_isFree 11 = .ok (.aload_n 0, 1) := by decide +kernel
theorem dX7_isFree_12 : decode cX7_isFree 12 = .ok (.getfield 9, 3) := by decide +kernel
theorem dX7_isFree_15 : decode cX7_isFree 15 = .ok (.iconst 0, 1) := by decide +kernel
theorem dX7_isFree_16 : decode cX7_isFree 16 = .ok (.iaload, 1) := by decide +kernel
theorem dX7_isFree_17 : decode cX7_isFree 17 = .ok (.idiv, 1) := by decide +kernel
theorem dX7_isFree_18 : decode cX7_isFree 18 = .ok (.istore 6, 2) := by decide +kernel
theorem dX7_isFree_20 : decode cX7_isFree 20 = .ok (.iload 4, 2) := by decide +kernel
theorem dX7_isFree_22 : decode cX7_isFree 22 = .ok (.aload_n 0, 1) := by decide +kernel
theorem dX7_isFree_23 : decode cX7_isFree 23 = .ok (.getfield 9, 3) := by decide +kernel
theorem dX7_isFree_26 : decode cX7_isFree 26 = .ok (.iconst 0, 1) := by decide +kernel
theorem dX7_isFree_27 : decode cX7_isFree 27 = .ok (.iaload, 1) := by decide +kernel
theorem dX7_isFree_28 : decode cX7_isFree 28 = .ok (.irem, 1) := by decide +kernel
theorem dX7_isFree_29 : decode cX7_isFree 29 = .ok (.iload 5, 2) := by decide +kernel
theorem dX7_isFree_31 : decode cX7_isFree 31 = .ok (.isub, 1) := by decide +kernel
theorem dX7_isFree_32 : decode cX7_isFree 32 = .ok (.invokestatic 103, 3) := by decide +kernel
theorem dX7_isFree_35 : decode cX7_isFree 35 = .ok (.istore 7, 2) := by decide +kernel
theorem dX7_isFree_37 : decode cX7_isFree 37 = .ok (.iload 4, 2) := by decide +kernel
theorem dX7_isFree_39 : decode cX7_isFree 39 = .ok (.aload_n 0, 1) := by decide +kernel
theorem dX7_isFree_40 : decode cX7_isFree 40 = .ok (.getfield 9, 3) := by decide +kernel
theorem dX7_isFree_43 : decode cX7_isFree 43 = .ok (.iconst 0, 1) := by decide +kernel
theorem dX7_isFree_44 : decode cX7_isFree 44 = .ok (.iaload, 1) := by decide +kernel
theorem dX7_isFree_45 : decode cX7_isFree 45 = .ok (.idiv, 1) := by decide +kernel
theorem dX7_isFree_46 : decode cX7_isFree 46 = .ok (.iload 6, 2) := by decide +kernel
theorem dX7_isFree_48 : decode cX7_isFree 48 = .ok (.isub, 1) := by decide +kernel
theorem dX7_isFree_49 : decode cX7_isFree 49 = .ok (.invokestatic 103, 3) := by decide +kernel
theorem dX7_isFree_52 : decode cX7_isFree 52 = .ok (.istore 8, 2) := by decide +kernel
theorem dX7_isFree_54 : decode cX7_isFree 54 = .ok (.iload_n 3, 1) := by decide +kernel
theorem dX7_isFree_55 : decode cX7_isFree 55 = .ok (.iload 7, 2) := by decide +kernel
theorem dX7_isFree_57 : decode cX7_isFree 57 = .ok (.iadd, 1) := by decide +kernel
theorem dX7_isFree_58 : decode cX7_isFree 58 = .ok (.iload 8, 2) := by decide +kernel
theorem dX7_isFree_60 : decode cX7_isFree 60 = .ok (.aload_n 0, 1) := by decide +kernel
theorem dX7_isFree_61 : decode cX7_isFree 61 = .ok (.getfield 9, 3) := by decide +kernel
theorem dX7_isFree_64 : decode cX7_isFree 64 = .ok (.iconst 0, 1) := by decide +kernel
theorem dX7_isFree_65 : decode cX7_isFree 65 = .ok (.iaload, 1) := by decide +kernel
theorem dX7_isFree_66 : decode cX7_isFree 66 = .ok (.imul, 1) := by decide +kernel
theorem dX7_isFree_67 : decode cX7_isFree 67 = .ok (.iadd, 1) := by decide +kernel
theorem dX7_isFree_68 : decode cX7_isFree 68 = .ok (.istore 9, 2) := by decide +kernel
theorem dX7_isFree_70 : decode cX7_isFree 70 = .ok (.iload 9, 2) := by decide +kernel
theorem dX7_isFree_72 : decode cX7_isFree 72 = .ok (.iload 4, 2) := by decide +kernel
theorem dX7_isFree_74 : decode cX7_isFree 74 = .ok (.if_icmp .eq 32, 3) := by decide +kernel
theorem dX7_isFree_77 : decode cX7_isFree 77 = .ok (.aload_n 1, 1) := by decide +kernel
theorem dX7_isFree_78 : decode cX7_isFree 78 = .ok (.iload_n 2, 1) := by decide +kernel
theorem dX7_isFree_79 : decode cX7_isFree 79 = .ok (.iload 9, 2) := by decide +kernel
theorem dX7_isFree_81 : decode cX7_isFree 81 = .ok (.iadd, 1) := by decide +kernel
theorem dX7_isFree_82 : decode cX7_isFree 82 = .ok (.iaload, 1) := by decide +kernel
theorem dX7_isFree_83 : decode cX7_isFree 83 = .ok (.ifCond .ne 23, 3) := by decide +kernel
theorem dX7_isFree_86 : decode cX7_isFree 86 = .ok (.iload 9, 2) := by decide +kernel
theorem dX7_isFree_88 : decode cX7_isFree 88 = .ok (.iload 7, 2) := by decide +kernel
theorem dX7_isFree_90 : decode cX7_isFree 90 = .ok (.iload 8, 2) := by decide +kernel
theorem dX7_isFree_92 : decode cX7_isFree 92 = .ok (.aload_n 0, 1) := by decide +kernel
theorem dX7_isFree_93 : decode cX7_isFree 93 = .ok (.getfield 9, 3) := by decide +kernel
theorem dX7_isFree_96 : decode cX7_isFree 96 = .ok (.iconst 0, 1) := by decide +kernel
theorem dX7_isFree_97 : decode cX7_isFree 97 = .ok (.iaload, 1) := by decide +kernel
theorem dX7_isFree_98 : decode cX7_isFree 98 = .ok (.imul, 1) := by decide +kernel
theorem dX7_isFree_99 : decode cX7_isFree 99 = .ok (.iadd, 1) := by decide +kernel
theorem dX7_isFree_100 : decode cX7_isFree 100 = .ok (.iadd, 1) := by decide +kernel
theorem dX7_isFree_101 : decode cX7_isFree 101 = .ok (.istore 9, 2) := by decide +kernel
theorem dX7_isFree_103 : decode cX7_isFree 103 = .ok (.goto (-33), 3) := by decide +kernel
theorem dX7_isFree_106 : decode cX7_isFree 106 = .ok (.iload 9, 2) := by decide +kernel
theorem dX7_isFree_108 : decode cX7_isFree 108 = .ok (.iload 4, 2) := by decide +kernel
theorem dX7_isFree_110 : decode cX7_isFree 110 = .ok (.if_icmp .ne 7, 3) := by decide +kernel
theorem dX7_isFree_113 : decode cX7_isFree 113 = .ok (.iconst 1, 1) := by decide +kernel
theorem dX7_isFree_114 : decode cX7_isFree 114 = .ok (.goto 4, 3) := by decide +kernel
theorem dX7_isFree_117 : decode cX7_isFree 117 = .ok (.iconst 0, 1) := by decide +kernel
theorem dX7_isFree_118 : decode cX7_isFree 118 = .ok (.ireturn, 1) := by decide +kernel
theorem dX7_reaches_0 : decode cX7_reaches 0 = .ok (.iload_n 3, 1) := by decide +kernel
theorem dX7_reaches_1 : decode cX7_reaches 1 = .ok (.aload_n 0, 1) := by decide +kernel
theorem dX7_reaches_2 : decode cX7_reaches 2 = .ok (.getfield 9, 3) := by decide +kernel
theorem dX7_reaches_5 : decode cX7_reaches 5 = .ok (.iconst 0, 1) := by decide +kernel
theorem dX7_reaches_6 : decode cX7_reaches 6 = .ok (.iaload, 1) := by decide +kernel
theorem dX7_reaches_7 : decode cX7_reaches 7 = .ok (.irem, 1) := by decide +kernel
theorem dX7_reaches_8 : decode cX7_reaches 8 = .ok (.iload 4, 2) := by decide +kernel
theorem dX7_reaches_10 : decode cX7_reaches 10 = .ok (.aload_n 0, 1) := by decide +kernel
theorem dX7_reaches_11 : decode cX7_reaches 11 = .ok (.getfield 9, 3) := by decide +kernel
theorem dX7_reaches_14 : decode cX7_reaches 14 = .ok (.iconst 0, 1) := by decide +kernel
theorem dX7_reaches_15 : decode cX7_reaches 15 = .ok (.iaload, 1) := by decide +kernel
theorem dX7_reaches_16 : decode cX7_reaches 16 = .ok (.irem, 1) := by decide +kernel
theorem dX7_reaches_17 : decode cX7_reaches 17 = .ok (.isub, 1) := by decide +kernel
theorem dX7_reaches_18 : decode cX7_reaches 18 = .ok (.invokestatic 108, 3) := by decide +kernel
theorem dX7_reaches_21 : decode cX7_reaches 21 = .ok (.istore 5, 2) := by decide +kernel
theorem dX7_reaches_23 : decode cX7_reaches 23 = .ok (.iload_n 3, 1) := by decide +kernel
theorem dX7_reaches_24 : decode cX7_reaches 24 = .ok (.aload_n 0, 1) := by decide +kernel
theorem dX7_reaches_25 : decode cX7_reaches 25 = .ok (.getfield 9, 3) := by decide +kernel
theorem dX7_reaches_28 : decode cX7_reaches 28 = .ok (.iconst 0, 1) := by decide +kernel
theorem dX7_reaches_29 : decode cX7_reaches 29 = .ok (.iaload, 1) := by decide +kernel
theorem dX7_reaches_30 : decode cX7_reaches 30 = .ok (.idiv, 1) := by decide +kernel
theorem dX7_reaches_31 : decode cX7_reaches 31 = .ok (.iload 4, 2) := by decide +kernel
theorem dX7_reaches_33 : decode cX7_reaches 33 = .ok (.aload_n 0, 1) := by decide +kernel
theorem dX7_reaches_34 : decode cX7_reaches 34 = .ok (.getfield 9, 3) := by decide +kernel
theorem dX7_reaches_37 : decode cX7_reaches 37 = .ok (.iconst 0, 1) := by decide +kernel
theorem dX7_reaches_38 : decode cX7_reaches 38 = .ok (.iaload, 1) := by decide +kernel
theorem dX7_reaches_39 : decode cX7_reaches 39 = .ok (.idiv, 1) := by decide +kernel
theorem dX7_reaches_40 : decode cX7_reaches 40 = .ok (.isub, 1) := by decide +kernel
theorem dX7_reaches_41 : decode cX7_reaches 41 = .ok (.invokestatic 108, 3) := by decide +kernel
theorem dX7_reaches_44 : decode cX7_reaches 44 = .ok (.istore 6, 2) := by decide +kernel
theorem dX7_reaches_46 : decode cX7_reaches 46 = .ok (.iload 5, 2) := by decide +kernel
theorem dX7_reaches_48 : decode cX7_reaches 48 = .ok (.iload 6, 2) := by decide +kernel
theorem dX7_reaches_50 : decode cX7_reaches 50 = .ok (.iadd, 1) := by decide +kernel
theorem dX7_reaches_51 : decode cX7_reaches 51 = .ok (.ifCond .ne 5, 3) := by decide +kernel
theorem dX7_reaches_54 : decode cX7_reaches 54 = .ok (.iconst 0, 1) := by decide +kernel
theorem dX7_reaches_55 : decode cX7_reaches 55 = .ok (.ireturn, 1) := by decide +kernel
theorem dX7_reaches_56 : decode cX7_reaches 56 = .ok (.iload 5, 2) := by decide +kernel
theorem dX7_reaches_58 : decode cX7_reaches 58 = .ok (.ifCond .eq 8, 3) := by decide +kernel
theorem dX7_reaches_61 : decode cX7_reaches 61 = .ok (.iload 6, 2) := by decide +kernel
theorem dX7_reaches_63 : decode cX7_reaches 63 = .ok (.ifCond .ne 7, 3) := by decide +kernel
theorem dX7_reaches_66 : decode cX7_reaches 66 = .ok (.iconst 1, 1) := by decide +kernel
theorem dX7_reaches_67 : decode cX7_reaches 67 = .ok (.goto 4, 3) := by decide +kernel
theorem dX7_reaches_70 : decode cX7_reaches 70 = .ok (.iconst 0, 1) := by decide +kernel
theorem dX7_reaches_71 : decode cX7_reaches 71 = .ok (.istore 7, 2) := by decide +kernel
theorem dX7_reaches_73 : decode cX7_reaches 73 = .ok (.aload_n 1, 1) := by decide +kernel
theorem dX7_reaches_74 : decode cX7_reaches 74 = .ok (.iload_n 2, 1) := by decide +kernel
theorem dX7_reaches_75 : decode cX7_reaches 75 = .ok (.iload_n 3, 1) := by decide +kernel
theorem dX7_reaches_76 : decode cX7_reaches 76 = .ok (.iadd, 1) := by decide +kernel
theorem dX7_reaches_77 : decode cX7_reaches 77 = .ok (.iaload, 1) := by decide +kernel
theorem dX7_reaches_78 : decode cX7_reaches 78 = .ok (.invokestatic 113, 3) := by decide +kernel
theorem dX7_reaches_81 : decode cX7_reaches 81 = .ok (.tableswitch 116 0 4 #[35, 116, 68, 91, 53], 35) := by decide +kernel
theorem dX7_reaches_116 : decode cX7_reaches 116 = .ok (.iload 5, 2) := by decide +kernel
theorem dX7_reaches_118 : decode cX7_reaches 118 = .ok (.iconst 1, 1) := by decide +kernel
theorem dX7_reaches_119 : decode cX7_reaches 119 = .ok (.if_icmp .gt 13, 3) := by decide +kernel
theorem dX7_reaches_122 : decode cX7_reaches 122 = .ok (.iload 6, 2) := by decide +kernel
theorem dX7_reaches_124 : decode cX7_reaches 124 = .ok (.iconst 1, 1) := by decide +kernel
theorem dX7_reaches_125 : decode cX7_reaches 125 = .ok (.if_icmp .gt 7, 3) := by decide +kernel
theorem dX7_reaches_128 : decode cX7_reaches 128 = .ok (.iconst 1, 1) := by decide +kernel
theorem dX7_reaches_129 : decode cX7_reaches 129 = .ok (.goto 4, 3) := by decide +kernel
theorem dX7_reaches_132 : decode cX7_reaches 132 = .ok (.iconst 0, 1) := by decide +kernel
theorem dX7_reaches_133 : decode cX7_reaches 133 = .ok (.ireturn, 1) := by decide +kernel
theorem dX7_reaches_134 : decode cX7_reaches 134 = .ok (.iload 5, 2) := by decide +kernel
theorem dX7_reaches_136 : decode cX7_reaches 136 = .ok (.iload 6, 2) := by decide +kernel
theorem dX7_reaches_138 : decode cX7_reaches 138 = .ok (.imul, 1) := by decide +kernel
theorem dX7_reaches_139 : decode cX7_reaches 139 = .ok (.iconst 2, 1) := by decide +kernel
theorem dX7_reaches_140 : decode cX7_reaches 140 = .ok (.if_icmp .ne 7, 3) := by decide +kernel
theorem dX7_reaches_143 : decode cX7_reaches 143 = .ok (.iconst 1, 1) := by decide +kernel
theorem dX7_reaches_144 : decode cX7_reaches 144 = .ok (.goto 4, 3) := by decide +kernel
theorem dX7_reaches_147 : decode cX7_reaches 147 = .ok (.iconst 0, 1) := by decide +kernel
theorem dX7_reaches_148 : decode cX7_reaches 148 = .ok (.ireturn, 1) := by decide +kernel
theorem dX7_reaches_149 : decode cX7_reaches 149 = .ok (.iload 7, 2) := by decide +kernel
theorem dX7_reaches_151 : decode cX7_reaches 151 = .ok (.ifCond .eq 19, 3) := by decide +kernel
theorem dX7_reaches_154 : decode cX7_reaches 154 = .ok (.aload_n 0, 1) := by decide +kernel
theorem dX7_reaches_155 : decode cX7_reaches 155 = .ok (.aload_n 1, 1) := by decide +kernel
theorem dX7_reaches_156 : decode cX7_reaches 156 = .ok (.iload_n 2, 1) := by decide +kernel
theorem dX7_reaches_157 : decode cX7_reaches 157 = .ok (.iload_n 3, 1) := by decide +kernel
theorem dX7_reaches_158 : decode cX7_reaches 158 = .ok (.iload 4, 2) := by decide +kernel
theorem dX7_reaches_160 : decode cX7_reaches 160 = .ok (.invokevirtual 116, 3) := by decide +kernel
theorem dX7_reaches_163 : decode cX7_reaches 163 = .ok (.ifCond .eq 7, 3) := by decide +kernel
theorem dX7_reaches_166 : decode cX7_reaches 166 = .ok (.iconst 1, 1) := by decide +kernel
theorem dX7_reaches_167 : decode cX7_reaches 167 = .ok (.goto 4, 3) := by decide +kernel
theorem dX7_reaches_170 : decode cX7_reaches 170 = .ok (.iconst 0, 1) := by decide +kernel
theorem dX7_reaches_171 : decode cX7_reaches 171 = .ok (.ireturn, 1) := by decide +kernel
theorem dX7_reaches_172 : decode cX7_reaches 172 = .ok (.iload 5, 2) := by decide +kernel
theorem dX7_reaches_174 : decode cX7_reaches 174 = .ok (.iload 6, 2) := by decide +kernel
theorem dX7_reaches_176 : decode cX7_reaches 176 = .ok (.if_icmp .ne 19, 3) := by decide +kernel
theorem dX7_reaches_179 : decode cX7_reaches 179 = .ok (.aload_n 0, 1) := by decide +kernel
theorem dX7_reaches_180 : decode cX7_reaches 180 = .ok (.aload_n 1, 1) := by decide +kernel
theorem dX7_reaches_181 : decode cX7_reaches 181 = .ok (.iload_n 2, 1) := by decide +kernel
theorem dX7_reaches_182 : decode cX7_reaches 182 = .ok (.iload_n 3, 1) := by decide +kernel
theorem dX7_reaches_183 : decode cX7_reaches 183 = .ok (.iload 4, 2) := by decide +kernel
theorem dX7_reaches_185 : decode cX7_reaches 185 = .ok (.invokevirtual 116, 3) := by decide +kernel
theorem dX7_reaches_188 : decode cX7_reaches 188 = .ok (.ifCond .eq 7, 3) := by decide +kernel
theorem dX7_reaches_191 : decode cX7_reaches 191 = .ok (.iconst 1, 1) := by decide +kernel
theorem dX7_reaches_192 : decode cX7_reaches 192 = .ok (.goto 4, 3) := by decide +kernel
theorem dX7_reaches_195 : decode cX7_reaches 195 = .ok (.iconst 0, 1) := by decide +kernel
theorem dX7_reaches_196 : decode cX7_reaches 196 = .ok (.ireturn, 1) := by decide +kernel
theorem dX7_reaches_197 : decode cX7_reaches 197 = .ok (.iload 7, 2) := by decide +kernel
theorem dX7_reaches_199 : decode cX7_reaches 199 = .ok (.ifCond .ne 10, 3) := by decide +kernel
theorem dX7_reaches_202 : decode cX7_reaches 202 = .ok (.iload 5, 2) := by decide +kernel
theorem dX7_reaches_204 : decode cX7_reaches 204 = .ok (.iload 6, 2) := by decide +kernel
theorem dX7_reaches_206 : decode cX7_reaches 206 = .ok (.if_icmp .ne 19, 3) := by decide +kernel
theorem dX7_reaches_209 : decode cX7_reaches 209 = .ok (.aload_n 0, 1) := by decide +kernel
theorem dX7_reaches_210 : decode cX7_reaches 210 = .ok (.aload_n 1, 1) := by decide +kernel
theorem dX7_reaches_211 : decode cX7_reaches 211 = .ok (.iload_n 2, 1) := by decide +kernel
theorem dX7_reaches_212 : decode cX7_reaches 212 = .ok (.iload_n 3, 1) := by decide +kernel
theorem dX7_reaches_213 : decode cX7_reaches 213 = .ok (.iload 4, 2) := by decide +kernel
theorem dX7_reaches_215 : decode cX7_reaches 215 = .ok (.invokevirtual 116, 3) := by decide +kernel
theorem dX7_reaches_218 : decode cX7_reaches 218 = .ok (.ifCond .eq 7, 3) := by decide +kernel
theorem dX7_reaches_221 : decode cX7_reaches 221 = .ok (.iconst 1, 1) := by decide +kernel
theorem dX7_reaches_222 : decode cX7_reaches 222 = .ok (.goto 4, 3) := by decide +kernel
theorem dX7_reaches_225 : decode cX7_reaches 225 = .ok (.iconst 0, 1) := by decide +kernel
theorem dX7_reaches_226 : decode cX7_reaches 226 = .ok (.ireturn, 1) := by decide +kernel
theorem dX7_attacks_0 : decode cX7_attacks 0 = .ok (.iconst 0, 1) := by decide +kernel
theorem dX7_attacks_1 : decode cX7_attacks 1 = .ok (.istore 5, 2) := by decide +kernel
theorem dX7_attacks_3 : decode cX7_attacks 3 = .ok (.iload 5, 2) := by decide +kernel
theorem dX7_attacks_5 : decode cX7_attacks 5 = .ok (.aload_n 0, 1) := by decide +kernel
theorem dX7_attacks_6 : decode cX7_attacks 6 = .ok (.invokevirtual 120, 3) := by decide +kernel
theorem dX7_attacks_9 : decode cX7_attacks 9 = .ok (.if_icmp .ge 37, 3) := by decide +kernel
theorem dX7_attacks_12 : decode cX7_attacks 12 = .ok (.aload_n 1, 1) := by decide +kernel
theorem dX7_attacks_13 : decode cX7_attacks 13 = .ok (.iload_n 2, 1) := by decide +kernel
theorem dX7_attacks_14 : decode cX7_attacks 14 = .ok (.iload 5, 2) := by decide +kernel
theorem dX7_attacks_16 : decode cX7_attacks 16 = .ok (.iadd, 1) := by decide +kernel
theorem dX7_attacks_17 : decode cX7_attacks 17 = .ok (.iaload, 1) := by decide +kernel
theorem dX7_attacks_18 : decode cX7_attacks 18 = .ok (.iload_n 3, 1) := by decide +kernel
theorem dX7_attacks_19 : decode cX7_attacks 19 = .ok (.invokestatic 123, 3) := by decide +kernel
theorem dX7_attacks_22 : decode cX7_attacks 22 = .ok (.ifCond .eq 18, 3) := by decide +kernel
theorem dX7_attacks_25 : decode cX7_attacks 25 = .ok (.aload_n 0, 1) := by decide +kernel
theorem dX7_attacks_26 : decode cX7_attacks 26 = .ok (.aload_n 1, 1) := by decide +kernel
theorem dX7_attacks_27 : decode cX7_attacks 27 = .ok (.iload_n 2, 1) := by decide +kernel
theorem dX7_attacks_28 : decode cX7_attacks 28 = .ok (.iload 5, 2) := by decide +kernel
theorem dX7_attacks_30 : decode cX7_attacks 30 = .ok (.iload 4, 2) := by decide +kernel
theorem dX7_attacks_32 : decode cX7_attacks 32 = .ok (.invokevirtual 127, 3) := by decide +kernel
theorem dX7_attacks_35 : decode cX7_attacks 35 = .ok (.ifCond .eq 5, 3) := by decide +kernel
theorem dX7_attacks_38 : decode cX7_attacks 38 = .ok (.iconst 1, 1) := by decide +kernel
theorem dX7_attacks_39 : decode cX7_attacks 39 = .ok (.ireturn, 1) := by decide +kernel
theorem dX7_attacks_40 : decode cX7_attacks 40 = .ok (.iinc 5 1, 3) := by decide +kernel
theorem dX7_attacks_43 : decode cX7_attacks 43 = .ok (.goto (-40), 3) := by decide +kernel
theorem dX7_attacks_46 : decode cX7_attacks 46 = .ok (.iconst 0, 1) := by decide +kernel
theorem dX7_attacks_47 : decode cX7_attacks 47 = .ok (.ireturn, 1) := by decide +kernel
theorem dX7_kingOf_0 : decode cX7_kingOf 0 = .ok (.iconst 0, 1) := by decide +kernel
theorem dX7_kingOf_1 : decode cX7_kingOf 1 = .ok (.istore 4, 2) := by decide +kernel
theorem dX7_kingOf_3 : decode cX7_kingOf 3 = .ok (.iload 4, 2) := by decide +kernel
theorem dX7_kingOf_5 : decode cX7_kingOf 5 = .ok (.aload_n 0, 1) := by decide +kernel
theorem dX7_kingOf_6 : decode cX7_kingOf 6 = .ok (.invokevirtual 120, 3) := by decide +kernel
theorem dX7_kingOf_9 : decode cX7_kingOf 9 = .ok (.if_icmp .ge 26, 3) := by decide +kernel
theorem dX7_kingOf_12 : decode cX7_kingOf 12 = .ok (.aload_n 1, 1) := by decide +kernel
theorem dX7_kingOf_13 : decode cX7_kingOf 13 = .ok (.iload_n 2, 1) := by decide +kernel
theorem dX7_kingOf_14 : decode cX7_kingOf 14 = .ok (.iload 4, 2) := by decide +kernel
theorem dX7_kingOf_16 : decode cX7_kingOf 16 = .ok (.iadd, 1) := by decide +kernel
theorem dX7_kingOf_17 : decode cX7_kingOf 17 = .ok (.iaload, 1) := by decide +kernel
theorem dX7_kingOf_18 : decode cX7_kingOf 18 = .ok (.iload_n 3, 1) := by decide +kernel
theorem dX7_kingOf_19 : decode cX7_kingOf 19 = .ok (.iconst 0, 1) := by decide +kernel
theorem dX7_kingOf_20 : decode cX7_kingOf 20 = .ok (.invokestatic 130, 3) := by decide +kernel
theorem dX7_kingOf_23 : decode cX7_kingOf 23 = .ok (.if_icmp .ne 6, 3) := by decide +kernel
theorem dX7_kingOf_26 : decode cX7_kingOf 26 = .ok (.iload 4, 2) := by decide +kernel
theorem dX7_kingOf_28 : decode cX7_kingOf 28 = .ok (.ireturn, 1) := by decide +kernel
theorem dX7_kingOf_29 : decode cX7_kingOf 29 = .ok (.iinc 4 1, 3) := by decide +kernel
theorem dX7_kingOf_32 : decode cX7_kingOf 32 = .ok (.goto (-29), 3) := by decide +kernel
theorem dX7_kingOf_35 : decode cX7_kingOf 35 = .ok (.iconst (-1), 1) := by decide +kernel
theorem dX7_kingOf_36 : decode cX7_kingOf 36 = .ok (.ireturn, 1) := by decide +kernel
theorem dX7_position_0 : decode cX7_position 0 = .ok (.iload_n 0, 1) := by decide +kernel
theorem dX7_position_1 : decode cX7_position 1 = .ok (.bipush 40, 2) := by decide +kernel
theorem dX7_position_3 : decode cX7_position 3 = .ok (.imul, 1) := by decide +kernel
theorem dX7_position_4 : decode cX7_position 4 = .ok (.iload_n 1, 1) := by decide +kernel
theorem dX7_position_5 : decode cX7_position 5 = .ok (.iadd, 1) := by decide +kernel
theorem dX7_position_6 : decode cX7_position 6 = .ok (.bipush 36, 2) := by decide +kernel
theorem dX7_position_8 : decode cX7_position 8 = .ok (.imul, 1) := by decide +kernel
theorem dX7_position_9 : decode cX7_position 9 = .ok (.ireturn, 1) := by decide +kernel
theorem dX7_moves_0 : decode cX7_moves 0 = .ok (.iload_n 1, 1) := by decide +kernel
theorem dX7_moves_1 : decode cX7_moves 1 = .ok (.iload_n 2, 1) := by decide +kernel
theorem dX7_moves_2 : decode cX7_moves 2 = .ok (.invokestatic 134, 3) := by decide +kernel
theorem dX7_moves_5 : decode cX7_moves 5 = .ok (.istore 6, 2) := by decide +kernel
theorem dX7_moves_7 : decode cX7_moves 7 = .ok (.aload_n 0, 1) := by decide +kernel
theorem dX7_moves_8 : decode cX7_moves 8 = .ok (.getfield 36, 3) := by decide +kernel
theorem dX7_moves_11 : decode cX7_moves 11 = .ok (.iload 6, 2) := by decide +kernel
theorem dX7_moves_13 : decode cX7_moves 13 = .ok (.iload_n 3, 1) := by decide +kernel
theorem dX7_moves_14 : decode cX7_moves 14 = .ok (.iadd, 1) := by decide +kernel
theorem dX7_moves_15 : decode cX7_moves 15 = .ok (.iaload, 1) := by decide +kernel
theorem dX7_moves_16 : decode cX7_moves 16 = .ok (.iload 5, 2) := by decide +kernel
theorem dX7_moves_18 : decode cX7_moves 18 = .ok (.invokestatic 123, 3) := by decide +kernel
theorem dX7_moves_21 : decode cX7_moves 21 = .ok (.ifCond .eq 19, 3) := by decide +kernel
theorem dX7_moves_24 : decode cX7_moves 24 = .ok (.aload_n 0, 1) := by decide +kernel
theorem dX7_moves_25 : decode cX7_moves 25 = .ok (.aload_n 0, 1) := by decide +kernel
theorem dX7_moves_26 : decode cX7_moves 26 = .ok (.getfield 36, 3) := by decide +kernel
theorem dX7_moves_29 : decode cX7_moves 29 = .ok (.iload 6, 2) := by decide +kernel
theorem dX7_moves_31 : decode cX7_moves 31 = .ok (.iload_n 3, 1) := by decide +kernel
theorem dX7_moves_32 : decode cX7_moves 32 = .ok (.iload 4, 2) := by decide +kernel
theorem dX7_moves_34 : decode cX7_moves 34 = .ok (.invokevirtual 127, 3) := by decide +kernel
theorem dX7_moves_37 : decode cX7_moves 37 = .ok (.ifCond .ne 5, 3) := by decide +kernel
theorem dX7_moves_40 : decode cX7_moves 40 = .ok (.iconst 0, 1) := by decide +kernel
theorem dX7_moves_41 : decode cX7_moves 41 = .ok (.ireturn, 1) := by decide +kernel
theorem dX7_moves_42 : decode cX7_moves 42 = .ok (.aload_n 0, 1) := by decide +kernel
theorem dX7_moves_43 : decode cX7_moves 43 = .ok (.getfield 36, 3) := by decide +kernel
theorem dX7_moves_46 : decode cX7_moves 46 = .ok (.iload 6, 2) := by decide +kernel
theorem dX7_moves_48 : decode cX7_moves 48 = .ok (.iload 4, 2) := by decide +kernel
theorem dX7_moves_50 : decode cX7_moves 50 = .ok (.iadd, 1) := by decide +kernel
theorem dX7_moves_51 : decode cX7_moves 51 = .ok (.iaload, 1) := by decide +kernel
theorem dX7_moves_52 : decode cX7_moves 52 = .ok (.istore 7, 2) := by decide +kernel
theorem dX7_moves_54 : decode cX7_moves 54 = .ok (.iload 7, 2) := by decide +kernel
theorem dX7_moves_56 : decode cX7_moves 56 = .ok (.ifCond .le 23, 3) := by decide +kernel
theorem dX7_moves_59 : decode cX7_moves 59 = .ok (.iload 7, 2) := by decide +kernel
theorem dX7_moves_61 : decode cX7_moves 61 = .ok (.iload 5, 2) := by decide +kernel
theorem dX7_moves_63 : decode cX7_moves 63 = .ok (.invokestatic 123, 3) := by decide +kernel
theorem dX7_moves_66 : decode cX7_moves 66 = .ok (.ifCond .ne 11, 3) := by decide +kernel
theorem dX7_moves_69 : decode cX7_moves 69 = .ok (.iload 7, 2) := by decide +kernel
theorem dX7_moves_71 : decode cX7_moves 71 = .ok (.invokestatic 113, 3) := by decide +kernel
theorem dX7_moves_74 : decode cX7_moves 74 = .ok (.ifCond .ne 5, 3) := by decide +kernel
theorem dX7_moves_77 : decode cX7_moves 77 = .ok (.iconst 0, 1) := by decide +kernel
theorem dX7_moves_78 : decode cX7_moves 78 = .ok (.ireturn, 1) := by decide +kernel
theorem dX7_moves_79 : decode cX7_moves 79 = .ok (.aload_n 0, 1) := by decide +kernel
theorem dX7_moves_80 : decode cX7_moves 80 = .ok (.getfield 36, 3) := by decide +kernel
theorem dX7_moves_83 : decode cX7_moves 83 = .ok (.iload 6, 2) := by decide +kernel
theorem dX7_moves_85 : decode cX7_moves 85 = .ok (.aload_n 0, 1) := by decide +kernel
theorem dX7_moves_86 : decode cX7_moves 86 = .ok (.getfield 48, 3) := by decide +kernel
theorem dX7_moves_89 : decode cX7_moves 89 = .ok (.iconst 0, 1) := by decide +kernel
theorem dX7_moves_90 : decode cX7_moves 90 = .ok (.bipush 36, 2) := by decide +kernel
theorem dX7_moves_92 : decode cX7_moves 92 = .ok (.invokestatic 89, 3) := by decide +kernel
theorem dX7_moves_95 : decode cX7_moves 95 = .ok (.aload_n 0, 1) := by decide +kernel
theorem dX7_moves_96 : decode cX7_moves 96 = .ok (.getfield 48, 3) := by decide +kernel
theorem dX7_moves_99 : decode cX7_moves 99 = .ok (.iload 4, 2) := by decide +kernel
theorem dX7_moves_101 : decode cX7_moves 101 = .ok (.aload_n 0, 1) := by decide +kernel
theorem dX7_moves_102 : decode cX7_moves 102 = .ok (.getfield 48, 3) := by decide +kernel
theorem dX7_moves_105 : decode cX7_moves 105 = .ok (.iload_n 3, 1) := by decide +kernel
theorem dX7_moves_106 : decode cX7_moves 106 = .ok (.iaload, 1) := by decide +kernel
theorem dX7_moves_107 : decode cX7_moves 107 = .ok (.iastore, 1) := by decide +kernel
theorem dX7_moves_108 : decode cX7_moves 108 = .ok (.aload_n 0, 1) := by decide +kernel
theorem dX7_moves_109 : decode cX7_moves 109 = .ok (.getfield 48, 3) := by decide +kernel
theorem dX7_moves_112 : decode cX7_moves 112 = .ok (.iload_n 3, 1) := by decide +kernel
theorem dX7_moves_113 : decode cX7_moves 113 = .ok (.iconst 0, 1) := by decide +kernel
theorem dX7_moves_114 : decode cX7_moves 114 = .ok (.iastore, 1) := by decide +kernel
theorem dX7_moves_115 : decode cX7_moves 115 = .ok (.aload_n 0, 1) := by decide +kernel
theorem dX7_moves_116 : decode cX7_moves 116 = .ok (.aload_n 0, 1) := by decide +kernel
theorem dX7_moves_117 : decode cX7_moves 117 = .ok (.getfield 48, 3) := by decide +kernel
theorem dX7_moves_120 : decode cX7_moves 120 = .ok (.iconst 0, 1) := by decide +kernel
theorem dX7_moves_121 : decode cX7_moves 121 = .ok (.iconst 1, 1) := by decide +kernel
theorem dX7_moves_122 : decode cX7_moves 122 = .ok (.iload 5, 2) := by decide +kernel
theorem dX7_moves_124 : decode cX7_moves 124 = .ok (.isub, 1) := by decide +kernel
theorem dX7_moves_125 : decode cX7_moves 125 = .ok (.aload_n 0, 1) := by decide +kernel
theorem dX7_moves_126 : decode cX7_moves 126 = .ok (.aload_n 0, 1) := by decide +kernel
theorem dX7_moves_127 : decode cX7_moves 127 = .ok (.getfield 48, 3) := by decide +kernel
theorem dX7_moves_130 : decode cX7_moves 130 = .ok (.iconst 0, 1) := by decide +kernel
theorem dX7_moves_131 : decode cX7_moves 131 = .ok (.iload 5, 2) := by decide +kernel
theorem dX7_moves_133 : decode cX7_moves 133 = .ok (.invokevirtual 137, 3) := by decide +kernel
theorem dX7_moves_136 : decode cX7_moves 136 = .ok (.invokevirtual 141, 3) := by decide +kernel
theorem dX7_moves_139 : decode cX7_moves 139 = .ok (.ifCond .ne 7, 3) := by decide +kernel
theorem dX7_moves_142 : decode cX7_moves 142 = .ok (.iconst 1, 1) := by decide +kernel
theorem dX7_moves_143 : decode cX7_moves 143 = .ok (.goto 4, 3) := by decide +kernel
theorem dX7_moves_146 : decode cX7_moves 146 = .ok (.iconst 0, 1) := by decide +kernel
theorem dX7_moves_147 : decode cX7_moves 147 = .ok (.ireturn, 1) := by decide +kernel
theorem dX7_of_0 : decode cX7_of 0 = .ok (.aload_n 0, 1) := by decide +kernel
theorem dX7_of_1 : decode cX7_of 1 = .ok (.getfield 9, 3) := by decide +kernel
theorem dX7_of_4 : decode cX7_of 4 = .ok (.bipush 39, 2) := by decide +kernel
theorem dX7_of_6 : decode cX7_of 6 = .ok (.bipush 7, 2) := by decide +kernel
theorem dX7_of_8 : decode cX7_of 8 = .ok (.iload_n 1, 1) := by decide +kernel
theorem dX7_of_9 : decode cX7_of 9 = .ok (.imul, 1) := by decide +kernel
theorem dX7_of_10 : decode cX7_of 10 = .ok (.iadd, 1) := by decide +kernel
theorem dX7_of_11 : decode cX7_of 11 = .ok (.iload_n 2, 1) := by decide +kernel
theorem dX7_of_12 : decode cX7_of 12 = .ok (.iadd, 1) := by decide +kernel
theorem dX7_of_13 : decode cX7_of 13 = .ok (.iaload, 1) := by decide +kernel
theorem dX7_of_14 : decode cX7_of 14 = .ok (.ireturn, 1) := by decide +kernel
theorem dX7_isOpen_0 : decode cX7_isOpen 0 = .ok (.iload_n 0, 1) := by decide +kernel
theorem dX7_isOpen_1 : decode cX7_isOpen 1 = .ok (.iconst (-1), 1) := by decide +kernel
theorem dX7_isOpen_2 : decode cX7_isOpen 2 = .ok (.if_icmp .eq 8, 3) := by decide +kernel
theorem dX7_isOpen_5 : decode cX7_isOpen 5 = .ok (.iload_n 0, 1) := by decide +kernel
theorem dX7_isOpen_6 : decode cX7_isOpen 6 = .ok (.iload_n 1, 1) := by decide +kernel
theorem dX7_isOpen_7 : decode cX7_isOpen 7 = .ok (.if_icmp .ne 7, 3) := by decide +kernel
theorem dX7_isOpen_10 : decode cX7_isOpen 10 = .ok (.iconst 1, 1) := by decide +kernel
theorem dX7_isOpen_11 : decode cX7_isOpen 11 = .ok (.goto 4, 3) := by decide +kernel
theorem dX7_isOpen_14 : decode cX7_isOpen 14 = .ok (.iconst 0, 1) := by decide +kernel
theorem dX7_isOpen_15 : decode cX7_isOpen 15 = .ok (.ireturn, 1) := by decide +kernel
theorem dX7_agrees_0 : decode cX7_agrees 0 = .ok (.aload_n 0, 1) := by decide +kernel
theorem dX7_agrees_1 : decode cX7_agrees 1 = .ok (.getfield 9, 3) := by decide +kernel
theorem dX7_agrees_4 : decode cX7_agrees 4 = .ok (.iconst 0, 1) := by decide +kernel
theorem dX7_agrees_5 : decode cX7_agrees 5 = .ok (.iaload, 1) := by decide +kernel
theorem dX7_agrees_6 : decode cX7_agrees 6 = .ok (.istore 7, 2) := by decide +kernel
theorem dX7_agrees_8 : decode cX7_agrees 8 = .ok (.aload_n 0, 1) := by decide +kernel
theorem dX7_agrees_9 : decode cX7_agrees 9 = .ok (.iload_n 1, 1) := by decide +kernel
theorem dX7_agrees_10 : decode cX7_agrees 10 = .ok (.iconst 0, 1) := by decide +kernel
theorem dX7_agrees_11 : decode cX7_agrees 11 = .ok (.invokevirtual 144, 3) := by decide +kernel
theorem dX7_agrees_14 : decode cX7_agrees 14 = .ok (.aload_n 0, 1) := by decide +kernel
theorem dX7_agrees_15 : decode cX7_agrees 15 = .ok (.getfield 48, 3) := by decide +kernel
theorem dX7_agrees_18 : decode cX7_agrees 18 = .ok (.iload 5, 2) := by decide +kernel
theorem dX7_agrees_20 : decode cX7_agrees 20 = .ok (.iaload, 1) := by decide +kernel
theorem dX7_agrees_21 : decode cX7_agrees 21 = .ok (.invokestatic 113, 3) := by decide +kernel
theorem dX7_agrees_24 : decode cX7_agrees 24 = .ok (.invokestatic 147, 3) := by decide +kernel
theorem dX7_agrees_27 : decode cX7_agrees 27 = .ok (.ifCond .eq 71, 3) := by decide +kernel
theorem dX7_agrees_30 : decode cX7_agrees 30 = .ok (.aload_n 0, 1) := by decide +kernel
theorem dX7_agrees_31 : decode cX7_agrees 31 = .ok (.iload_n 1, 1) := by decide +kernel
theorem dX7_agrees_32 : decode cX7_agrees 32 = .ok (.iconst 1, 1) := by decide +kernel
theorem dX7_agrees_33 : decode cX7_agrees 33 = .ok (.invokevirtual 144, 3) := by decide +kernel
theorem dX7_agrees_36 : decode cX7_agrees 36 = .ok (.iload 4, 2) := by decide +kernel
theorem dX7_agrees_38 : decode cX7_agrees 38 = .ok (.iload 7, 2) := by decide +kernel
theorem dX7_agrees_40 : decode cX7_agrees 40 = .ok (.irem, 1) := by decide +kernel
theorem dX7_agrees_41 : decode cX7_agrees 41 = .ok (.invokestatic 147, 3) := by decide +kernel
theorem dX7_agrees_44 : decode cX7_agrees 44 = .ok (.ifCond .eq 54, 3) := by decide +kernel
theorem dX7_agrees_47 : decode cX7_agrees 47 = .ok (.aload_n 0, 1) := by decide +kernel
theorem dX7_agrees_48 : decode cX7_agrees 48 = .ok (.iload_n 1, 1) := by decide +kernel
theorem dX7_agrees_49 : decode cX7_agrees 49 = .ok (.iconst 2, 1) := by decide +kernel
theorem dX7_agrees_50 : decode cX7_agrees 50 = .ok (.invokevirtual 144, 3) := by decide +kernel
theorem dX7_agrees_53 : decode cX7_agrees 53 = .ok (.iload 4, 2) := by decide +kernel
theorem dX7_agrees_55 : decode cX7_agrees 55 = .ok (.iload 7, 2) := by decide +kernel
theorem dX7_agrees_57 : decode cX7_agrees 57 = .ok (.idiv, 1) := by decide +kernel
theorem dX7_agrees_58 : decode cX7_agrees 58 = .ok (.invokestatic 147, 3) := by decide +kernel
theorem dX7_agrees_61 : decode cX7_agrees 61 = .ok (.ifCond .eq 37, 3) := by decide +kernel
theorem dX7_agrees_64 : decode cX7_agrees 64 = .ok (.aload_n 0, 1) := by decide +kernel
theorem dX7_agrees_65 : decode cX7_agrees 65 = .ok (.iload_n 1, 1) := by decide +kernel
theorem dX7_agrees_66 : decode cX7_agrees 66 = .ok (.iconst 3, 1) := by decide +kernel
theorem dX7_agrees_67 : decode cX7_agrees 67 = .ok (.invokevirtual 144, 3) := by decide +kernel
theorem dX7_agrees_70 : decode cX7_agrees 70 = .ok (.iload 5, 2) := by decide +kernel
theorem dX7_agrees_72 : decode cX7_agrees 72 = .ok (.iload 7, 2) := by decide +kernel
theorem dX7_agrees_74 : decode cX7_agrees 74 = .ok (.irem, 1) := by decide +kernel
theorem dX7_agrees_75 : decode cX7_agrees 75 = .ok (.invokestatic 147, 3) := by decide +kernel
theorem dX7_agrees_78 : decode cX7_agrees 78 = .ok (.ifCond .eq 20, 3) := by decide +kernel
theorem dX7_agrees_81 : decode cX7_agrees 81 = .ok (.aload_n 0, 1) := by decide +kernel
theorem dX7_agrees_82 : decode cX7_agrees 82 = .ok (.iload_n 1, 1) := by decide +kernel
theorem dX7_agrees_83 : decode cX7_agrees 83 = .ok (.iconst 4, 1) := by decide +kernel
theorem dX7_agrees_84 : decode cX7_agrees 84 = .ok (.invokevirtual 144, 3) := by decide +kernel
theorem dX7_agrees_87 : decode cX7_agrees 87 = .ok (.iload 5, 2) := by decide +kernel
theorem dX7_agrees_89 : decode cX7_agrees 89 = .ok (.iload 7, 2) := by decide +kernel
theorem dX7_agrees_91 : decode cX7_agrees 91 = .ok (.idiv, 1) := by decide +kernel
theorem dX7_agrees_92 : decode cX7_agrees 92 = .ok (.invokestatic 147, 3) := by decide +kernel
theorem dX7_agrees_95 : decode cX7_agrees 95 = .ok (.ifCond .ne 5, 3) := by decide +kernel
theorem dX7_agrees_98 : decode cX7_agrees 98 = .ok (.iconst 0, 1) := by decide +kernel
theorem dX7_agrees_99 : decode cX7_agrees 99 = .ok (.ireturn, 1) := by decide +kernel
theorem dX7_agrees_100 : decode cX7_agrees 100 = .ok (.aload_n 0, 1) := by decide +kernel
theorem dX7_agrees_101 : decode cX7_agrees 101 = .ok (.iload_n 1, 1) := by decide +kernel
theorem dX7_agrees_102 : decode cX7_agrees 102 = .ok (.iconst 5, 1) := by decide +kernel
theorem dX7_agrees_103 : decode cX7_agrees 103 = .ok (.invokevirtual 144, 3) := by decide +kernel
theorem dX7_agrees_106 : decode cX7_agrees 106 = .ok (.iconst 1, 1) := by decide +kernel
theorem dX7_agrees_107 : decode cX7_agrees 107 = .ok (.if_icmp .ne 21, 3) := by decide +kernel
theorem dX7_agrees_110 : decode cX7_agrees 110 = .ok (.aload_n 0, 1) := by decide +kernel
theorem dX7_agrees_111 : decode cX7_agrees 111 = .ok (.getfield 36, 3) := by decide +kernel
theorem dX7_agrees_114 : decode cX7_agrees 114 = .ok (.iload_n 2, 1) := by decide +kernel
theorem dX7_agrees_115 : decode cX7_agrees 115 = .ok (.iload_n 3, 1) := by decide +kernel
theorem dX7_agrees_116 : decode cX7_agrees 116 = .ok (.invokestatic 134, 3) := by decide +kernel
theorem dX7_agrees_119 : decode cX7_agrees 119 = .ok (.iload 5, 2) := by decide +kernel
theorem dX7_agrees_121 : decode cX7_agrees 121 = .ok (.iadd, 1) := by decide +kernel
theorem dX7_agrees_122 : decode cX7_agrees 122 = .ok (.iaload, 1) := by decide +kernel
theorem dX7_agrees_123 : decode cX7_agrees 123 = .ok (.ifCond .ne 5, 3) := by decide +kernel
theorem dX7_agrees_126 : decode cX7_agrees 126 = .ok (.iconst 0, 1) := by decide +kernel
theorem dX7_agrees_127 : decode cX7_agrees 127 = .ok (.ireturn, 1) := by decide +kernel
theorem dX7_agrees_128 : decode cX7_agrees 128 = .ok (.aload_n 0, 1) := by decide +kernel
theorem dX7_agrees_129 : decode cX7_agrees 129 = .ok (.iload_n 1, 1) := by decide +kernel
theorem dX7_agrees_130 : decode cX7_agrees 130 = .ok (.bipush 6, 2) := by decide +kernel
theorem dX7_agrees_132 : decode cX7_agrees 132 = .ok (.invokevirtual 144, 3) := by decide +kernel
theorem dX7_agrees_135 : decode cX7_agrees 135 = .ok (.ifCond .eq 30, 3) := by decide +kernel
theorem dX7_agrees_138 : decode cX7_agrees 138 = .ok (.aload_n 0, 1) := by decide +kernel
theorem dX7_agrees_139 : decode cX7_agrees 139 = .ok (.aload_n 0, 1) := by decide +kernel
theorem dX7_agrees_140 : decode cX7_agrees 140 = .ok (.getfield 48, 3) := by decide +kernel
theorem dX7_agrees_143 : decode cX7_agrees 143 = .ok (.iconst 0, 1) := by decide +kernel
theorem dX7_agrees_144 : decode cX7_agrees 144 = .ok (.iload 6, 2) := by decide +kernel
theorem dX7_agrees_146 : decode cX7_agrees 146 = .ok (.aload_n 0, 1) := by decide +kernel
theorem dX7_agrees_147 : decode cX7_agrees 147 = .ok (.aload_n 0, 1) := by decide +kernel
theorem dX7_agrees_148 : decode cX7_agrees 148 = .ok (.getfield 48, 3) := by decide +kernel
theorem dX7_agrees_151 : decode cX7_agrees 151 = .ok (.iconst 0, 1) := by decide +kernel
theorem dX7_agrees_152 : decode cX7_agrees 152 = .ok (.iconst 1, 1) := by decide +kernel
theorem dX7_agrees_153 : decode cX7_agrees 153 = .ok (.iload 6, 2) := by decide +kernel
theorem dX7_agrees_155 : decode cX7_agrees 155 = .ok (.isub, 1) := by decide +kernel
theorem dX7_agrees_156 : decode cX7_agrees 156 = .ok (.invokevirtual 137, 3) := by decide +kernel
theorem dX7_agrees_159 : decode cX7_agrees 159 = .ok (.invokevirtual 141, 3) := by decide +kernel
theorem dX7_agrees_162 : decode cX7_agrees 162 = .ok (.ifCond .eq 7, 3) := by decide +kernel
theorem dX7_agrees_165 : decode cX7_agrees 165 = .ok (.iconst 1, 1) := by decide +kernel
theorem dX7_agrees_166 : decode cX7_agrees 166 = .ok (.goto 4, 3) := by decide +kernel
theorem dX7_agrees_169 : decode cX7_agrees 169 = .ok (.iconst 0, 1) := by decide +kernel
theorem dX7_agrees_170 : decode cX7_agrees 170 = .ok (.ireturn, 1) := by decide +kernel
theorem dX7_numberOf_0 : decode cX7_numberOf 0 = .ok (.iconst 0, 1) := by decide +kernel
theorem dX7_numberOf_1 : decode cX7_numberOf 1 = .ok (.istore_n 2, 1) := by decide +kernel
theorem dX7_numberOf_2 : decode cX7_numberOf 2 = .ok (.iload_n 2, 1) := by decide +kernel
theorem dX7_numberOf_3 : decode cX7_numberOf 3 = .ok (.aload_n 0, 1) := by decide +kernel
theorem dX7_numberOf_4 : decode cX7_numberOf 4 = .ok (.getfield 39, 3) := by decide +kernel
theorem dX7_numberOf_7 : decode cX7_numberOf 7 = .ok (.iload_n 1, 1) := by decide +kernel
theorem dX7_numberOf_8 : decode cX7_numberOf 8 = .ok (.iaload, 1) := by decide +kernel
theorem dX7_numberOf_9 : decode cX7_numberOf 9 = .ok (.if_icmp .ge 63, 3) := by decide +kernel
theorem dX7_numberOf_12 : decode cX7_numberOf 12 = .ok (.iload_n 1, 1) := by decide +kernel
theorem dX7_numberOf_13 : decode cX7_numberOf 13 = .ok (.iload_n 2, 1) := by decide +kernel
theorem dX7_numberOf_14 : decode cX7_numberOf 14 = .ok (.invokestatic 134, 3) := by decide +kernel
theorem dX7_numberOf_17 : decode cX7_numberOf 17 = .ok (.istore_n 3, 1) := by decide +kernel
theorem dX7_numberOf_18 : decode cX7_numberOf 18 = .ok (.iconst 0, 1) := by decide +kernel
theorem dX7_numberOf_19 : decode cX7_numberOf 19 = .ok (.istore 4, 2) := by decide +kernel
theorem dX7_numberOf_21 : decode cX7_numberOf 21 = .ok (.iload 4, 2) := by decide +kernel
theorem dX7_numberOf_23 : decode cX7_numberOf 23 = .ok (.aload_n 0, 1) := by decide +kernel
theorem dX7_numberOf_24 : decode cX7_numberOf 24 = .ok (.invokevirtual 120, 3) := by decide +kernel
theorem dX7_numberOf_27 : decode cX7_numberOf 27 = .ok (.if_icmp .ge 28, 3) := by decide +kernel
theorem dX7_numberOf_30 : decode cX7_numberOf 30 = .ok (.aload_n 0, 1) := by decide +kernel
theorem dX7_numberOf_31 : decode cX7_numberOf 31 = .ok (.getfield 36, 3) := by decide +kernel
theorem dX7_numberOf_34 : decode cX7_numberOf 34 = .ok (.iload_n 3, 1) := by decide +kernel
theorem dX7_numberOf_35 : decode cX7_numberOf 35 = .ok (.iload 4, 2) := by decide +kernel
theorem dX7_numberOf_37 : decode cX7_numberOf 37 = .ok (.iadd, 1) := by decide +kernel
theorem dX7_numberOf_38 : decode cX7_numberOf 38 = .ok (.iaload, 1) := by decide +kernel
theorem dX7_numberOf_39 : decode cX7_numberOf 39 = .ok (.aload_n 0, 1) := by decide +kernel
theorem dX7_numberOf_40 : decode cX7_numberOf 40 = .ok (.getfield 48, 3) := by decide +kernel
theorem dX7_numberOf_43 : decode cX7_numberOf 43 = .ok (.iload 4, 2) := by decide +kernel
theorem dX7_numberOf_45 : decode cX7_numberOf 45 = .ok (.iaload, 1) := by decide +kernel
theorem dX7_numberOf_46 : decode cX7_numberOf 46 = .ok (.if_icmp .ne 9, 3) := by decide +kernel
theorem dX7_numberOf_49 : decode cX7_numberOf 49 = .ok (.iinc 4 1, 3) := by decide +kernel
theorem dX7_numberOf_52 : decode cX7_numberOf 52 = .ok (.goto (-31), 3) := by decide +kernel
theorem dX7_numberOf_55 : decode cX7_numberOf 55 = .ok (.iload 4, 2) := by decide +kernel
theorem dX7_numberOf_57 : decode cX7_numberOf 57 = .ok (.aload_n 0, 1) := by decide +kernel
theorem dX7_numberOf_58 : decode cX7_numberOf 58 = .ok (.invokevirtual 120, 3) := by decide +kernel
theorem dX7_numberOf_61 : decode cX7_numberOf 61 = .ok (.if_icmp .ne 5, 3) := by decide +kernel
theorem dX7_numberOf_64 : decode cX7_numberOf 64 = .ok (.iload_n 2, 1) := by decide +kernel
theorem dX7_numberOf_65 : decode cX7_numberOf 65 = .ok (.ireturn, 1) := by decide +kernel
theorem dX7_numberOf_66 : decode cX7_numberOf 66 = .ok (.iinc 2 1, 3) := by decide +kernel
theorem dX7_numberOf_69 : decode cX7_numberOf 69 = .ok (.goto (-67), 3) := by decide +kernel
theorem dX7_numberOf_72 : decode cX7_numberOf 72 = .ok (.aload_n 0, 1) := by decide +kernel
theorem dX7_numberOf_73 : decode cX7_numberOf 73 = .ok (.getfield 39, 3) := by decide +kernel
theorem dX7_numberOf_76 : decode cX7_numberOf 76 = .ok (.iload_n 1, 1) := by decide +kernel
theorem dX7_numberOf_77 : decode cX7_numberOf 77 = .ok (.iaload, 1) := by decide +kernel
theorem dX7_numberOf_78 : decode cX7_numberOf 78 = .ok (.bipush 40, 2) := by decide +kernel
theorem dX7_numberOf_80 : decode cX7_numberOf 80 = .ok (.if_icmp .ne 5, 3) := by decide +kernel
theorem dX7_numberOf_83 : decode cX7_numberOf 83 = .ok (.iconst (-1), 1) := by decide +kernel
theorem dX7_numberOf_84 : decode cX7_numberOf 84 = .ok (.ireturn, 1) := by decide +kernel
theorem dX7_numberOf_85 : decode cX7_numberOf 85 = .ok (.aload_n 0, 1) := by decide +kernel
theorem dX7_numberOf_86 : decode cX7_numberOf 86 = .ok (.getfield 48, 3) := by decide +kernel
theorem dX7_numberOf_89 : decode cX7_numberOf 89 = .ok (.iconst 0, 1) := by decide +kernel
theorem dX7_numberOf_90 : decode cX7_numberOf 90 = .ok (.aload_n 0, 1) := by decide +kernel
theorem dX7_numberOf_91 : decode cX7_numberOf 91 = .ok (.getfield 36, 3) := by decide +kernel
theorem dX7_numberOf_94 : decode cX7_numberOf 94 = .ok (.iload_n 1, 1) := by decide +kernel
theorem dX7_numberOf_95 : decode cX7_numberOf 95 = .ok (.aload_n 0, 1) := by decide +kernel
theorem dX7_numberOf_96 : decode cX7_numberOf 96 = .ok (.getfield 39, 3) := by decide +kernel
theorem dX7_numberOf_99 : decode cX7_numberOf 99 = .ok (.iload_n 1, 1) := by decide +kernel
theorem dX7_numberOf_100 : decode cX7_numberOf 100 = .ok (.iaload, 1) := by decide +kernel
theorem dX7_numberOf_101 : decode cX7_numberOf 101 = .ok (.invokestatic 134, 3) := by decide +kernel
theorem dX7_numberOf_104 : decode cX7_numberOf 104 = .ok (.bipush 36, 2) := by decide +kernel
theorem dX7_numberOf_106 : decode cX7_numberOf 106 = .ok (.invokestatic 89, 3) := by decide +kernel
theorem dX7_numberOf_109 : decode cX7_numberOf 109 = .ok (.aload_n 0, 1) := by decide +kernel
theorem dX7_numberOf_110 : decode cX7_numberOf 110 = .ok (.getfield 51, 3) := by decide +kernel
theorem dX7_numberOf_113 : decode cX7_numberOf 113 = .ok (.iload_n 1, 1) := by decide +kernel
theorem dX7_numberOf_114 : decode cX7_numberOf 114 = .ok (.bipush 40, 2) := by decide +kernel
theorem dX7_numberOf_116 : decode cX7_numberOf 116 = .ok (.imul, 1) := by decide +kernel
theorem dX7_numberOf_117 : decode cX7_numberOf 117 = .ok (.aload_n 0, 1) := by decide +kernel
theorem dX7_numberOf_118 : decode cX7_numberOf 118 = .ok (.getfield 39, 3) := by decide +kernel
theorem dX7_numberOf_121 : decode cX7_numberOf 121 = .ok (.iload_n 1, 1) := by decide +kernel
theorem dX7_numberOf_122 : decode cX7_numberOf 122 = .ok (.iaload, 1) := by decide +kernel
theorem dX7_numberOf_123 : decode cX7_numberOf 123 = .ok (.iadd, 1) := by decide +kernel
theorem dX7_numberOf_124 : decode cX7_numberOf 124 = .ok (.lconst 0, 1) := by decide +kernel
theorem dX7_numberOf_125 : decode cX7_numberOf 125 = .ok (.lastore, 1) := by decide +kernel
theorem dX7_numberOf_126 : decode cX7_numberOf 126 = .ok (.aload_n 0, 1) := by decide +kernel
theorem dX7_numberOf_127 : decode cX7_numberOf 127 = .ok (.getfield 39, 3) := by decide +kernel
theorem dX7_numberOf_130 : decode cX7_numberOf 130 = .ok (.iload_n 1, 1) := by decide +kernel
theorem dX7_numberOf_131 : decode cX7_numberOf 131 = .ok (.dup2, 1) := by decide +kernel
theorem dX7_numberOf_132 : decode cX7_numberOf 132 = .ok (.iaload, 1) := by decide +kernel
theorem dX7_numberOf_133 : decode cX7_numberOf 133 = .ok (.iconst 1, 1) := by decide +kernel
theorem dX7_numberOf_134 : decode cX7_numberOf 134 = .ok (.iadd, 1) := by decide +kernel
theorem dX7_numberOf_135 : decode cX7_numberOf 135 = .ok (.iastore, 1) := by decide +kernel
theorem dX7_numberOf_136 : decode cX7_numberOf 136 = .ok (.aload_n 0, 1) := by decide +kernel
theorem dX7_numberOf_137 : decode cX7_numberOf 137 = .ok (.getfield 39, 3) := by decide +kernel
theorem dX7_numberOf_140 : decode cX7_numberOf 140 = .ok (.iload_n 1, 1) := by decide +kernel
theorem dX7_numberOf_141 : decode cX7_numberOf 141 = .ok (.iaload, 1) := by decide +kernel
theorem dX7_numberOf_142 : decode cX7_numberOf 142 = .ok (.iconst 1, 1) := by decide +kernel
theorem dX7_numberOf_143 : decode cX7_numberOf 143 = .ok (.isub, 1) := by decide +kernel
theorem dX7_numberOf_144 : decode cX7_numberOf 144 = .ok (.ireturn, 1) := by decide +kernel
theorem dX7_follows_0 : decode cX7_follows 0 = .ok (.aload_n 0, 1) := by decide +kernel
theorem dX7_follows_1 : decode cX7_follows 1 = .ok (.getfield 39, 3) := by decide +kernel
theorem dX7_follows_4 : decode cX7_follows 4 = .ok (.iload_n 1, 1) := by decide +kernel
theorem dX7_follows_5 : decode cX7_follows 5 = .ok (.iconst 1, 1) := by decide +kernel
theorem dX7_follows_6 : decode cX7_follows 6 = .ok (.iadd, 1) := by decide +kernel
theorem dX7_follows_7 : decode cX7_follows 7 = .ok (.iconst 0, 1) := by decide +kernel
theorem dX7_follows_8 : decode cX7_follows 8 = .ok (.iastore, 1) := by decide +kernel
theorem dX7_follows_9 : decode cX7_follows 9 = .ok (.aload_n 0, 1) := by decide +kernel
theorem dX7_follows_10 : decode cX7_follows 10 = .ok (.getfield 45, 3) := by decide +kernel
theorem dX7_follows_13 : decode cX7_follows 13 = .ok (.iload_n 1, 1) := by decide +kernel
theorem dX7_follows_14 : decode cX7_follows 14 = .ok (.iconst 0, 1) := by decide +kernel
theorem dX7_follows_15 : decode cX7_follows 15 = .ok (.iastore, 1) := by decide +kernel
theorem dX7_follows_16 : decode cX7_follows 16 = .ok (.iload_n 1, 1) := by decide +kernel
theorem dX7_follows_17 : decode cX7_follows 17 = .ok (.iconst 2, 1) := by decide +kernel
theorem dX7_follows_18 : decode cX7_follows 18 = .ok (.irem, 1) := by decide +kernel
theorem dX7_follows_19 : decode cX7_follows 19 = .ok (.istore_n 2, 1) := by decide +kernel
theorem dX7_follows_20 : decode cX7_follows 20 = .ok (.iconst 0, 1) := by decide +kernel
theorem dX7_follows_21 : decode cX7_follows 21 = .ok (.istore_n 3, 1) := by decide +kernel
theorem dX7_follows_22 : decode cX7_follows 22 = .ok (.iload_n 3, 1) := by decide +kernel
theorem dX7_follows_23 : decode cX7_follows 23 = .ok (.aload_n 0, 1) := by decide +kernel
theorem dX7_follows_24 : decode cX7_follows 24 = .ok (.getfield 39, 3) := by decide +kernel
theorem dX7_follows_27 : decode cX7_follows 27 = .ok (.iload_n 1, 1) := by decide +kernel
theorem dX7_follows_28 : decode cX7_follows 28 = .ok (.iaload, 1) := by decide +kernel
theorem dX7_follows_29 : decode cX7_follows 29 = .ok (.if_icmp .ge 176, 3) := by decide +kernel
theorem dX7_follows_32 : decode cX7_follows 32 = .ok (.iconst 0, 1) := by decide +kernel
theorem dX7_follows_33 : decode cX7_follows 33 = .ok (.istore 4, 2) := by decide +kernel
theorem dX7_follows_35 : decode cX7_follows 35 = .ok (.iload 4, 2) := by decide +kernel
theorem dX7_follows_37 : decode cX7_follows 37 = .ok (.aload_n 0, 1) := by decide +kernel
theorem dX7_follows_38 : decode cX7_follows 38 = .ok (.invokevirtual 120, 3) := by decide +kernel
theorem dX7_follows_41 : decode cX7_follows 41 = .ok (.aload_n 0, 1) := by decide +kernel
theorem dX7_follows_42 : decode cX7_follows 42 = .ok (.invokevirtual 120, 3) := by decide +kernel
theorem dX7_follows_45 : decode cX7_follows 45 = .ok (.imul, 1) := by decide +kernel
theorem dX7_follows_46 : decode cX7_follows 46 = .ok (.if_icmp .ge 153, 3) := by decide +kernel
theorem dX7_follows_49 : decode cX7_follows 49 = .ok (.iload 4, 2) := by decide +kernel
theorem dX7_follows_51 : decode cX7_follows 51 = .ok (.aload_n 0, 1) := by decide +kernel
theorem dX7_follows_52 : decode cX7_follows 52 = .ok (.invokevirtual 120, 3) := by decide +kernel
theorem dX7_follows_55 : decode cX7_follows 55 = .ok (.idiv, 1) := by decide +kernel
theorem dX7_follows_56 : decode cX7_follows 56 = .ok (.istore 5, 2) := by decide +kernel
theorem dX7_follows_58 : decode cX7_follows 58 = .ok (.iload 4, 2) := by decide +kernel
theorem dX7_follows_60 : decode cX7_follows 60 = .ok (.aload_n 0, 1) := by decide +kernel
theorem dX7_follows_61 : decode cX7_follows 61 = .ok (.invokevirtual 120, 3) := by decide +kernel
theorem dX7_follows_64 : decode cX7_follows 64 = .ok (.irem, 1) := by decide +kernel
theorem dX7_follows_65 : decode cX7_follows 65 = .ok (.istore 6, 2) := by decide +kernel
theorem dX7_follows_67 : decode cX7_follows 67 = .ok (.aload_n 0, 1) := by decide +kernel
theorem dX7_follows_68 : decode cX7_follows 68 = .ok (.iload_n 1, 1) := by decide +kernel
theorem dX7_follows_69 : decode cX7_follows 69 = .ok (.iload_n 3, 1) := by decide +kernel
theorem dX7_follows_70 : decode cX7_follows 70 = .ok (.iload 5, 2) := by decide +kernel
theorem dX7_follows_72 : decode cX7_follows 72 = .ok (.iload 6, 2) := by decide +kernel
theorem dX7_follows_74 : decode cX7_follows 74 = .ok (.iload_n 2, 1) := by decide +kernel
theorem dX7_follows_75 : decode cX7_follows 75 = .ok (.invokevirtual 150, 3) := by decide +kernel
theorem dX7_follows_78 : decode cX7_follows 78 = .ok (.ifCond .eq 115, 3) := by decide +kernel
theorem dX7_follows_81 : decode cX7_follows 81 = .ok (.aload_n 0, 1) := by decide +kernel
theorem dX7_follows_82 : decode cX7_follows 82 = .ok (.iload_n 1, 1) := by decide +kernel
theorem dX7_follows_83 : decode cX7_follows 83 = .ok (.iload_n 1, 1) := by decide +kernel
theorem dX7_follows_84 : decode cX7_follows 84 = .ok (.iload_n 3, 1) := by decide +kernel
theorem dX7_follows_85 : decode cX7_follows 85 = .ok (.iload 5, 2) := by decide +kernel
theorem dX7_follows_87 : decode cX7_follows 87 = .ok (.iload 6, 2) := by decide +kernel
theorem dX7_follows_89 : decode cX7_follows 89 = .ok (.iload_n 2, 1) := by decide +kernel
theorem dX7_follows_90 : decode cX7_follows 90 = .ok (.invokevirtual 154, 3) := by decide +kernel
theorem dX7_follows_93 : decode cX7_follows 93 = .ok (.ifCond .ne 6, 3) := by decide +kernel
theorem dX7_follows_96 : decode cX7_follows 96 = .ok (.goto 97, 3) := by decide +kernel
theorem dX7_follows_99 : decode cX7_follows 99 = .ok (.aload_n 0, 1) := by decide +kernel
theorem dX7_follows_100 : decode cX7_follows 100 = .ok (.iload_n 1, 1) := by decide +kernel
theorem dX7_follows_101 : decode cX7_follows 101 = .ok (.iconst 1, 1) := by decide +kernel
theorem dX7_follows_102 : decode cX7_follows 102 = .ok (.iadd, 1) := by decide +kernel
theorem dX7_follows_103 : decode cX7_follows 103 = .ok (.invokevirtual 158, 3) := by decide +kernel
theorem dX7_follows_106 : decode cX7_follows 106 = .ok (.istore 7, 2) := by decide +kernel
theorem dX7_follows_108 : decode cX7_follows 108 = .ok (.iload 7, 2) := by decide +kernel
theorem dX7_follows_110 : decode cX7_follows 110 = .ok (.iconst (-1), 1) := by decide +kernel
theorem dX7_follows_111 : decode cX7_follows 111 = .ok (.if_icmp .ne 5, 3) := by decide +kernel
theorem dX7_follows_114 : decode cX7_follows 114 = .ok (.iconst 0, 1) := by decide +kernel
theorem dX7_follows_115 : decode cX7_follows 115 = .ok (.ireturn, 1) := by decide +kernel
theorem dX7_follows_116 : decode cX7_follows 116 = .ok (.aload_n 0, 1) := by decide +kernel
theorem dX7_follows_117 : decode cX7_follows 117 = .ok (.getfield 51, 3) := by decide +kernel
theorem dX7_follows_120 : decode cX7_follows 120 = .ok (.iload_n 1, 1) := by decide +kernel
theorem dX7_follows_121 : decode cX7_follows 121 = .ok (.iconst 1, 1) := by decide +kernel
theorem dX7_follows_122 : decode cX7_follows 122 = .ok (.iadd, 1) := by decide +kernel
theorem dX7_follows_123 : decode cX7_follows 123 = .ok (.bipush 40, 2) := by decide +kernel
theorem dX7_follows_125 : decode cX7_follows 125 = .ok (.imul, 1) := by decide +kernel
theorem dX7_follows_126 : decode cX7_follows 126 = .ok (.iload 7, 2) := by decide +kernel
theorem dX7_follows_128 : decode cX7_follows 128 = .ok (.iadd, 1) := by decide +kernel
theorem dX7_follows_129 : decode cX7_follows 129 = .ok (.dup2, 1) := by decide +kernel
theorem dX7_follows_130 : decode cX7_follows 130 = .ok (.laload, 1) := by decide +kernel
theorem dX7_follows_131 : decode cX7_follows 131 = .ok (.aload_n 0, 1) := by decide +kernel
theorem dX7_follows_132 : decode cX7_follows 132 = .ok (.getfield 51, 3) := by decide +kernel
theorem dX7_follows_135 : decode cX7_follows 135 = .ok (.iload_n 1, 1) := by decide +kernel
theorem dX7_follows_136 : decode cX7_follows 136 = .ok (.bipush 40, 2) := by decide +kernel
theorem dX7_follows_138 : decode cX7_follows 138 = .ok (.imul, 1) := by decide +kernel
theorem dX7_follows_139 : decode cX7_follows 139 = .ok (.iload_n 3, 1) := by decide +kernel
theorem dX7_follows_140 : decode cX7_follows 140 = .ok (.iadd, 1) := by decide +kernel
theorem dX7_follows_141 : decode cX7_follows 141 = .ok (.laload, 1) := by decide +kernel
theorem dX7_follows_142 : decode cX7_follows 142 = .ok (.ladd, 1) := by decide +kernel
theorem dX7_follows_143 : decode cX7_follows 143 = .ok (.lastore, 1) := by decide +kernel
theorem dX7_follows_144 : decode cX7_follows 144 = .ok (.aload_n 0, 1) := by decide +kernel
theorem dX7_follows_145 : decode cX7_follows 145 = .ok (.getfield 42, 3) := by decide +kernel
theorem dX7_follows_148 : decode cX7_follows 148 = .ok (.iload_n 1, 1) := by decide +kernel
theorem dX7_follows_149 : decode cX7_follows 149 = .ok (.sipush 1600, 3) := by decide +kernel
theorem dX7_follows_152 : decode cX7_follows 152 = .ok (.imul, 1) := by decide +kernel
theorem dX7_follows_153 : decode cX7_follows 153 = .ok (.aload_n 0, 1) := by decide +kernel
theorem dX7_follows_154 : decode cX7_follows 154 = .ok (.getfield 45, 3) := by decide +kernel
theorem dX7_follows_157 : decode cX7_follows 157 = .ok (.iload_n 1, 1) := by decide +kernel
theorem dX7_follows_158 : decode cX7_follows 158 = .ok (.iaload, 1) := by decide +kernel
theorem dX7_follows_159 : decode cX7_follows 159 = .ok (.iadd, 1) := by decide +kernel
theorem dX7_follows_160 : decode cX7_follows 160 = .ok (.iload_n 3, 1) := by decide +kernel
theorem dX7_follows_161 : decode cX7_follows 161 = .ok (.bipush 40, 2) := by decide +kernel
theorem dX7_follows_163 : decode cX7_follows 163 = .ok (.imul, 1) := by decide +kernel
theorem dX7_follows_164 : decode cX7_follows 164 = .ok (.iload 7, 2) := by decide +kernel
theorem dX7_follows_166 : decode cX7_follows 166 = .ok (.iadd, 1) := by decide +kernel
theorem dX7_follows_167 : decode cX7_follows 167 = .ok (.bipush 36, 2) := by decide +kernel
theorem dX7_follows_169 : decode cX7_follows 169 = .ok (.imul, 1) := by decide +kernel
theorem dX7_follows_170 : decode cX7_follows 170 = .ok (.bipush 36, 2) := by decide +kernel
theorem dX7_follows_172 : decode cX7_follows 172 = .ok (.imul, 1) := by decide +kernel
theorem dX7_follows_173 : decode cX7_follows 173 = .ok (.iload 5, 2) := by decide +kernel
theorem dX7_follows_175 : decode cX7_follows 175 = .ok (.bipush 36, 2) := by decide +kernel
theorem dX7_follows_177 : decode cX7_follows 177 = .ok (.imul, 1) := by decide +kernel
theorem dX7_follows_178 : decode cX7_follows 178 = .ok (.iadd, 1) := by decide +kernel
theorem dX7_follows_179 : decode cX7_follows 179 = .ok (.iload 6, 2) := by decide +kernel
theorem dX7_follows_181 : decode cX7_follows 181 = .ok (.iadd, 1) := by decide +kernel
theorem dX7_follows_182 : decode cX7_follows 182 = .ok (.iastore, 1) := by decide +kernel
theorem dX7_follows_183 : decode cX7_follows 183 = .ok (.aload_n 0, 1) := by decide +kernel
theorem dX7_follows_184 : decode cX7_follows 184 = .ok (.getfield 45, 3) := by decide +kernel
theorem dX7_follows_187 : decode cX7_follows 187 = .ok (.iload_n 1, 1) := by decide +kernel
theorem dX7_follows_188 : decode cX7_follows 188 = .ok (.dup2, 1) := by decide +kernel
theorem dX7_follows_189 : decode cX7_follows 189 = .ok (.iaload, 1) := by decide +kernel
theorem dX7_follows_190 : decode cX7_follows 190 = .ok (.iconst 1, 1) := by decide +kernel
theorem dX7_follows_191 : decode cX7_follows 191 = .ok (.iadd, 1) := by decide +kernel
theorem dX7_follows_192 : decode cX7_follows 192 = .ok (.iastore, 1) := by decide +kernel
theorem dX7_follows_193 : decode cX7_follows 193 = .ok (.iinc 4 1, 3) := by decide +kernel
theorem dX7_follows_196 : decode cX7_follows 196 = .ok (.goto (-161), 3) := by decide +kernel
theorem dX7_follows_199 : decode cX7_follows 199 = .ok (.iinc 3 1, 3) := by decide +kernel
theorem dX7_follows_202 : decode cX7_follows 202 = .ok (.goto (-180), 3) := by decide +kernel
theorem dX7_follows_205 : decode cX7_follows 205 = .ok (.iconst 1, 1) := by decide +kernel
theorem dX7_follows_206 : decode cX7_follows 206 = .ok (.ireturn, 1) := by decide +kernel
theorem dX7_originOf_0 : decode cX7_originOf 0 = .ok (.iload_n 0, 1) := by decide +kernel
theorem dX7_originOf_1 : decode cX7_originOf 1 = .ok (.bipush 36, 2) := by decide +kernel
theorem dX7_originOf_3 : decode cX7_originOf 3 = .ok (.idiv, 1) := by decide +kernel
theorem dX7_originOf_4 : decode cX7_originOf 4 = .ok (.bipush 36, 2) := by decide +kernel
theorem dX7_originOf_6 : decode cX7_originOf 6 = .ok (.irem, 1) := by decide +kernel
theorem dX7_originOf_7 : decode cX7_originOf 7 = .ok (.ireturn, 1) := by decide +kernel
theorem dX7_targetOf_0 : decode cX7_targetOf 0 = .ok (.iload_n 0, 1) := by decide +kernel
theorem dX7_targetOf_1 : decode cX7_targetOf 1 = .ok (.bipush 36, 2) := by decide +kernel
theorem dX7_targetOf_3 : decode cX7_targetOf 3 = .ok (.irem, 1) := by decide +kernel
theorem dX7_targetOf_4 : decode cX7_targetOf 4 = .ok (.ireturn, 1) := by decide +kernel
theorem dX7_fromOf_0 : decode cX7_fromOf 0 = .ok (.iload_n 0, 1) := by decide +kernel
theorem dX7_fromOf_1 : decode cX7_fromOf 1 = .ok (.sipush 1296, 3) := by decide +kernel
theorem dX7_fromOf_4 : decode cX7_fromOf 4 = .ok (.idiv, 1) := by decide +kernel
theorem dX7_fromOf_5 : decode cX7_fromOf 5 = .ok (.bipush 40, 2) := by decide +kernel
theorem dX7_fromOf_7 : decode cX7_fromOf 7 = .ok (.idiv, 1) := by decide +kernel
theorem dX7_fromOf_8 : decode cX7_fromOf 8 = .ok (.ireturn, 1) := by decide +kernel
theorem dX7_toOf_0 : decode cX7_toOf 0 = .ok (.iload_n 0, 1) := by decide +kernel
theorem dX7_toOf_1 : decode cX7_toOf 1 = .ok (.sipush 1296, 3) := by decide +kernel
theorem dX7_toOf_4 : decode cX7_toOf 4 = .ok (.idiv, 1) := by decide +kernel
theorem dX7_toOf_5 : decode cX7_toOf 5 = .ok (.bipush 40, 2) := by decide +kernel
theorem dX7_toOf_7 : decode cX7_toOf 7 = .ok (.irem, 1) := by decide +kernel
theorem dX7_toOf_8 : decode cX7_toOf 8 = .ok (.ireturn, 1) := by decide +kernel
theorem dX7_countsBehind_0 : decode cX7_countsBehind 0 = .ok (.aload_n 0, 1) := by decide +kernel
theorem dX7_countsBehind_1 : decode cX7_countsBehind 1 = .ok (.getfield 9, 3) := by decide +kernel
theorem dX7_countsBehind_4 : decode cX7_countsBehind 4 = .ok (.iconst 2, 1) := by decide +kernel
theorem dX7_countsBehind_5 : decode cX7_countsBehind 5 = .ok (.iaload, 1) := by decide +kernel
theorem dX7_countsBehind_6 : decode cX7_countsBehind 6 = .ok (.istore_n 1, 1) := by decide +kernel
theorem dX7_countsBehind_7 : decode cX7_countsBehind 7 = .ok (.iconst 0, 1) := by decide +kernel
theorem dX7_countsBehind_8 : decode cX7_countsBehind 8 = .ok (.istore_n 2, 1) := by decide +kernel
theorem dX7_countsBehind_9 : decode cX7_countsBehind 9 = .ok (.iload_n 2, 1) := by decide +kernel
theorem dX7_countsBehind_10 : decode cX7_countsBehind 10 = .ok (.aload_n 0, 1) := by decide +kernel
theorem dX7_countsBehind_11 : decode cX7_countsBehind 11 = .ok (.getfield 39, 3) := by decide +kernel
theorem dX7_countsBehind_14 : decode cX7_countsBehind 14 = .ok (.iload_n 1, 1) := by decide +kernel
theorem dX7_countsBehind_15 : decode cX7_countsBehind 15 = .ok (.iaload, 1) := by decide +kernel
theorem dX7_countsBehind_16 : decode cX7_countsBehind 16 = .ok (.if_icmp .ge 21, 3) := by decide +kernel
theorem dX7_countsBehind_19 : decode cX7_countsBehind 19 = .ok (.aload_n 0, 1) := by decide +kernel
theorem dX7_countsBehind_20 : decode cX7_countsBehind 20 = .ok (.getfield 55, 3) := by decide +kernel
theorem dX7_countsBehind_23 : decode cX7_countsBehind 23 = .ok (.iload_n 1, 1) := by decide +kernel
theorem dX7_countsBehind_24 : decode cX7_countsBehind 24 = .ok (.bipush 40, 2) := by decide +kernel
theorem dX7_countsBehind_26 : decode cX7_countsBehind 26 = .ok (.imul, 1) := by decide +kernel
theorem dX7_countsBehind_27 : decode cX7_countsBehind 27 = .ok (.iload_n 2, 1) := by decide +kernel
theorem dX7_countsBehind_28 : decode cX7_countsBehind 28 = .ok (.iadd, 1) := by decide +kernel
theorem dX7_countsBehind_29 : decode cX7_countsBehind 29 = .ok (.lconst 1, 1) := by decide +kernel
theorem dX7_countsBehind_30 : decode cX7_countsBehind 30 = .ok (.lastore, 1) := by decide +kernel
theorem dX7_countsBehind_31 : decode cX7_countsBehind 31 = .ok (.iinc 2 1, 3) := by decide +kernel
theorem dX7_countsBehind_34 : decode cX7_countsBehind 34 = .ok (.goto (-25), 3) := by decide +kernel
theorem dX7_countsBehind_37 : decode cX7_countsBehind 37 = .ok (.iload_n 1, 1) := by decide +kernel
theorem dX7_countsBehind_38 : decode cX7_countsBehind 38 = .ok (.iconst 1, 1) := by decide +kernel
theorem dX7_countsBehind_39 : decode cX7_countsBehind 39 = .ok (.isub, 1) := by decide +kernel
theorem dX7_countsBehind_40 : decode cX7_countsBehind 40 = .ok (.istore_n 2, 1) := by decide +kernel
theorem dX7_countsBehind_41 : decode cX7_countsBehind 41 = .ok (.iload_n 2, 1) := by decide +kernel
theorem dX7_countsBehind_42 : decode cX7_countsBehind 42 = .ok (.ifCond .lt 106, 3) := by decide +kernel
theorem dX7_countsBehind_45 : decode cX7_countsBehind 45 = .ok (.iconst 0, 1) := by decide +kernel
theorem dX7_countsBehind_46 : decode cX7_countsBehind 46 = .ok (.istore_n 3, 1) := by decide +kernel
theorem dX7_countsBehind_47 : decode cX7_countsBehind 47 = .ok (.iload_n 3, 1) := by decide +kernel
theorem dX7_countsBehind_48 : decode cX7_countsBehind 48 = .ok (.aload_n 0, 1) := by decide +kernel
theorem dX7_countsBehind_49 : decode cX7_countsBehind 49 = .ok (.getfield 39, 3) := by decide +kernel
theorem dX7_countsBehind_52 : decode cX7_countsBehind 52 = .ok (.iload_n 2, 1) := by decide +kernel
theorem dX7_countsBehind_53 : decode cX7_countsBehind 53 = .ok (.iaload, 1) := by decide +kernel
theorem dX7_countsBehind_54 : decode cX7_countsBehind 54 = .ok (.if_icmp .ge 21, 3) := by decide +kernel
theorem dX7_countsBehind_57 : decode cX7_countsBehind 57 = .ok (.aload_n 0, 1) := by decide +kernel
theorem dX7_countsBehind_58 : decode cX7_countsBehind 58 = .ok (.getfield 55, 3) := by decide +kernel
theorem dX7_countsBehind_61 : decode cX7_countsBehind 61 = .ok (.iload_n 2, 1) := by decide +kernel
theorem dX7_countsBehind_62 : decode cX7_countsBehind 62 = .ok (.bipush 40, 2) := by decide +kernel
theorem dX7_countsBehind_64 : decode cX7_countsBehind 64 = .ok (.imul, 1) := by decide +kernel
theorem dX7_countsBehind_65 : decode cX7_countsBehind 65 = .ok (.iload_n 3, 1) := by decide +kernel
theorem dX7_countsBehind_66 : decode cX7_countsBehind 66 = .ok (.iadd, 1) := by decide +kernel
theorem dX7_countsBehind_67 : decode cX7_countsBehind 67 = .ok (.lconst 0, 1) := by decide +kernel
theorem dX7_countsBehind_68 : decode cX7_countsBehind 68 = .ok (.lastore, 1) := by decide +kernel
theorem dX7_countsBehind_69 : decode cX7_countsBehind 69 = .ok (.iinc 3 1, 3) := by decide +kernel
theorem dX7_countsBehind_72 : decode cX7_countsBehind 72 = .ok (.goto (-25), 3) := by decide +kernel
theorem dX7_countsBehind_75 : decode cX7_countsBehind 75 = .ok (.iconst 0, 1) := by decide +kernel
theorem dX7_countsBehind_76 : decode cX7_countsBehind 76 = .ok (.istore_n 3, 1) := by decide +kernel
theorem dX7_countsBehind_77 : decode cX7_countsBehind 77 = .ok (.iload_n 3, 1) := by decide +kernel
theorem dX7_countsBehind_78 : decode cX7_countsBehind 78 = .ok (.aload_n 0, 1) := by decide +kernel
theorem dX7_countsBehind_79 : decode cX7_countsBehind 79 = .ok (.getfield 45, 3) := by decide +kernel
theorem dX7_countsBehind_82 : decode cX7_countsBehind 82 = .ok (.iload_n 2, 1) := by decide +kernel
theorem dX7_countsBehind_83 : decode cX7_countsBehind 83 = .ok (.iaload, 1) := by decide +kernel
theorem dX7_countsBehind_84 : decode cX7_countsBehind 84 = .ok (.if_icmp .ge 58, 3) := by decide +kernel
theorem dX7_countsBehind_87 : decode cX7_countsBehind 87 = .ok (.aload_n 0, 1) := by decide +kernel
theorem dX7_countsBehind_88 : decode cX7_countsBehind 88 = .ok (.getfield 42, 3) := by decide +kernel
theorem dX7_countsBehind_91 : decode cX7_countsBehind 91 = .ok (.iload_n 2, 1) := by decide +kernel
theorem dX7_countsBehind_92 : decode cX7_countsBehind 92 = .ok (.sipush 1600, 3) := by decide +kernel
theorem dX7_countsBehind_95 : decode cX7_countsBehind 95 = .ok (.imul, 1) := by decide +kernel
theorem dX7_countsBehind_96 : decode cX7_countsBehind 96 = .ok (.iload_n 3, 1) := by decide +kernel
theorem dX7_countsBehind_97 : decode cX7_countsBehind 97 = .ok (.iadd, 1) := by decide +kernel
theorem dX7_countsBehind_98 : decode cX7_countsBehind 98 = .ok (.iaload, 1) := by decide +kernel
theorem dX7_countsBehind_99 : decode cX7_countsBehind 99 = .ok (.istore 4, 2) := by decide +kernel
theorem dX7_countsBehind_101 : decode cX7_countsBehind 101 = .ok (.aload_n 0, 1) := by decide +kernel
theorem dX7_countsBehind_102 : decode cX7_countsBehind 102 = .ok (.getfield 55, 3) := by decide +kernel
theorem dX7_countsBehind_105 : decode cX7_countsBehind 105 = .ok (.iload_n 2, 1) := by decide +kernel
theorem dX7_countsBehind_106 : decode cX7_countsBehind 106 = .ok (.bipush 40, 2) := by decide +kernel
theorem dX7_countsBehind_108 : decode cX7_countsBehind 108 = .ok (.imul, 1) := by decide +kernel
theorem dX7_countsBehind_109 : decode cX7_countsBehind 109 = .ok (.iload 4, 2) := by decide +kernel
theorem dX7_countsBehind_111 : decode cX7_countsBehind 111 = .ok (.invokestatic 161, 3) := by decide +kernel
theorem dX7_countsBehind_114 : decode cX7_countsBehind 114 = .ok (.iadd, 1) := by decide +kernel
theorem dX7_countsBehind_115 : decode cX7_countsBehind 115 = .ok (.dup2, 1) := by decide +kernel
theorem dX7_countsBehind_116 : decode cX7_countsBehind 116 = .ok (.laload, 1) := by decide +kernel
theorem dX7_countsBehind_117 : decode cX7_countsBehind 117 = .ok (.aload_n 0, 1) := by decide +kernel
theorem dX7_countsBehind_118 : decode cX7_countsBehind 118 = .ok (.getfield 55, 3) := by decide +kernel
theorem dX7_countsBehind_121 : decode cX7_countsBehind 121 = .ok (.iload_n 2, 1) := by decide +kernel
theorem dX7_countsBehind_122 : decode cX7_countsBehind 122 = .ok (.iconst 1, 1) := by decide +kernel
theorem dX7_countsBehind_123 : decode cX7_countsBehind 123 = .ok (.iadd, 1) := by decide +kernel
theorem dX7_countsBehind_124 : decode cX7_countsBehind 124 = .ok (.bipush 40, 2) := by decide +kernel
theorem dX7_countsBehind_126 : decode cX7_countsBehind 126 = .ok (.imul, 1) := by decide +kernel
theorem dX7_countsBehind_127 : decode cX7_countsBehind 127 = .ok (.iload 4, 2) := by decide +kernel
theorem dX7_countsBehind_129 : decode cX7_countsBehind 129 = .ok (.invokestatic 164, 3) := by decide +kernel
theorem dX7_countsBehind_132 : decode cX7_countsBehind 132 = .ok (.iadd, 1) := by decide +kernel
theorem dX7_countsBehind_133 : decode cX7_countsBehind 133 = .ok (.laload, 1) := by decide +kernel
theorem dX7_countsBehind_134 : decode cX7_countsBehind 134 = .ok (.ladd, 1) := by decide +kernel
theorem dX7_countsBehind_135 : decode cX7_countsBehind 135 = .ok (.lastore, 1) := by decide +kernel
theorem dX7_countsBehind_136 : decode cX7_countsBehind 136 = .ok (.iinc 3 1, 3) := by decide +kernel
theorem dX7_countsBehind_139 : decode cX7_countsBehind 139 = .ok (.goto (-62), 3) := by decide +kernel
theorem dX7_countsBehind_142 : decode cX7_countsBehind 142 = .ok (.iinc 2 (-1), 3) := by decide +kernel
theorem dX7_countsBehind_145 : decode cX7_countsBehind 145 = .ok (.goto (-104), 3) := by decide +kernel
theorem dX7_countsBehind_148 : decode cX7_countsBehind 148 = .ok (.return_, 1) := by decide +kernel
theorem dX7_finds_0 : decode cX7_finds 0 = .ok (.aload_n 0, 1) := by decide +kernel
theorem dX7_finds_1 : decode cX7_finds 1 = .ok (.getfield 39, 3) := by decide +kernel
theorem dX7_finds_4 : decode cX7_finds 4 = .ok (.iconst 0, 1) := by decide +kernel
theorem dX7_finds_5 : decode cX7_finds 5 = .ok (.iconst 1, 1) := by decide +kernel
theorem dX7_finds_6 : decode cX7_finds 6 = .ok (.iastore, 1) := by decide +kernel
theorem dX7_finds_7 : decode cX7_finds 7 = .ok (.aload_n 0, 1) := by decide +kernel
theorem dX7_finds_8 : decode cX7_finds 8 = .ok (.getfield 51, 3) := by decide +kernel
theorem dX7_finds_11 : decode cX7_finds 11 = .ok (.iconst 0, 1) := by decide +kernel
theorem dX7_finds_12 : decode cX7_finds 12 = .ok (.lconst 1, 1) := by decide +kernel
theorem dX7_finds_13 : decode cX7_finds 13 = .ok (.lastore, 1) := by decide +kernel
theorem dX7_finds_14 : decode cX7_finds 14 = .ok (.aload_n 0, 1) := by decide +kernel
theorem dX7_finds_15 : decode cX7_finds 15 = .ok (.getfield 9, 3) := by decide +kernel
theorem dX7_finds_18 : decode cX7_finds 18 = .ok (.iconst 3, 1) := by decide +kernel
theorem dX7_finds_19 : decode cX7_finds 19 = .ok (.aload_n 0, 1) := by decide +kernel
theorem dX7_finds_20 : decode cX7_finds 20 = .ok (.getfield 36, 3) := by decide +kernel
theorem dX7_finds_23 : decode cX7_finds 23 = .ok (.iconst 0, 1) := by decide +kernel
theorem dX7_finds_24 : decode cX7_finds 24 = .ok (.bipush 36, 2) := by decide +kernel
theorem dX7_finds_26 : decode cX7_finds 26 = .ok (.invokestatic 89, 3) := by decide +kernel
theorem dX7_finds_29 : decode cX7_finds 29 = .ok (.iconst 0, 1) := by decide +kernel
theorem dX7_finds_30 : decode cX7_finds 30 = .ok (.istore_n 1, 1) := by decide +kernel
theorem dX7_finds_31 : decode cX7_finds 31 = .ok (.iload_n 1, 1) := by decide +kernel
theorem dX7_finds_32 : decode cX7_finds 32 = .ok (.aload_n 0, 1) := by decide +kernel
theorem dX7_finds_33 : decode cX7_finds 33 = .ok (.getfield 9, 3) := by decide +kernel
theorem dX7_finds_36 : decode cX7_finds 36 = .ok (.iconst 2, 1) := by decide +kernel
theorem dX7_finds_37 : decode cX7_finds 37 = .ok (.iaload, 1) := by decide +kernel
theorem dX7_finds_38 : decode cX7_finds 38 = .ok (.if_icmp .ge 30, 3) := by decide +kernel
theorem dX7_finds_41 : decode cX7_finds 41 = .ok (.aload_n 0, 1) := by decide +kernel
theorem dX7_finds_42 : decode cX7_finds 42 = .ok (.iload_n 1, 1) := by decide +kernel
theorem dX7_finds_43 : decode cX7_finds 43 = .ok (.invokevirtual 167, 3) := by decide +kernel
theorem dX7_finds_46 : decode cX7_finds 46 = .ok (.ifCond .eq 14, 3) := by decide +kernel
theorem dX7_finds_49 : decode cX7_finds 49 = .ok (.aload_n 0, 1) := by decide +kernel
theorem dX7_finds_50 : decode cX7_finds 50 = .ok (.getfield 39, 3) := by decide +kernel
theorem dX7_finds_53 : decode cX7_finds 53 = .ok (.iload_n 1, 1) := by decide +kernel
theorem dX7_finds_54 : decode cX7_finds 54 = .ok (.iconst 1, 1) := by decide +kernel
theorem dX7_finds_55 : decode cX7_finds 55 = .ok (.iadd, 1) := by decide +kernel
theorem dX7_finds_56 : decode cX7_finds 56 = .ok (.iaload, 1) := by decide +kernel
theorem dX7_finds_57 : decode cX7_finds 57 = .ok (.ifCond .ne 5, 3) := by decide +kernel
theorem dX7_finds_60 : decode cX7_finds 60 = .ok (.iconst 0, 1) := by decide +kernel
theorem dX7_finds_61 : decode cX7_finds 61 = .ok (.ireturn, 1) := by decide +kernel
theorem dX7_finds_62 : decode cX7_finds 62 = .ok (.iinc 1 1, 3) := by decide +kernel
theorem dX7_finds_65 : decode cX7_finds 65 = .ok (.goto (-34), 3) := by decide +kernel
theorem dX7_finds_68 : decode cX7_finds 68 = .ok (.aload_n 0, 1) := by decide +kernel
theorem dX7_finds_69 : decode cX7_finds 69 = .ok (.invokevirtual 171, 3) := by decide +kernel
theorem dX7_finds_72 : decode cX7_finds 72 = .ok (.iconst 1, 1) := by decide +kernel
theorem dX7_finds_73 : decode cX7_finds 73 = .ok (.ireturn, 1) := by decide +kernel
theorem dX7_games_0 : decode cX7_games 0 = .ok (.lconst 0, 1) := by decide +kernel
theorem dX7_games_1 : decode cX7_games 1 = .ok (.lstore_n 1, 1) := by decide +kernel
theorem dX7_games_2 : decode cX7_games 2 = .ok (.iconst 0, 1) := by decide +kernel
theorem dX7_games_3 : decode cX7_games 3 = .ok (.istore_n 3, 1) := by decide +kernel
theorem dX7_games_4 : decode cX7_games 4 = .ok (.iload_n 3, 1) := by decide +kernel
theorem dX7_games_5 : decode cX7_games 5 = .ok (.aload_n 0, 1) := by decide +kernel
theorem dX7_games_6 : decode cX7_games 6 = .ok (.getfield 39, 3) := by decide +kernel
theorem dX7_games_9 : decode cX7_games 9 = .ok (.aload_n 0, 1) := by decide +kernel
theorem dX7_games_10 : decode cX7_games 10 = .ok (.getfield 9, 3) := by decide +kernel
theorem dX7_games_13 : decode cX7_games 13 = .ok (.iconst 2, 1) := by decide +kernel
theorem dX7_games_14 : decode cX7_games 14 = .ok (.iaload, 1) := by decide +kernel
theorem dX7_games_15 : decode cX7_games 15 = .ok (.iaload, 1) := by decide +kernel
theorem dX7_games_16 : decode cX7_games 16 = .ok (.if_icmp .ge 28, 3) := by decide +kernel
theorem dX7_games_19 : decode cX7_games 19 = .ok (.lload_n 1, 1) := by decide +kernel
theorem dX7_games_20 : decode cX7_games 20 = .ok (.aload_n 0, 1) := by decide +kernel
theorem dX7_games_21 : decode cX7_games 21 = .ok (.getfield 51, 3) := by decide +kernel
theorem dX7_games_24 : decode cX7_games 24 = .ok (.aload_n 0, 1) := by decide +kernel
theorem dX7_games_25 : decode cX7_games 25 = .ok (.getfield 9, 3) := by decide +kernel
theorem dX7_games_28 : decode cX7_games 28 = .ok (.iconst 2, 1) := by decide +kernel
theorem dX7_games_29 : decode cX7_games 29 = .ok (.iaload, 1) := by decide +kernel
theorem dX7_games_30 : decode cX7_games 30 = .ok (.bipush 40, 2) := by decide +kernel
theorem dX7_games_32 : decode cX7_games 32 = .ok (.imul, 1) := by decide +kernel
theorem dX7_games_33 : decode cX7_games 33 = .ok (.iload_n 3, 1) := by decide +kernel
theorem dX7_games_34 : decode cX7_games 34 = .ok (.iadd, 1) := by decide +kernel
theorem dX7_games_35 : decode cX7_games 35 = .ok (.laload, 1) := by decide +kernel
theorem dX7_games_36 : decode cX7_games 36 = .ok (.ladd, 1) := by decide +kernel
theorem dX7_games_37 : decode cX7_games 37 = .ok (.lstore_n 1, 1) := by decide +kernel
theorem dX7_games_38 : decode cX7_games 38 = .ok (.iinc 3 1, 3) := by decide +kernel
theorem dX7_games_41 : decode cX7_games 41 = .ok (.goto (-37), 3) := by decide +kernel
theorem dX7_games_44 : decode cX7_games 44 = .ok (.lload_n 1, 1) := by decide +kernel
theorem dX7_games_45 : decode cX7_games 45 = .ok (.lreturn, 1) := by decide +kernel
theorem dX7_lay_0 : decode cX7_lay 0 = .ok (.bipush 39, 2) := by decide +kernel
theorem dX7_lay_2 : decode cX7_lay 2 = .ok (.bipush 7, 2) := by decide +kernel
theorem dX7_lay_4 : decode cX7_lay 4 = .ok (.iload_n 1, 1) := by decide +kernel
theorem dX7_lay_5 : decode cX7_lay 5 = .ok (.imul, 1) := by decide +kernel
theorem dX7_lay_6 : decode cX7_lay 6 = .ok (.iadd, 1) := by decide +kernel
theorem dX7_lay_7 : decode cX7_lay 7 = .ok (.istore 8, 2) := by decide +kernel
theorem dX7_lay_9 : decode cX7_lay 9 = .ok (.aload_n 0, 1) := by decide +kernel
theorem dX7_lay_10 : decode cX7_lay 10 = .ok (.getfield 9, 3) := by decide +kernel
theorem dX7_lay_13 : decode cX7_lay 13 = .ok (.iload 8, 2) := by decide +kernel
theorem dX7_lay_15 : decode cX7_lay 15 = .ok (.iconst 0, 1) := by decide +kernel
theorem dX7_lay_16 : decode cX7_lay 16 = .ok (.iadd, 1) := by decide +kernel
theorem dX7_lay_17 : decode cX7_lay 17 = .ok (.iload_n 2, 1) := by decide +kernel
theorem dX7_lay_18 : decode cX7_lay 18 = .ok (.iastore, 1) := by decide +kernel
theorem dX7_lay_19 : decode cX7_lay 19 = .ok (.aload_n 0, 1) := by decide +kernel
theorem dX7_lay_20 : decode cX7_lay 20 = .ok (.getfield 9, 3) := by decide +kernel
theorem dX7_lay_23 : decode cX7_lay 23 = .ok (.iload 8, 2) := by decide +kernel
theorem dX7_lay_25 : decode cX7_lay 25 = .ok (.iconst 1, 1) := by decide +kernel
theorem dX7_lay_26 : decode cX7_lay 26 = .ok (.iadd, 1) := by decide +kernel
theorem dX7_lay_27 : decode cX7_lay 27 = .ok (.iload_n 3, 1) := by decide +kernel
theorem dX7_lay_28 : decode cX7_lay 28 = .ok (.iastore, 1) := by decide +kernel
theorem dX7_lay_29 : decode cX7_lay 29 = .ok (.aload_n 0, 1) := by decide +kernel
theorem dX7_lay_30 : decode cX7_lay 30 = .ok (.getfield 9, 3) := by decide +kernel
theorem dX7_lay_33 : decode cX7_lay 33 = .ok (.iload 8, 2) := by decide +kernel
theorem dX7_lay_35 : decode cX7_lay 35 = .ok (.iconst 2, 1) := by decide +kernel
theorem dX7_lay_36 : decode cX7_lay 36 = .ok (.iadd, 1) := by decide +kernel
theorem dX7_lay_37 : decode cX7_lay 37 = .ok (.iconst (-1), 1) := by decide +kernel
theorem dX7_lay_38 : decode cX7_lay 38 = .ok (.iastore, 1) := by decide +kernel
theorem dX7_lay_39 : decode cX7_lay 39 = .ok (.aload_n 0, 1) := by decide +kernel
theorem dX7_lay_40 : decode cX7_lay 40 = .ok (.getfield 9, 3) := by decide +kernel
theorem dX7_lay_43 : decode cX7_lay 43 = .ok (.iload 8, 2) := by decide +kernel
theorem dX7_lay_45 : decode cX7_lay 45 = .ok (.iconst 3, 1) := by decide +kernel
theorem dX7_lay_46 : decode cX7_lay 46 = .ok (.iadd, 1) := by decide +kernel
theorem dX7_lay_47 : decode cX7_lay 47 = .ok (.iload 4, 2) := by decide +kernel
theorem dX7_lay_49 : decode cX7_lay 49 = .ok (.iastore, 1) := by decide +kernel
theorem dX7_lay_50 : decode cX7_lay 50 = .ok (.aload_n 0, 1) := by decide +kernel
theorem dX7_lay_51 : decode cX7_lay 51 = .ok (.getfield 9, 3) := by decide +kernel
theorem dX7_lay_54 : decode cX7_lay 54 = .ok (.iload 8, 2) := by decide +kernel
theorem dX7_lay_56 : decode cX7_lay 56 = .ok (.iconst 4, 1) := by decide +kernel
theorem dX7_lay_57 : decode cX7_lay 57 = .ok (.iadd, 1) := by decide +kernel
theorem dX7_lay_58 : decode cX7_lay 58 = .ok (.iload 5, 2) := by decide +kernel
theorem dX7_lay_60 : decode cX7_lay 60 = .ok (.iastore, 1) := by decide +kernel
theorem dX7_lay_61 : decode cX7_lay 61 = .ok (.aload_n 0, 1) := by decide +kernel
theorem dX7_lay_62 : decode cX7_lay 62 = .ok (.getfield 9, 3) := by decide +kernel
theorem dX7_lay_65 : decode cX7_lay 65 = .ok (.iload 8, 2) := by decide +kernel
theorem dX7_lay_67 : decode cX7_lay 67 = .ok (.iconst 5, 1) := by decide +kernel
theorem dX7_lay_68 : decode cX7_lay 68 = .ok (.iadd, 1) := by decide +kernel
theorem dX7_lay_69 : decode cX7_lay 69 = .ok (.iload 6, 2) := by decide +kernel
theorem dX7_lay_71 : decode cX7_lay 71 = .ok (.ifCond .eq 7, 3) := by decide +kernel
theorem dX7_lay_74 : decode cX7_lay 74 = .ok (.iconst 1, 1) := by decide +kernel
theorem dX7_lay_75 : decode cX7_lay 75 = .ok (.goto 4, 3) := by decide +kernel
theorem dX7_lay_78 : decode cX7_lay 78 = .ok (.iconst 0, 1) := by decide +kernel
theorem dX7_lay_79 : decode cX7_lay 79 = .ok (.iastore, 1) := by decide +kernel
theorem dX7_lay_80 : decode cX7_lay 80 = .ok (.aload_n 0, 1) := by decide +kernel
theorem dX7_lay_81 : decode cX7_lay 81 = .ok (.getfield 9, 3) := by decide +kernel
theorem dX7_lay_84 : decode cX7_lay 84 = .ok (.iload 8, 2) := by decide +kernel
theorem dX7_lay_86 : decode cX7_lay 86 = .ok (.bipush 6, 2) := by decide +kernel
theorem dX7_lay_88 : decode cX7_lay 88 = .ok (.iadd, 1) := by decide +kernel
theorem dX7_lay_89 : decode cX7_lay 89 = .ok (.iload 7, 2) := by decide +kernel
theorem dX7_lay_91 : decode cX7_lay 91 = .ok (.ifCond .eq 7, 3) := by decide +kernel
theorem dX7_lay_94 : decode cX7_lay 94 = .ok (.iconst 1, 1) := by decide +kernel
theorem dX7_lay_95 : decode cX7_lay 95 = .ok (.goto 4, 3) := by decide +kernel
theorem dX7_lay_98 : decode cX7_lay 98 = .ok (.iconst 0, 1) := by decide +kernel
theorem dX7_lay_99 : decode cX7_lay 99 = .ok (.iastore, 1) := by decide +kernel
theorem dX7_lay_100 : decode cX7_lay 100 = .ok (.return_, 1) := by decide +kernel
theorem dX7_isPossible_0 : decode cX7_isPossible 0 = .ok (.aload_n 0, 1) := by decide +kernel
theorem dX7_isPossible_1 : decode cX7_isPossible 1 = .ok (.getfield 9, 3) := by decide +kernel
theorem dX7_isPossible_4 : decode cX7_isPossible 4 = .ok (.iconst 2, 1) := by decide +kernel
theorem dX7_isPossible_5 : decode cX7_isPossible 5 = .ok (.iaload, 1) := by decide +kernel
theorem dX7_isPossible_6 : decode cX7_isPossible 6 = .ok (.bipush 10, 2) := by decide +kernel
theorem dX7_isPossible_8 : decode cX7_isPossible 8 = .ok (.if_icmp .ne 5, 3) := by decide +kernel
theorem dX7_isPossible_11 : decode cX7_isPossible 11 = .ok (.iconst 0, 1) := by decide +kernel
theorem dX7_isPossible_12 : decode cX7_isPossible 12 = .ok (.ireturn, 1) := by decide +kernel
theorem dX7_isPossible_13 : decode cX7_isPossible 13 = .ok (.aload_n 0, 1) := by decide +kernel
theorem dX7_isPossible_14 : decode cX7_isPossible 14 = .ok (.aload_n 0, 1) := by decide +kernel
theorem dX7_isPossible_15 : decode cX7_isPossible 15 = .ok (.getfield 9, 3) := by decide +kernel
theorem dX7_isPossible_18 : decode cX7_isPossible 18 = .ok (.iconst 2, 1) := by decide +kernel
theorem dX7_isPossible_19 : decode cX7_isPossible 19 = .ok (.iaload, 1) := by decide +kernel
theorem dX7_isPossible_20 : decode cX7_isPossible 20 = .ok (.invokevirtual 167, 3) := by decide +kernel
theorem dX7_isPossible_23 : decode cX7_isPossible 23 = .ok (.ifCond .eq 23, 3) := by decide +kernel
theorem dX7_isPossible_26 : decode cX7_isPossible 26 = .ok (.aload_n 0, 1) := by decide +kernel
theorem dX7_isPossible_27 : decode cX7_isPossible 27 = .ok (.getfield 39, 3) := by decide +kernel
theorem dX7_isPossible_30 : decode cX7_isPossible 30 = .ok (.aload_n 0, 1) := by decide +kernel
theorem dX7_isPossible_31 : decode cX7_isPossible 31 = .ok (.getfield 9, 3) := by decide +kernel
theorem dX7_isPossible_34 : decode cX7_isPossible 34 = .ok (.iconst 2, 1) := by decide +kernel
theorem dX7_isPossible_35 : decode cX7_isPossible 35 = .ok (.iaload, 1) := by decide +kernel
theorem dX7_isPossible_36 : decode cX7_isPossible 36 = .ok (.iconst 1, 1) := by decide +kernel
theorem dX7_isPossible_37 : decode cX7_isPossible 37 = .ok (.iadd, 1) := by decide +kernel
theorem dX7_isPossible_38 : decode cX7_isPossible 38 = .ok (.iaload, 1) := by decide +kernel
theorem dX7_isPossible_39 : decode cX7_isPossible 39 = .ok (.ifCond .le 7, 3) := by decide +kernel
theorem dX7_isPossible_42 : decode cX7_isPossible 42 = .ok (.iconst 1, 1) := by decide +kernel
theorem dX7_isPossible_43 : decode cX7_isPossible 43 = .ok (.goto 4, 3) := by decide +kernel
theorem dX7_isPossible_46 : decode cX7_isPossible 46 = .ok (.iconst 0, 1) := by decide +kernel
theorem dX7_isPossible_47 : decode cX7_isPossible 47 = .ok (.ireturn, 1) := by decide +kernel
theorem dX7_adds_0 : decode cX7_adds 0 = .ok (.aload_n 0, 1) := by decide +kernel
theorem dX7_adds_1 : decode cX7_adds 1 = .ok (.getfield 9, 3) := by decide +kernel
theorem dX7_adds_4 : decode cX7_adds 4 = .ok (.iconst 2, 1) := by decide +kernel
theorem dX7_adds_5 : decode cX7_adds 5 = .ok (.dup2, 1) := by decide +kernel
theorem dX7_adds_6 : decode cX7_adds 6 = .ok (.iaload, 1) := by decide +kernel
theorem dX7_adds_7 : decode cX7_adds 7 = .ok (.iconst 1, 1) := by decide +kernel
theorem dX7_adds_8 : decode cX7_adds 8 = .ok (.iadd, 1) := by decide +kernel
theorem dX7_adds_9 : decode cX7_adds 9 = .ok (.iastore, 1) := by decide +kernel
theorem dX7_adds_10 : decode cX7_adds 10 = .ok (.aload_n 0, 1) := by decide +kernel
theorem dX7_adds_11 : decode cX7_adds 11 = .ok (.invokevirtual 171, 3) := by decide +kernel
theorem dX7_adds_14 : decode cX7_adds 14 = .ok (.aload_n 0, 1) := by decide +kernel
theorem dX7_adds_15 : decode cX7_adds 15 = .ok (.getfield 39, 3) := by decide +kernel
theorem dX7_adds_18 : decode cX7_adds 18 = .ok (.aload_n 0, 1) := by decide +kernel
theorem dX7_adds_19 : decode cX7_adds 19 = .ok (.getfield 9, 3) := by decide +kernel
theorem dX7_adds_22 : decode cX7_adds 22 = .ok (.iconst 2, 1) := by decide +kernel
theorem dX7_adds_23 : decode cX7_adds 23 = .ok (.iaload, 1) := by decide +kernel
theorem dX7_adds_24 : decode cX7_adds 24 = .ok (.iaload, 1) := by decide +kernel
theorem dX7_adds_25 : decode cX7_adds 25 = .ok (.ireturn, 1) := by decide +kernel
theorem dX7_states_0 : decode cX7_states 0 = .ok (.aload_n 0, 1) := by decide +kernel
theorem dX7_states_1 : decode cX7_states 1 = .ok (.iload_n 1, 1) := by decide +kernel
theorem dX7_states_2 : decode cX7_states 2 = .ok (.iconst 1, 1) := by decide +kernel
theorem dX7_states_3 : decode cX7_states 3 = .ok (.invokevirtual 144, 3) := by decide +kernel
theorem dX7_states_6 : decode cX7_states 6 = .ok (.istore 4, 2) := by decide +kernel
theorem dX7_states_8 : decode cX7_states 8 = .ok (.aload_n 0, 1) := by decide +kernel
theorem dX7_states_9 : decode cX7_states 9 = .ok (.iload_n 1, 1) := by decide +kernel
theorem dX7_states_10 : decode cX7_states 10 = .ok (.iconst 2, 1) := by decide +kernel
theorem dX7_states_11 : decode cX7_states 11 = .ok (.invokevirtual 144, 3) := by decide +kernel
theorem dX7_states_14 : decode cX7_states 14 = .ok (.istore 5, 2) := by decide +kernel
theorem dX7_states_16 : decode cX7_states 16 = .ok (.aload_n 0, 1) := by decide +kernel
theorem dX7_states_17 : decode cX7_states 17 = .ok (.getfield 9, 3) := by decide +kernel
theorem dX7_states_20 : decode cX7_states 20 = .ok (.bipush 39, 2) := by decide +kernel
theorem dX7_states_22 : decode cX7_states 22 = .ok (.bipush 7, 2) := by decide +kernel
theorem dX7_states_24 : decode cX7_states 24 = .ok (.iload_n 1, 1) := by decide +kernel
theorem dX7_states_25 : decode cX7_states 25 = .ok (.imul, 1) := by decide +kernel
theorem dX7_states_26 : decode cX7_states 26 = .ok (.iadd, 1) := by decide +kernel
theorem dX7_states_27 : decode cX7_states 27 = .ok (.iconst 1, 1) := by decide +kernel
theorem dX7_states_28 : decode cX7_states 28 = .ok (.iadd, 1) := by decide +kernel
theorem dX7_states_29 : decode cX7_states 29 = .ok (.iload_n 2, 1) := by decide +kernel
theorem dX7_states_30 : decode cX7_states 30 = .ok (.iastore, 1) := by decide +kernel
theorem dX7_states_31 : decode cX7_states 31 = .ok (.aload_n 0, 1) := by decide +kernel
theorem dX7_states_32 : decode cX7_states 32 = .ok (.getfield 9, 3) := by decide +kernel
theorem dX7_states_35 : decode cX7_states 35 = .ok (.bipush 39, 2) := by decide +kernel
theorem dX7_states_37 : decode cX7_states 37 = .ok (.bipush 7, 2) := by decide +kernel
theorem dX7_states_39 : decode cX7_states 39 = .ok (.iload_n 1, 1) := by decide +kernel
theorem dX7_states_40 : decode cX7_states 40 = .ok (.imul, 1) := by decide +kernel
theorem dX7_states_41 : decode cX7_states 41 = .ok (.iadd, 1) := by decide +kernel
theorem dX7_states_42 : decode cX7_states 42 = .ok (.iconst 2, 1) := by decide +kernel
theorem dX7_states_43 : decode cX7_states 43 = .ok (.iadd, 1) := by decide +kernel
theorem dX7_states_44 : decode cX7_states 44 = .ok (.iload_n 3, 1) := by decide +kernel
theorem dX7_states_45 : decode cX7_states 45 = .ok (.iastore, 1) := by decide +kernel
theorem dX7_states_46 : decode cX7_states 46 = .ok (.aload_n 0, 1) := by decide +kernel
theorem dX7_states_47 : decode cX7_states 47 = .ok (.invokevirtual 174, 3) := by decide +kernel
theorem dX7_states_50 : decode cX7_states 50 = .ok (.ifCond .eq 5, 3) := by decide +kernel
theorem dX7_states_53 : decode cX7_states 53 = .ok (.iconst 1, 1) := by decide +kernel
theorem dX7_states_54 : decode cX7_states 54 = .ok (.ireturn, 1) := by decide +kernel
theorem dX7_states_55 : decode cX7_states 55 = .ok (.aload_n 0, 1) := by decide +kernel
theorem dX7_states_56 : decode cX7_states 56 = .ok (.getfield 9, 3) := by decide +kernel
theorem dX7_states_59 : decode cX7_states 59 = .ok (.bipush 39, 2) := by decide +kernel
theorem dX7_states_61 : decode cX7_states 61 = .ok (.bipush 7, 2) := by decide +kernel
theorem dX7_states_63 : decode cX7_states 63 = .ok (.iload_n 1, 1) := by decide +kernel
theorem dX7_states_64 : decode cX7_states 64 = .ok (.imul, 1) := by decide +kernel
theorem dX7_states_65 : decode cX7_states 65 = .ok (.iadd, 1) := by decide +kernel
theorem dX7_states_66 : decode cX7_states 66 = .ok (.iconst 1, 1) := by decide +kernel
theorem dX7_states_67 : decode cX7_states 67 = .ok (.iadd, 1) := by decide +kernel
theorem dX7_states_68 : decode cX7_states 68 = .ok (.iload 4, 2) := by decide +kernel
theorem dX7_states_70 : decode cX7_states 70 = .ok (.iastore, 1) := by decide +kernel
theorem dX7_states_71 : decode cX7_states 71 = .ok (.aload_n 0, 1) := by decide +kernel
theorem dX7_states_72 : decode cX7_states 72 = .ok (.getfield 9, 3) := by decide +kernel
theorem dX7_states_75 : decode cX7_states 75 = .ok (.bipush 39, 2) := by decide +kernel
theorem dX7_states_77 : decode cX7_states 77 = .ok (.bipush 7, 2) := by decide +kernel
theorem dX7_states_79 : decode cX7_states 79 = .ok (.iload_n 1, 1) := by decide +kernel
theorem dX7_states_80 : decode cX7_states 80 = .ok (.imul, 1) := by decide +kernel
theorem dX7_states_81 : decode cX7_states 81 = .ok (.iadd, 1) := by decide +kernel
theorem dX7_states_82 : decode cX7_states 82 = .ok (.iconst 2, 1) := by decide +kernel
theorem dX7_states_83 : decode cX7_states 83 = .ok (.iadd, 1) := by decide +kernel
theorem dX7_states_84 : decode cX7_states 84 = .ok (.iload 5, 2) := by decide +kernel
theorem dX7_states_86 : decode cX7_states 86 = .ok (.iastore, 1) := by decide +kernel
theorem dX7_states_87 : decode cX7_states 87 = .ok (.aload_n 0, 1) := by decide +kernel
theorem dX7_states_88 : decode cX7_states 88 = .ok (.invokevirtual 174, 3) := by decide +kernel
theorem dX7_states_91 : decode cX7_states 91 = .ok (.ifCond .ne 7, 3) := by decide +kernel
theorem dX7_states_94 : decode cX7_states 94 = .ok (.iconst 1, 1) := by decide +kernel
theorem dX7_states_95 : decode cX7_states 95 = .ok (.goto 4, 3) := by decide +kernel
theorem dX7_states_98 : decode cX7_states 98 = .ok (.iconst 0, 1) := by decide +kernel
theorem dX7_states_99 : decode cX7_states 99 = .ok (.ireturn, 1) := by decide +kernel
theorem dX7_drops_0 : decode cX7_drops 0 = .ok (.aload_n 0, 1) := by decide +kernel
theorem dX7_drops_1 : decode cX7_drops 1 = .ok (.getfield 9, 3) := by decide +kernel
theorem dX7_drops_4 : decode cX7_drops 4 = .ok (.iconst 2, 1) := by decide +kernel
theorem dX7_drops_5 : decode cX7_drops 5 = .ok (.dup2, 1) := by decide +kernel
theorem dX7_drops_6 : decode cX7_drops 6 = .ok (.iaload, 1) := by decide +kernel
theorem dX7_drops_7 : decode cX7_drops 7 = .ok (.iconst 1, 1) := by decide +kernel
theorem dX7_drops_8 : decode cX7_drops 8 = .ok (.isub, 1) := by decide +kernel
theorem dX7_drops_9 : decode cX7_drops 9 = .ok (.iastore, 1) := by decide +kernel
theorem dX7_drops_10 : decode cX7_drops 10 = .ok (.aload_n 0, 1) := by decide +kernel
theorem dX7_drops_11 : decode cX7_drops 11 = .ok (.invokevirtual 171, 3) := by decide +kernel
theorem dX7_drops_14 : decode cX7_drops 14 = .ok (.aload_n 0, 1) := by decide +kernel
theorem dX7_drops_15 : decode cX7_drops 15 = .ok (.getfield 9, 3) := by decide +kernel
theorem dX7_drops_18 : decode cX7_drops 18 = .ok (.iconst 2, 1) := by decide +kernel
theorem dX7_drops_19 : decode cX7_drops 19 = .ok (.iaload, 1) := by decide +kernel
theorem dX7_drops_20 : decode cX7_drops 20 = .ok (.ireturn, 1) := by decide +kernel
theorem dX7_append_0 : decode cX7_append 0 = .ok (.aload_n 0, 1) := by decide +kernel
theorem dX7_append_1 : decode cX7_append 1 = .ok (.iconst 0, 1) := by decide +kernel
theorem dX7_append_2 : decode cX7_append 2 = .ok (.putfield 86, 3) := by decide +kernel
theorem dX7_append_5 : decode cX7_append 5 = .ok (.aload_n 0, 1) := by decide +kernel
theorem dX7_append_6 : decode cX7_append 6 = .ok (.getfield 73, 3) := by decide +kernel
theorem dX7_append_9 : decode cX7_append 9 = .ok (.bipush 20, 2) := by decide +kernel
theorem dX7_append_11 : decode cX7_append 11 = .ok (.iadd, 1) := by decide +kernel
theorem dX7_append_12 : decode cX7_append 12 = .ok (.sipush 600, 3) := by decide +kernel
theorem dX7_append_15 : decode cX7_append 15 = .ok (.if_icmp .le 5, 3) := by decide +kernel
theorem dX7_append_18 : decode cX7_append 18 = .ok (.iconst (-1), 1) := by decide +kernel
theorem dX7_append_19 : decode cX7_append 19 = .ok (.ireturn, 1) := by decide +kernel
theorem dX7_append_20 : decode cX7_append 20 = .ok (.aload_n 0, 1) := by decide +kernel
theorem dX7_append_21 : decode cX7_append 21 = .ok (.iload_n 1, 1) := by decide +kernel
theorem dX7_append_22 : decode cX7_append 22 = .ok (.invokevirtual 178, 3) := by decide +kernel
theorem dX7_append_25 : decode cX7_append 25 = .ok (.aload_n 0, 1) := by decide +kernel
theorem dX7_append_26 : decode cX7_append 26 = .ok (.iload_n 2, 1) := by decide +kernel
theorem dX7_append_27 : decode cX7_append 27 = .ok (.invokevirtual 178, 3) := by decide +kernel
theorem dX7_append_30 : decode cX7_append 30 = .ok (.aload_n 0, 1) := by decide +kernel
theorem dX7_append_31 : decode cX7_append 31 = .ok (.iload_n 3, 1) := by decide +kernel
theorem dX7_append_32 : decode cX7_append 32 = .ok (.invokevirtual 178, 3) := by decide +kernel
theorem dX7_append_35 : decode cX7_append 35 = .ok (.aload_n 0, 1) := by decide +kernel
theorem dX7_append_36 : decode cX7_append 36 = .ok (.iload 4, 2) := by decide +kernel
theorem dX7_append_38 : decode cX7_append 38 = .ok (.invokevirtual 178, 3) := by decide +kernel
theorem dX7_append_41 : decode cX7_append 41 = .ok (.aload_n 0, 1) := by decide +kernel
theorem dX7_append_42 : decode cX7_append 42 = .ok (.iload 5, 2) := by decide +kernel
theorem dX7_append_44 : decode cX7_append 44 = .ok (.invokevirtual 178, 3) := by decide +kernel
theorem dX7_append_47 : decode cX7_append 47 = .ok (.aload_n 0, 1) := by decide +kernel
theorem dX7_append_48 : decode cX7_append 48 = .ok (.getfield 73, 3) := by decide +kernel
theorem dX7_append_51 : decode cX7_append 51 = .ok (.ireturn, 1) := by decide +kernel
theorem dX7_four_0 : decode cX7_four 0 = .ok (.bipush 24, 2) := by decide +kernel
theorem dX7_four_2 : decode cX7_four 2 = .ok (.istore_n 2, 1) := by decide +kernel
theorem dX7_four_3 : decode cX7_four 3 = .ok (.iload_n 2, 1) := by decide +kernel
theorem dX7_four_4 : decode cX7_four 4 = .ok (.ifCond .lt 35, 3) := by decide +kernel
theorem dX7_four_7 : decode cX7_four 7 = .ok (.aload_n 0, 1) := by decide +kernel
theorem dX7_four_8 : decode cX7_four 8 = .ok (.getfield 26, 3) := by decide +kernel
theorem dX7_four_11 : decode cX7_four 11 = .ok (.aload_n 0, 1) := by decide +kernel
theorem dX7_four_12 : decode cX7_four 12 = .ok (.getfield 73, 3) := by decide +kernel
theorem dX7_four_15 : decode cX7_four 15 = .ok (.iload_n 1, 1) := by decide +kernel
theorem dX7_four_16 : decode cX7_four 16 = .ok (.iload_n 2, 1) := by decide +kernel
theorem dX7_four_17 : decode cX7_four 17 = .ok (.ishr, 1) := by decide +kernel
theorem dX7_four_18 : decode cX7_four 18 = .ok (.sipush 255, 3) := by decide +kernel
theorem dX7_four_21 : decode cX7_four 21 = .ok (.iand, 1) := by decide +kernel
theorem dX7_four_22 : decode cX7_four 22 = .ok (.iastore, 1) := by decide +kernel
theorem dX7_four_23 : decode cX7_four 23 = .ok (.aload_n 0, 1) := by decide +kernel
theorem dX7_four_24 : decode cX7_four 24 = .ok (.dup, 1) := by decide +kernel
theorem dX7_four_25 : decode cX7_four 25 = .ok (.getfield 73, 3) := by decide +kernel
theorem dX7_four_28 : decode cX7_four 28 = .ok (.iconst 1, 1) := by decide +kernel
theorem dX7_four_29 : decode cX7_four 29 = .ok (.iadd, 1) := by decide +kernel
theorem dX7_four_30 : decode cX7_four 30 = .ok (.putfield 73, 3) := by decide +kernel
theorem dX7_four_33 : decode cX7_four 33 = .ok (.iinc 2 (-8), 3) := by decide +kernel
theorem dX7_four_36 : decode cX7_four 36 = .ok (.goto (-33), 3) := by decide +kernel
theorem dX7_four_39 : decode cX7_four 39 = .ok (.return_, 1) := by decide +kernel
theorem dX7_truncateInput_0 : decode cX7_truncateInput 0 = .ok (.aload_n 0, 1) := by decide +kernel
theorem dX7_truncateInput_1 : decode cX7_truncateInput 1 = .ok (.iload_n 1, 1) := by decide +kernel
theorem dX7_truncateInput_2 : decode cX7_truncateInput 2 = .ok (.iconst 0, 1) := by decide +kernel
theorem dX7_truncateInput_3 : decode cX7_truncateInput 3 = .ok (.aload_n 0, 1) := by decide +kernel
theorem dX7_truncateInput_4 : decode cX7_truncateInput 4 = .ok (.getfield 73, 3) := by decide +kernel
theorem dX7_truncateInput_7 : decode cX7_truncateInput 7 = .ok (.invokestatic 182, 3) := by decide +kernel
theorem dX7_truncateInput_10 : decode cX7_truncateInput 10 = .ok (.ifCond .ne 7, 3) := by decide +kernel
theorem dX7_truncateInput_13 : decode cX7_truncateInput 13 = .ok (.iconst 1, 1) := by decide +kernel
theorem dX7_truncateInput_14 : decode cX7_truncateInput 14 = .ok (.goto 4, 3) := by decide +kernel
theorem dX7_truncateInput_17 : decode cX7_truncateInput 17 = .ok (.iconst 0, 1) := by decide +kernel
theorem dX7_truncateInput_18 : decode cX7_truncateInput 18 = .ok (.iconst 0, 1) := by decide +kernel
theorem dX7_truncateInput_19 : decode cX7_truncateInput 19 = .ok (.iconst 0, 1) := by decide +kernel
theorem dX7_truncateInput_20 : decode cX7_truncateInput 20 = .ok (.invokevirtual 186, 3) := by decide +kernel
theorem dX7_truncateInput_23 : decode cX7_truncateInput 23 = .ok (.ifCond .eq 5, 3) := by decide +kernel
theorem dX7_truncateInput_26 : decode cX7_truncateInput 26 = .ok (.iconst 0, 1) := by decide +kernel
theorem dX7_truncateInput_27 : decode cX7_truncateInput 27 = .ok (.ireturn, 1) := by decide +kernel
theorem dX7_truncateInput_28 : decode cX7_truncateInput 28 = .ok (.aload_n 0, 1) := by decide +kernel
theorem dX7_truncateInput_29 : decode cX7_truncateInput 29 = .ok (.iload_n 1, 1) := by decide +kernel
theorem dX7_truncateInput_30 : decode cX7_truncateInput 30 = .ok (.putfield 73, 3) := by decide +kernel
theorem dX7_truncateInput_33 : decode cX7_truncateInput 33 = .ok (.iload_n 1, 1) := by decide +kernel
theorem dX7_truncateInput_34 : decode cX7_truncateInput 34 = .ok (.ireturn, 1) := by decide +kernel
theorem dX7_isLetter_0 : decode cX7_isLetter 0 = .ok (.iload_n 1, 1) := by decide +kernel
theorem dX7_isLetter_1 : decode cX7_isLetter 1 = .ok (.aload_n 0, 1) := by decide +kernel
theorem dX7_isLetter_2 : decode cX7_isLetter 2 = .ok (.getfield 73, 3) := by decide +kernel
theorem dX7_isLetter_5 : decode cX7_isLetter 5 = .ok (.if_icmp .ge 23, 3) := by decide +kernel
theorem dX7_isLetter_8 : decode cX7_isLetter 8 = .ok (.aload_n 0, 1) := by decide +kernel
theorem dX7_isLetter_9 : decode cX7_isLetter 9 = .ok (.getfield 26, 3) := by decide +kernel
theorem dX7_isLetter_12 : decode cX7_isLetter 12 = .ok (.iload_n 1, 1) := by decide +kernel
theorem dX7_isLetter_13 : decode cX7_isLetter 13 = .ok (.iaload, 1) := by decide +kernel
theorem dX7_isLetter_14 : decode cX7_isLetter 14 = .ok (.bipush 97, 2) := by decide +kernel
theorem dX7_isLetter_16 : decode cX7_isLetter 16 = .ok (.bipush 122, 2) := by decide +kernel
theorem dX7_isLetter_18 : decode cX7_isLetter 18 = .ok (.invokestatic 182, 3) := by decide +kernel
theorem dX7_isLetter_21 : decode cX7_isLetter 21 = .ok (.ifCond .eq 7, 3) := by decide +kernel
theorem dX7_isLetter_24 : decode cX7_isLetter 24 = .ok (.iconst 1, 1) := by decide +kernel
theorem dX7_isLetter_25 : decode cX7_isLetter 25 = .ok (.goto 4, 3) := by decide +kernel
theorem dX7_isLetter_28 : decode cX7_isLetter 28 = .ok (.iconst 0, 1) := by decide +kernel
theorem dX7_isLetter_29 : decode cX7_isLetter 29 = .ok (.ireturn, 1) := by decide +kernel
theorem dX7_isDigit_0 : decode cX7_isDigit 0 = .ok (.iload_n 1, 1) := by decide +kernel
theorem dX7_isDigit_1 : decode cX7_isDigit 1 = .ok (.aload_n 0, 1) := by decide +kernel
theorem dX7_isDigit_2 : decode cX7_isDigit 2 = .ok (.getfield 73, 3) := by decide +kernel
theorem dX7_isDigit_5 : decode cX7_isDigit 5 = .ok (.if_icmp .ge 23, 3) := by decide +kernel
theorem dX7_isDigit_8 : decode cX7_isDigit 8 = .ok (.aload_n 0, 1) := by decide +kernel
theorem dX7_isDigit_9 : decode cX7_isDigit 9 = .ok (.getfield 26, 3) := by decide +kernel
theorem dX7_isDigit_12 : decode cX7_isDigit 12 = .ok (.iload_n 1, 1) := by decide +kernel
theorem dX7_isDigit_13 : decode cX7_isDigit 13 = .ok (.iaload, 1) := by decide +kernel
theorem dX7_isDigit_14 : decode cX7_isDigit 14 = .ok (.bipush 48, 2) := by decide +kernel
theorem dX7_isDigit_16 : decode cX7_isDigit 16 = .ok (.bipush 57, 2) := by decide +kernel
theorem dX7_isDigit_18 : decode cX7_isDigit 18 = .ok (.invokestatic 182, 3) := by decide +kernel
theorem dX7_isDigit_21 : decode cX7_isDigit 21 = .ok (.ifCond .eq 7, 3) := by decide +kernel
theorem dX7_isDigit_24 : decode cX7_isDigit 24 = .ok (.iconst 1, 1) := by decide +kernel
theorem dX7_isDigit_25 : decode cX7_isDigit 25 = .ok (.goto 4, 3) := by decide +kernel
theorem dX7_isDigit_28 : decode cX7_isDigit 28 = .ok (.iconst 0, 1) := by decide +kernel
theorem dX7_isDigit_29 : decode cX7_isDigit 29 = .ok (.ireturn, 1) := by decide +kernel
theorem dX7_next_0 : decode cX7_next 0 = .ok (.aload_n 0, 1) := by decide +kernel
theorem dX7_next_1 : decode cX7_next 1 = .ok (.getfield 190, 3) := by decide +kernel
theorem dX7_next_4 : decode cX7_next 4 = .ok (.aload_n 0, 1) := by decide +kernel
theorem dX7_next_5 : decode cX7_next 5 = .ok (.getfield 73, 3) := by decide +kernel
theorem dX7_next_8 : decode cX7_next 8 = .ok (.if_icmp .ge 30, 3) := by decide +kernel
theorem dX7_next_11 : decode cX7_next 11 = .ok (.aload_n 0, 1) := by decide +kernel
theorem dX7_next_12 : decode cX7_next 12 = .ok (.getfield 26, 3) := by decide +kernel
theorem dX7_next_15 : decode cX7_next 15 = .ok (.aload_n 0, 1) := by decide +kernel
theorem dX7_next_16 : decode cX7_next 16 = .ok (.getfield 190, 3) := by decide +kernel
theorem dX7_next_19 : decode cX7_next 19 = .ok (.iaload, 1) := by decide +kernel
theorem dX7_next_20 : decode cX7_next 20 = .ok (.bipush 32, 2) := by decide +kernel
theorem dX7_next_22 : decode cX7_next 22 = .ok (.if_icmp .ne 16, 3) := by decide +kernel
theorem dX7_next_25 : decode cX7_next 25 = .ok (.aload_n 0, 1) := by decide +kernel
theorem dX7_next_26 : decode cX7_next 26 = .ok (.dup, 1) := by decide +kernel
theorem dX7_next_27 : decode cX7_next 27 = .ok (.getfield 190, 3) := by decide +kernel
theorem dX7_next_30 : decode cX7_next 30 = .ok (.iconst 1, 1) := by decide +kernel
theorem dX7_next_31 : decode cX7_next 31 = .ok (.iadd, 1) := by decide +kernel
theorem dX7_next_32 : decode cX7_next 32 = .ok (.putfield 190, 3) := by decide +kernel
theorem dX7_next_35 : decode cX7_next 35 = .ok (.goto (-35), 3) := by decide +kernel
theorem dX7_next_38 : decode cX7_next 38 = .ok (.aload_n 0, 1) := by decide +kernel
theorem dX7_next_39 : decode cX7_next 39 = .ok (.aload_n 0, 1) := by decide +kernel
theorem dX7_next_40 : decode cX7_next 40 = .ok (.getfield 190, 3) := by decide +kernel
theorem dX7_next_43 : decode cX7_next 43 = .ok (.putfield 193, 3) := by decide +kernel
theorem dX7_next_46 : decode cX7_next 46 = .ok (.aload_n 0, 1) := by decide +kernel
theorem dX7_next_47 : decode cX7_next 47 = .ok (.getfield 190, 3) := by decide +kernel
theorem dX7_next_50 : decode cX7_next 50 = .ok (.aload_n 0, 1) := by decide +kernel
theorem dX7_next_51 : decode cX7_next 51 = .ok (.getfield 73, 3) := by decide +kernel
theorem dX7_next_54 : decode cX7_next 54 = .ok (.if_icmp .ne 11, 3) := by decide +kernel
theorem dX7_next_57 : decode cX7_next 57 = .ok (.aload_n 0, 1) := by decide +kernel
theorem dX7_next_58 : decode cX7_next 58 = .ok (.iconst 0, 1) := by decide +kernel
theorem dX7_next_59 : decode cX7_next 59 = .ok (.putfield 196, 3) := by decide +kernel
theorem dX7_next_62 : decode cX7_next 62 = .ok (.goto 150, 3) := by decide +kernel
theorem dX7_next_65 : decode cX7_next 65 = .ok (.aload_n 0, 1) := by decide +kernel
theorem dX7_next_66 : decode cX7_next 66 = .ok (.aload_n 0, 1) := by decide +kernel
theorem dX7_next_67 : decode cX7_next 67 = .ok (.getfield 190, 3) := by decide +kernel
theorem dX7_next_70 : decode cX7_next 70 = .ok (.invokevirtual 199, 3) := by decide +kernel
theorem dX7_next_73 : decode cX7_next 73 = .ok (.ifCond .eq 32, 3) := by decide +kernel
theorem dX7_next_76 : decode cX7_next 76 = .ok (.aload_n 0, 1) := by decide +kernel
theorem dX7_next_77 : decode cX7_next 77 = .ok (.iconst 1, 1) := by decide +kernel
theorem dX7_next_78 : decode cX7_next 78 = .ok (.putfield 196, 3) := by decide +kernel
theorem dX7_next_81 : decode cX7_next 81 = .ok (.aload_n 0, 1) := by decide +kernel
theorem dX7_next_82 : decode cX7_next 82 = .ok (.aload_n 0, 1) := by decide +kernel
theorem dX7_next_83 : decode cX7_next 83 = .ok (.getfield 190, 3) := by decide +kernel
theorem dX7_next_86 : decode cX7_next 86 = .ok (.invokevirtual 199, 3) := by decide +kernel
theorem dX7_next_89 : decode cX7_next 89 = .ok (.ifCond .eq 123, 3) := by decide +kernel
theorem dX7_next_92 : decode cX7_next 92 = .ok (.aload_n 0, 1) := by decide +kernel
theorem dX7_next_93 : decode cX7_next 93 = .ok (.dup, 1) := by decide +kernel
theorem dX7_next_94 : decode cX7_next 94 = .ok (.getfield 190, 3) := by decide +kernel
theorem dX7_next_97 : decode cX7_next 97 = .ok (.iconst 1, 1) := by decide +kernel
theorem dX7_next_98 : decode cX7_next 98 = .ok (.iadd, 1) := by decide +kernel
theorem dX7_next_99 : decode cX7_next 99 = .ok (.putfield 190, 3) := by decide +kernel
theorem dX7_next_102 : decode cX7_next 102 = .ok (.goto (-21), 3) := by decide +kernel
theorem dX7_next_105 : decode cX7_next 105 = .ok (.aload_n 0, 1) := by decide +kernel
theorem dX7_next_106 : decode cX7_next 106 = .ok (.aload_n 0, 1) := by decide +kernel
theorem dX7_next_107 : decode cX7_next 107 = .ok (.getfield 190, 3) := by decide +kernel
theorem dX7_next_110 : decode cX7_next 110 = .ok (.invokevirtual 202, 3) := by decide +kernel
theorem dX7_next_113 : decode cX7_next 113 = .ok (.ifCond .eq 66, 3) := by decide +kernel
theorem dX7_next_116 : decode cX7_next 116 = .ok (.aload_n 0, 1) := by decide +kernel
theorem dX7_next_117 : decode cX7_next 117 = .ok (.iconst 2, 1) := by decide +kernel
theorem dX7_next_118 : decode cX7_next 118 = .ok (.putfield 196, 3) := by decide +kernel
theorem dX7_next_121 : decode cX7_next 121 = .ok (.aload_n 0, 1) := by decide +kernel
theorem dX7_next_122 : decode cX7_next 122 = .ok (.iconst 0, 1) := by decide +kernel
theorem dX7_next_123 : decode cX7_next 123 = .ok (.putfield 205, 3) := by decide +kernel
theorem dX7_next_126 : decode cX7_next 126 = .ok (.aload_n 0, 1) := by decide +kernel
theorem dX7_next_127 : decode cX7_next 127 = .ok (.aload_n 0, 1) := by decide +kernel
theorem dX7_next_128 : decode cX7_next 128 = .ok (.getfield 190, 3) := by decide +kernel
theorem dX7_next_131 : decode cX7_next 131 = .ok (.invokevirtual 202, 3) := by decide +kernel
theorem dX7_next_134 : decode cX7_next 134 = .ok (.ifCond .eq 78, 3) := by decide +kernel
theorem dX7_next_137 : decode cX7_next 137 = .ok (.aload_n 0, 1) := by decide +kernel
theorem dX7_next_138 : decode cX7_next 138 = .ok (.ldc 208, 2) := by decide +kernel
theorem dX7_next_140 : decode cX7_next 140 = .ok (.aload_n 0, 1) := by decide +kernel
theorem dX7_next_141 : decode cX7_next 141 = .ok (.getfield 205, 3) := by decide +kernel
theorem dX7_next_144 : decode cX7_next 144 = .ok (.bipush 10, 2) := by decide +kernel
theorem dX7_next_146 : decode cX7_next 146 = .ok (.imul, 1) := by decide +kernel
theorem dX7_next_147 : decode cX7_next 147 = .ok (.aload_n 0, 1) := by decide +kernel
theorem dX7_next_148 : decode cX7_next 148 = .ok (.getfield 26, 3) := by decide +kernel
theorem dX7_next_151 : decode cX7_next 151 = .ok (.aload_n 0, 1) := by decide +kernel
theorem dX7_next_152 : decode cX7_next 152 = .ok (.getfield 190, 3) := by decide +kernel
theorem dX7_next_155 : decode cX7_next 155 = .ok (.iaload, 1) := by decide +kernel
theorem dX7_next_156 : decode cX7_next 156 = .ok (.iadd, 1) := by decide +kernel
theorem dX7_next_157 : decode cX7_next 157 = .ok (.bipush 48, 2) := by decide +kernel
theorem dX7_next_159 : decode cX7_next 159 = .ok (.isub, 1) := by decide +kernel
theorem dX7_next_160 : decode cX7_next 160 = .ok (.invokestatic 209, 3) := by decide +kernel
theorem dX7_next_163 : decode cX7_next 163 = .ok (.putfield 205, 3) := by decide +kernel
theorem dX7_next_166 : decode cX7_next 166 = .ok (.aload_n 0, 1) := by decide +kernel
theorem dX7_next_167 : decode cX7_next 167 = .ok (.dup, 1) := by decide +kernel
theorem dX7_next_168 : decode cX7_next 168 = .ok (.getfield 190, 3) := by decide +kernel
theorem dX7_next_171 : decode cX7_next 171 = .ok (.iconst 1, 1) := by decide +kernel
theorem dX7_next_172 : decode cX7_next 172 = .ok (.iadd, 1) := by decide +kernel
theorem dX7_next_173 : decode cX7_next 173 = .ok (.putfield 190, 3) := by decide +kernel
theorem dX7_next_176 : decode cX7_next 176 = .ok (.goto (-50), 3) := by decide +kernel
theorem dX7_next_179 : decode cX7_next 179 = .ok (.aload_n 0, 1) := by decide +kernel
theorem dX7_next_180 : decode cX7_next 180 = .ok (.aload_n 0, 1) := by decide +kernel
theorem dX7_next_181 : decode cX7_next 181 = .ok (.getfield 26, 3) := by decide +kernel
theorem dX7_next_184 : decode cX7_next 184 = .ok (.aload_n 0, 1) := by decide +kernel
theorem dX7_next_185 : decode cX7_next 185 = .ok (.getfield 190, 3) := by decide +kernel
theorem dX7_next_188 : decode cX7_next 188 = .ok (.iaload, 1) := by decide +kernel
theorem dX7_next_189 : decode cX7_next 189 = .ok (.bipush 59, 2) := by decide +kernel
theorem dX7_next_191 : decode cX7_next 191 = .ok (.if_icmp .ne 7, 3) := by decide +kernel
theorem dX7_next_194 : decode cX7_next 194 = .ok (.iconst 3, 1) := by decide +kernel
theorem dX7_next_195 : decode cX7_next 195 = .ok (.goto 4, 3) := by decide +kernel
theorem dX7_next_198 : decode cX7_next 198 = .ok (.iconst 4, 1) := by decide +kernel
theorem dX7_next_199 : decode cX7_next 199 = .ok (.putfield 196, 3) := by decide +kernel
theorem dX7_next_202 : decode cX7_next 202 = .ok (.aload_n 0, 1) := by decide +kernel
theorem dX7_next_203 : decode cX7_next 203 = .ok (.dup, 1) := by decide +kernel
theorem dX7_next_204 : decode cX7_next 204 = .ok (.getfield 190, 3) := by decide +kernel
theorem dX7_next_207 : decode cX7_next 207 = .ok (.iconst 1, 1) := by decide +kernel
theorem dX7_next_208 : decode cX7_next 208 = .ok (.iadd, 1) := by decide +kernel
theorem dX7_next_209 : decode cX7_next 209 = .ok (.putfield 190, 3) := by decide +kernel
theorem dX7_next_212 : decode cX7_next 212 = .ok (.return_, 1) := by decide +kernel
theorem dX7_is_0 : decode cX7_is 0 = .ok (.aload_n 0, 1) := by decide +kernel
theorem dX7_is_1 : decode cX7_is 1 = .ok (.getfield 196, 3) := by decide +kernel
theorem dX7_is_4 : decode cX7_is 4 = .ok (.iconst 1, 1) := by decide +kernel
theorem dX7_is_5 : decode cX7_is 5 = .ok (.if_icmp .ne 19, 3) := by decide +kernel
theorem dX7_is_8 : decode cX7_is 8 = .ok (.aload_n 0, 1) := by decide +kernel
theorem dX7_is_9 : decode cX7_is 9 = .ok (.getfield 190, 3) := by decide +kernel
theorem dX7_is_12 : decode cX7_is 12 = .ok (.aload_n 0, 1) := by decide +kernel
theorem dX7_is_13 : decode cX7_is 13 = .ok (.getfield 193, 3) := by decide +kernel
theorem dX7_is_16 : decode cX7_is 16 = .ok (.isub, 1) := by decide +kernel
theorem dX7_is_17 : decode cX7_is 17 = .ok (.aload_n 1, 1) := by decide +kernel
theorem dX7_is_18 : decode cX7_is 18 = .ok (.invokevirtual 67, 3) := by decide +kernel
theorem dX7_is_21 : decode cX7_is 21 = .ok (.if_icmp .eq 5, 3) := by decide +kernel
theorem dX7_is_24 : decode cX7_is 24 = .ok (.iconst 0, 1) := by decide +kernel
theorem dX7_is_25 : decode cX7_is 25 = .ok (.ireturn, 1) := by decide +kernel
theorem dX7_is_26 : decode cX7_is 26 = .ok (.iconst 0, 1) := by decide +kernel
theorem dX7_is_27 : decode cX7_is 27 = .ok (.istore_n 2, 1) := by decide +kernel
theorem dX7_is_28 : decode cX7_is 28 = .ok (.iload_n 2, 1) := by decide +kernel
theorem dX7_is_29 : decode cX7_is 29 = .ok (.aload_n 1, 1) := by decide +kernel
theorem dX7_is_30 : decode cX7_is 30 = .ok (.invokevirtual 67, 3) := by decide +kernel
theorem dX7_is_33 : decode cX7_is 33 = .ok (.if_icmp .ge 30, 3) := by decide +kernel
theorem dX7_is_36 : decode cX7_is 36 = .ok (.aload_n 0, 1) := by decide +kernel
theorem dX7_is_37 : decode cX7_is 37 = .ok (.getfield 26, 3) := by decide +kernel
theorem dX7_is_40 : decode cX7_is 40 = .ok (.aload_n 0, 1) := by decide +kernel
theorem dX7_is_41 : decode cX7_is 41 = .ok (.getfield 193, 3) := by decide +kernel
theorem dX7_is_44 : decode cX7_is 44 = .ok (.iload_n 2, 1) := by decide +kernel
theorem dX7_is_45 : decode cX7_is 45 = .ok (.iadd, 1) := by decide +kernel
theorem dX7_is_46 : decode cX7_is 46 = .ok (.iaload, 1) := by decide +kernel
theorem dX7_is_47 : decode cX7_is 47 = .ok (.aload_n 1, 1) := by decide +kernel
theorem dX7_is_48 : decode cX7_is 48 = .ok (.iload_n 2, 1) := by decide +kernel
theorem dX7_is_49 : decode cX7_is 49 = .ok (.invokevirtual 76, 3) := by decide +kernel
theorem dX7_is_52 : decode cX7_is 52 = .ok (.if_icmp .eq 5, 3) := by decide +kernel
theorem dX7_is_55 : decode cX7_is 55 = .ok (.iconst 0, 1) := by decide +kernel
theorem dX7_is_56 : decode cX7_is 56 = .ok (.ireturn, 1) := by decide +kernel
theorem dX7_is_57 : decode cX7_is 57 = .ok (.iinc 2 1, 3) := by decide +kernel
theorem dX7_is_60 : decode cX7_is 60 = .ok (.goto (-32), 3) := by decide +kernel
theorem dX7_is_63 : decode cX7_is 63 = .ok (.iconst 1, 1) := by decide +kernel
theorem dX7_is_64 : decode cX7_is 64 = .ok (.ireturn, 1) := by decide +kernel
theorem dX7_wrong_0 : decode cX7_wrong 0 = .ok (.aload_n 0, 1) := by decide +kernel
theorem dX7_wrong_1 : decode cX7_wrong 1 = .ok (.getfield 212, 3) := by decide +kernel
theorem dX7_wrong_4 : decode cX7_wrong 4 = .ok (.ifCond .ne 7, 3) := by decide +kernel
theorem dX7_wrong_7 : decode cX7_wrong 7 = .ok (.iload_n 1, 1) := by decide +kernel
theorem dX7_wrong_8 : decode cX7_wrong 8 = .ok (.ifCond .ne 4, 3) := by decide +kernel
theorem dX7_wrong_11 : decode cX7_wrong 11 = .ok (.return_, 1) := by decide +kernel
theorem dX7_wrong_12 : decode cX7_wrong 12 = .ok (.aload_n 0, 1) := by decide +kernel
theorem dX7_wrong_13 : decode cX7_wrong 13 = .ok (.iconst 1, 1) := by decide +kernel
theorem dX7_wrong_14 : decode cX7_wrong 14 = .ok (.putfield 212, 3) := by decide +kernel
theorem dX7_wrong_17 : decode cX7_wrong 17 = .ok (.aload_n 0, 1) := by decide +kernel
theorem dX7_wrong_18 : decode cX7_wrong 18 = .ok (.iload_n 2, 1) := by decide +kernel
theorem dX7_wrong_19 : decode cX7_wrong 19 = .ok (.putfield 216, 3) := by decide +kernel
theorem dX7_wrong_22 : decode cX7_wrong 22 = .ok (.aload_n 0, 1) := by decide +kernel
theorem dX7_wrong_23 : decode cX7_wrong 23 = .ok (.aload_n 0, 1) := by decide +kernel
theorem dX7_wrong_24 : decode cX7_wrong 24 = .ok (.getfield 193, 3) := by decide +kernel
theorem dX7_wrong_27 : decode cX7_wrong 27 = .ok (.putfield 32, 3) := by decide +kernel
theorem dX7_wrong_30 : decode cX7_wrong 30 = .ok (.return_, 1) := by decide +kernel
theorem dX7_go_0 : decode cX7_go 0 = .ok (.aload_n 0, 1) := by decide +kernel
theorem dX7_go_1 : decode cX7_go 1 = .ok (.getfield 212, 3) := by decide +kernel
theorem dX7_go_4 : decode cX7_go 4 = .ok (.ifCond .ne 7, 3) := by decide +kernel
theorem dX7_go_7 : decode cX7_go 7 = .ok (.aload_n 0, 1) := by decide +kernel
theorem dX7_go_8 : decode cX7_go 8 = .ok (.invokevirtual 219, 3) := by decide +kernel
theorem dX7_go_11 : decode cX7_go 11 = .ok (.return_, 1) := by decide +kernel
theorem dX7_here_0 : decode cX7_here 0 = .ok (.aload_n 0, 1) := by decide +kernel
theorem dX7_here_1 : decode cX7_here 1 = .ok (.aload_n 0, 1) := by decide +kernel
theorem dX7_here_2 : decode cX7_here 2 = .ok (.getfield 196, 3) := by decide +kernel
theorem dX7_here_5 : decode cX7_here 5 = .ok (.iconst 2, 1) := by decide +kernel
theorem dX7_here_6 : decode cX7_here 6 = .ok (.if_icmp .eq 7, 3) := by decide +kernel
theorem dX7_here_9 : decode cX7_here 9 = .ok (.iconst 1, 1) := by decide +kernel
theorem dX7_here_10 : decode cX7_here 10 = .ok (.goto 4, 3) := by decide +kernel
theorem dX7_here_13 : decode cX7_here 13 = .ok (.iconst 0, 1) := by decide +kernel
theorem dX7_here_14 : decode cX7_here 14 = .ok (.iconst 1, 1) := by decide +kernel
theorem dX7_here_15 : decode cX7_here 15 = .ok (.invokevirtual 222, 3) := by decide +kernel
theorem dX7_here_18 : decode cX7_here 18 = .ok (.aload_n 0, 1) := by decide +kernel
theorem dX7_here_19 : decode cX7_here 19 = .ok (.aload_n 0, 1) := by decide +kernel
theorem dX7_here_20 : decode cX7_here 20 = .ok (.getfield 212, 3) := by decide +kernel
theorem dX7_here_23 : decode cX7_here 23 = .ok (.ifCond .ne 19, 3) := by decide +kernel
theorem dX7_here_26 : decode cX7_here 26 = .ok (.aload_n 0, 1) := by decide +kernel
theorem dX7_here_27 : decode cX7_here 27 = .ok (.getfield 205, 3) := by decide +kernel
theorem dX7_here_30 : decode cX7_here 30 = .ok (.iload_n 1, 1) := by decide +kernel
theorem dX7_here_31 : decode cX7_here 31 = .ok (.iload_n 2, 1) := by decide +kernel
theorem dX7_here_32 : decode cX7_here 32 = .ok (.invokestatic 182, 3) := by decide +kernel
theorem dX7_here_35 : decode cX7_here 35 = .ok (.ifCond .ne 7, 3) := by decide +kernel
theorem dX7_here_38 : decode cX7_here 38 = .ok (.iconst 1, 1) := by decide +kernel
theorem dX7_here_39 : decode cX7_here 39 = .ok (.goto 4, 3) := by decide +kernel
theorem dX7_here_42 : decode cX7_here 42 = .ok (.iconst 0, 1) := by decide +kernel
theorem dX7_here_43 : decode cX7_here 43 = .ok (.iconst 2, 1) := by decide +kernel
theorem dX7_here_44 : decode cX7_here 44 = .ok (.invokevirtual 222, 3) := by decide +kernel
theorem dX7_here_47 : decode cX7_here 47 = .ok (.aload_n 0, 1) := by decide +kernel
theorem dX7_here_48 : decode cX7_here 48 = .ok (.getfield 212, 3) := by decide +kernel
theorem dX7_here_51 : decode cX7_here 51 = .ok (.ifCond .eq 7, 3) := by decide +kernel
theorem dX7_here_54 : decode cX7_here 54 = .ok (.iload_n 1, 1) := by decide +kernel
theorem dX7_here_55 : decode cX7_here 55 = .ok (.goto 7, 3) := by decide +kernel
theorem dX7_here_58 : decode cX7_here 58 = .ok (.aload_n 0, 1) := by decide +kernel
theorem dX7_here_59 : decode cX7_here 59 = .ok (.getfield 205, 3) := by decide +kernel
theorem dX7_here_62 : decode cX7_here 62 = .ok (.ireturn, 1) := by decide +kernel
theorem dX7_number_0 : decode cX7_number 0 = .ok (.aload_n 0, 1) := by decide +kernel
theorem dX7_number_1 : decode cX7_number 1 = .ok (.iload_n 1, 1) := by decide +kernel
theorem dX7_number_2 : decode cX7_number 2 = .ok (.iload_n 2, 1) := by decide +kernel
theorem dX7_number_3 : decode cX7_number 3 = .ok (.invokevirtual 226, 3) := by decide +kernel
theorem dX7_number_6 : decode cX7_number 6 = .ok (.istore_n 3, 1) := by decide +kernel
theorem dX7_number_7 : decode cX7_number 7 = .ok (.aload_n 0, 1) := by decide +kernel
theorem dX7_number_8 : decode cX7_number 8 = .ok (.invokevirtual 229, 3) := by decide +kernel
theorem dX7_number_11 : decode cX7_number 11 = .ok (.iload_n 3, 1) := by decide +kernel
theorem dX7_number_12 : decode cX7_number 12 = .ok (.ireturn, 1) := by decide +kernel
theorem dX7_column_0 : decode cX7_column 0 = .ok (.aload_n 0, 1) := by decide +kernel
theorem dX7_column_1 : decode cX7_column 1 = .ok (.iconst 0, 1) := by decide +kernel
theorem dX7_column_2 : decode cX7_column 2 = .ok (.aload_n 0, 1) := by decide +kernel
theorem dX7_column_3 : decode cX7_column 3 = .ok (.getfield 9, 3) := by decide +kernel
theorem dX7_column_6 : decode cX7_column 6 = .ok (.iconst 0, 1) := by decide +kernel
theorem dX7_column_7 : decode cX7_column 7 = .ok (.iaload, 1) := by decide +kernel
theorem dX7_column_8 : decode cX7_column 8 = .ok (.iconst 1, 1) := by decide +kernel
theorem dX7_column_9 : decode cX7_column 9 = .ok (.isub, 1) := by decide +kernel
theorem dX7_column_10 : decode cX7_column 10 = .ok (.invokevirtual 232, 3) := by decide +kernel
theorem dX7_column_13 : decode cX7_column 13 = .ok (.ireturn, 1) := by decide +kernel
theorem dX7_row_0 : decode cX7_row 0 = .ok (.aload_n 0, 1) := by decide +kernel
theorem dX7_row_1 : decode cX7_row 1 = .ok (.iconst 0, 1) := by decide +kernel
theorem dX7_row_2 : decode cX7_row 2 = .ok (.aload_n 0, 1) := by decide +kernel
theorem dX7_row_3 : decode cX7_row 3 = .ok (.getfield 9, 3) := by decide +kernel
theorem dX7_row_6 : decode cX7_row 6 = .ok (.iconst 1, 1) := by decide +kernel
theorem dX7_row_7 : decode cX7_row 7 = .ok (.iaload, 1) := by decide +kernel
theorem dX7_row_8 : decode cX7_row 8 = .ok (.iconst 1, 1) := by decide +kernel
theorem dX7_row_9 : decode cX7_row 9 = .ok (.isub, 1) := by decide +kernel
theorem dX7_row_10 : decode cX7_row 10 = .ok (.invokevirtual 232, 3) := by decide +kernel
theorem dX7_row_13 : decode cX7_row 13 = .ok (.ireturn, 1) := by decide +kernel
theorem dX7_semicolon_0 : decode cX7_semicolon 0 = .ok (.aload_n 0, 1) := by decide +kernel
theorem dX7_semicolon_1 : decode cX7_semicolon 1 = .ok (.aload_n 0, 1) := by decide +kernel
theorem dX7_semicolon_2 : decode cX7_semicolon 2 = .ok (.getfield 196, 3) := by decide +kernel
theorem dX7_semicolon_5 : decode cX7_semicolon 5 = .ok (.iconst 3, 1) := by decide +kernel
theorem dX7_semicolon_6 : decode cX7_semicolon 6 = .ok (.if_icmp .eq 7, 3) := by decide +kernel
theorem dX7_semicolon_9 : decode cX7_semicolon 9 = .ok (.iconst 1, 1) := by decide +kernel
theorem dX7_semicolon_10 : decode cX7_semicolon 10 = .ok (.goto 4, 3) := by decide +kernel
theorem dX7_semicolon_13 : decode cX7_semicolon 13 = .ok (.iconst 0, 1) := by decide +kernel
theorem dX7_semicolon_14 : decode cX7_semicolon 14 = .ok (.iconst 1, 1) := by decide +kernel
theorem dX7_semicolon_15 : decode cX7_semicolon 15 = .ok (.invokevirtual 222, 3) := by decide +kernel
theorem dX7_semicolon_18 : decode cX7_semicolon 18 = .ok (.aload_n 0, 1) := by decide +kernel
theorem dX7_semicolon_19 : decode cX7_semicolon 19 = .ok (.invokevirtual 229, 3) := by decide +kernel
theorem dX7_semicolon_22 : decode cX7_semicolon 22 = .ok (.return_, 1) := by decide +kernel
theorem dX7_kindHere_0 : decode cX7_kindHere 0 = .ok (.aload_n 0, 1) := by decide +kernel
theorem dX7_kindHere_1 : decode cX7_kindHere 1 = .ok (.ldc 235, 2) := by decide +kernel
theorem dX7_kindHere_3 : decode cX7_kindHere 3 = .ok (.invokevirtual 237, 3) := by decide +kernel
theorem dX7_kindHere_6 : decode cX7_kindHere 6 = .ok (.ifCond .eq 7, 3) := by decide +kernel
theorem dX7_kindHere_9 : decode cX7_kindHere 9 = .ok (.iconst 0, 1) := by decide +kernel
theorem dX7_kindHere_10 : decode cX7_kindHere 10 = .ok (.goto 56, 3) := by decide +kernel
theorem dX7_kindHere_13 : decode cX7_kindHere 13 = .ok (.aload_n 0, 1) := by decide +kernel
theorem dX7_kindHere_14 : decode cX7_kindHere 14 = .ok (.ldc 241, 2) := by decide +kernel
theorem dX7_kindHere_16 : decode cX7_kindHere 16 = .ok (.invokevirtual 237, 3) := by decide +kernel
theorem dX7_kindHere_19 : decode cX7_kindHere 19 = .ok (.ifCond .eq 7, 3) := by decide +kernel
theorem dX7_kindHere_22 : decode cX7_kindHere 22 = .ok (.iconst 1, 1) := by decide +kernel
theorem dX7_kindHere_23 : decode cX7_kindHere 23 = .ok (.goto 43, 3) := by decide +kernel
theorem dX7_kindHere_26 : decode cX7_kindHere 26 = .ok (.aload_n 0, 1) := by decide +kernel
theorem dX7_kindHere_27 : decode cX7_kindHere 27 = .ok (.ldc 243, 2) := by decide +kernel
theorem dX7_kindHere_29 : decode cX7_kindHere 29 = .ok (.invokevirtual 237, 3) := by decide +kernel
theorem dX7_kindHere_32 : decode cX7_kindHere 32 = .ok (.ifCond .eq 7, 3) := by decide +kernel
theorem dX7_kindHere_35 : decode cX7_kindHere 35 = .ok (.iconst 2, 1) := by decide +kernel
theorem dX7_kindHere_36 : decode cX7_kindHere 36 = .ok (.goto 30, 3) := by decide +kernel
theorem dX7_kindHere_39 : decode cX7_kindHere 39 = .ok (.aload_n 0, 1) := by decide +kernel
theorem dX7_kindHere_40 : decode cX7_kindHere 40 = .ok (.ldc 245, 2) := by decide +kernel
theorem dX7_kindHere_42 : decode cX7_kindHere 42 = .ok (.invokevirtual 237, 3) := by decide +kernel
theorem dX7_kindHere_45 : decode cX7_kindHere 45 = .ok (.ifCond .eq 7, 3) := by decide +kernel
theorem dX7_kindHere_48 : decode cX7_kindHere 48 = .ok (.iconst 3, 1) := by decide +kernel
theorem dX7_kindHere_49 : decode cX7_kindHere 49 = .ok (.goto 17, 3) := by decide +kernel
theorem dX7_kindHere_52 : decode cX7_kindHere 52 = .ok (.aload_n 0, 1) := by decide +kernel
theorem dX7_kindHere_53 : decode cX7_kindHere 53 = .ok (.ldc 247, 2) := by decide +kernel
theorem dX7_kindHere_55 : decode cX7_kindHere 55 = .ok (.invokevirtual 237, 3) := by decide +kernel
theorem dX7_kindHere_58 : decode cX7_kindHere 58 = .ok (.ifCond .eq 7, 3) := by decide +kernel
theorem dX7_kindHere_61 : decode cX7_kindHere 61 = .ok (.iconst 4, 1) := by decide +kernel
theorem dX7_kindHere_62 : decode cX7_kindHere 62 = .ok (.goto 4, 3) := by decide +kernel
theorem dX7_kindHere_65 : decode cX7_kindHere 65 = .ok (.iconst (-1), 1) := by decide +kernel
theorem dX7_kindHere_66 : decode cX7_kindHere 66 = .ok (.ireturn, 1) := by decide +kernel
theorem dX7_pieces_0 : decode cX7_pieces 0 = .ok (.iconst 0, 1) := by decide +kernel
theorem dX7_pieces_1 : decode cX7_pieces 1 = .ok (.istore_n 1, 1) := by decide +kernel
theorem dX7_pieces_2 : decode cX7_pieces 2 = .ok (.iconst 0, 1) := by decide +kernel
theorem dX7_pieces_3 : decode cX7_pieces 3 = .ok (.istore_n 2, 1) := by decide +kernel
theorem dX7_pieces_4 : decode cX7_pieces 4 = .ok (.iload_n 2, 1) := by decide +kernel
theorem dX7_pieces_5 : decode cX7_pieces 5 = .ok (.aload_n 0, 1) := by decide +kernel
theorem dX7_pieces_6 : decode cX7_pieces 6 = .ok (.invokevirtual 120, 3) := by decide +kernel
theorem dX7_pieces_9 : decode cX7_pieces 9 = .ok (.if_icmp .ge 23, 3) := by decide +kernel
theorem dX7_pieces_12 : decode cX7_pieces 12 = .ok (.aload_n 0, 1) := by decide +kernel
theorem dX7_pieces_13 : decode cX7_pieces 13 = .ok (.getfield 9, 3) := by decide +kernel
theorem dX7_pieces_16 : decode cX7_pieces 16 = .ok (.iconst 3, 1) := by decide +kernel
theorem dX7_pieces_17 : decode cX7_pieces 17 = .ok (.iload_n 2, 1) := by decide +kernel
theorem dX7_pieces_18 : decode cX7_pieces 18 = .ok (.iadd, 1) := by decide +kernel
theorem dX7_pieces_19 : decode cX7_pieces 19 = .ok (.iaload, 1) := by decide +kernel
theorem dX7_pieces_20 : decode cX7_pieces 20 = .ok (.ifCond .le 6, 3) := by decide +kernel
theorem dX7_pieces_23 : decode cX7_pieces 23 = .ok (.iinc 1 1, 3) := by decide +kernel
theorem dX7_pieces_26 : decode cX7_pieces 26 = .ok (.iinc 2 1, 3) := by decide +kernel
theorem dX7_pieces_29 : decode cX7_pieces 29 = .ok (.goto (-25), 3) := by decide +kernel
theorem dX7_pieces_32 : decode cX7_pieces 32 = .ok (.iload_n 1, 1) := by decide +kernel
theorem dX7_pieces_33 : decode cX7_pieces 33 = .ok (.ireturn, 1) := by decide +kernel
theorem dX7_pieceTold_0 : decode cX7_pieceTold 0 = .ok (.aload_n 0, 1) := by decide +kernel
theorem dX7_pieceTold_1 : decode cX7_pieceTold 1 = .ok (.ldc 249, 2) := by decide +kernel
theorem dX7_pieceTold_3 : decode cX7_pieceTold 3 = .ok (.invokevirtual 237, 3) := by decide +kernel
theorem dX7_pieceTold_6 : decode cX7_pieceTold 6 = .ok (.istore_n 1, 1) := by decide +kernel
theorem dX7_pieceTold_7 : decode cX7_pieceTold 7 = .ok (.aload_n 0, 1) := by decide +kernel
theorem dX7_pieceTold_8 : decode cX7_pieceTold 8 = .ok (.iload_n 1, 1) := by decide +kernel
theorem dX7_pieceTold_9 : decode cX7_pieceTold 9 = .ok (.ifCond .ne 16, 3) := by decide +kernel
theorem dX7_pieceTold_12 : decode cX7_pieceTold 12 = .ok (.aload_n 0, 1) := by decide +kernel
theorem dX7_pieceTold_13 : decode cX7_pieceTold 13 = .ok (.ldc 251, 2) := by decide +kernel
theorem dX7_pieceTold_15 : decode cX7_pieceTold 15 = .ok (.invokevirtual 237, 3) := by decide +kernel
theorem dX7_pieceTold_18 : decode cX7_pieceTold 18 = .ok (.ifCond .ne 7, 3) := by decide +kernel
theorem dX7_pieceTold_21 : decode cX7_pieceTold 21 = .ok (.iconst 1, 1) := by decide +kernel
theorem dX7_pieceTold_22 : decode cX7_pieceTold 22 = .ok (.goto 4, 3) := by decide +kernel
theorem dX7_pieceTold_25 : decode cX7_pieceTold 25 = .ok (.iconst 0, 1) := by decide +kernel
theorem dX7_pieceTold_26 : decode cX7_pieceTold 26 = .ok (.iconst 1, 1) := by decide +kernel
theorem dX7_pieceTold_27 : decode cX7_pieceTold 27 = .ok (.invokevirtual 222, 3) := by decide +kernel
theorem dX7_pieceTold_30 : decode cX7_pieceTold 30 = .ok (.aload_n 0, 1) := by decide +kernel
theorem dX7_pieceTold_31 : decode cX7_pieceTold 31 = .ok (.aload_n 0, 1) := by decide +kernel
theorem dX7_pieceTold_32 : decode cX7_pieceTold 32 = .ok (.invokevirtual 253, 3) := by decide +kernel
theorem dX7_pieceTold_35 : decode cX7_pieceTold 35 = .ok (.bipush 10, 2) := by decide +kernel
theorem dX7_pieceTold_37 : decode cX7_pieceTold 37 = .ok (.if_icmp .ne 7, 3) := by decide +kernel
theorem dX7_pieceTold_40 : decode cX7_pieceTold 40 = .ok (.iconst 1, 1) := by decide +kernel
theorem dX7_pieceTold_41 : decode cX7_pieceTold 41 = .ok (.goto 4, 3) := by decide +kernel
theorem dX7_pieceTold_44 : decode cX7_pieceTold 44 = .ok (.iconst 0, 1) := by decide +kernel
theorem dX7_pieceTold_45 : decode cX7_pieceTold 45 = .ok (.iconst 4, 1) := by decide +kernel
theorem dX7_pieceTold_46 : decode cX7_pieceTold 46 = .ok (.invokevirtual 222, 3) := by decide +kernel
theorem dX7_pieceTold_49 : decode cX7_pieceTold 49 = .ok (.aload_n 0, 1) := by decide +kernel
theorem dX7_pieceTold_50 : decode cX7_pieceTold 50 = .ok (.invokevirtual 229, 3) := by decide +kernel
theorem dX7_pieceTold_53 : decode cX7_pieceTold 53 = .ok (.iload_n 1, 1) := by decide +kernel
theorem dX7_pieceTold_54 : decode cX7_pieceTold 54 = .ok (.ifCond .eq 7, 3) := by decide +kernel
theorem dX7_pieceTold_57 : decode cX7_pieceTold 57 = .ok (.iconst 0, 1) := by decide +kernel
theorem dX7_pieceTold_58 : decode cX7_pieceTold 58 = .ok (.goto 4, 3) := by decide +kernel
theorem dX7_pieceTold_61 : decode cX7_pieceTold 61 = .ok (.iconst 1, 1) := by decide +kernel
theorem dX7_pieceTold_62 : decode cX7_pieceTold 62 = .ok (.istore_n 2, 1) := by decide +kernel
theorem dX7_pieceTold_63 : decode cX7_pieceTold 63 = .ok (.aload_n 0, 1) := by decide +kernel
theorem dX7_pieceTold_64 : decode cX7_pieceTold 64 = .ok (.getfield 212, 3) := by decide +kernel
theorem dX7_pieceTold_67 : decode cX7_pieceTold 67 = .ok (.ifCond .eq 7, 3) := by decide +kernel
theorem dX7_pieceTold_70 : decode cX7_pieceTold 70 = .ok (.iconst 0, 1) := by decide +kernel
theorem dX7_pieceTold_71 : decode cX7_pieceTold 71 = .ok (.goto 7, 3) := by decide +kernel
theorem dX7_pieceTold_74 : decode cX7_pieceTold 74 = .ok (.aload_n 0, 1) := by decide +kernel
theorem dX7_pieceTold_75 : decode cX7_pieceTold 75 = .ok (.invokevirtual 256, 3) := by decide +kernel
theorem dX7_pieceTold_78 : decode cX7_pieceTold 78 = .ok (.istore_n 3, 1) := by decide +kernel
theorem dX7_pieceTold_79 : decode cX7_pieceTold 79 = .ok (.aload_n 0, 1) := by decide +kernel
theorem dX7_pieceTold_80 : decode cX7_pieceTold 80 = .ok (.iload_n 3, 1) := by decide +kernel
theorem dX7_pieceTold_81 : decode cX7_pieceTold 81 = .ok (.iconst (-1), 1) := by decide +kernel
theorem dX7_pieceTold_82 : decode cX7_pieceTold 82 = .ok (.if_icmp .ne 7, 3) := by decide +kernel
theorem dX7_pieceTold_85 : decode cX7_pieceTold 85 = .ok (.iconst 1, 1) := by decide +kernel
theorem dX7_pieceTold_86 : decode cX7_pieceTold 86 = .ok (.goto 4, 3) := by decide +kernel
theorem dX7_pieceTold_89 : decode cX7_pieceTold 89 = .ok (.iconst 0, 1) := by decide +kernel
theorem dX7_pieceTold_90 : decode cX7_pieceTold 90 = .ok (.iconst 1, 1) := by decide +kernel
theorem dX7_pieceTold_91 : decode cX7_pieceTold 91 = .ok (.invokevirtual 222, 3) := by decide +kernel
theorem dX7_pieceTold_94 : decode cX7_pieceTold 94 = .ok (.aload_n 0, 1) := by decide +kernel
theorem dX7_pieceTold_95 : decode cX7_pieceTold 95 = .ok (.aload_n 0, 1) := by decide +kernel
theorem dX7_pieceTold_96 : decode cX7_pieceTold 96 = .ok (.getfield 212, 3) := by decide +kernel
theorem dX7_pieceTold_99 : decode cX7_pieceTold 99 = .ok (.ifCond .ne 25, 3) := by decide +kernel
theorem dX7_pieceTold_102 : decode cX7_pieceTold 102 = .ok (.iload_n 3, 1) := by decide +kernel
theorem dX7_pieceTold_103 : decode cX7_pieceTold 103 = .ok (.ifCond .ne 21, 3) := by decide +kernel
theorem dX7_pieceTold_106 : decode cX7_pieceTold 106 = .ok (.aload_n 0, 1) := by decide +kernel
theorem dX7_pieceTold_107 : decode cX7_pieceTold 107 = .ok (.aload_n 0, 1) := by decide +kernel
theorem dX7_pieceTold_108 : decode cX7_pieceTold 108 = .ok (.getfield 9, 3) := by decide +kernel
theorem dX7_pieceTold_111 : decode cX7_pieceTold 111 = .ok (.iconst 3, 1) := by decide +kernel
theorem dX7_pieceTold_112 : decode cX7_pieceTold 112 = .ok (.iload_n 2, 1) := by decide +kernel
theorem dX7_pieceTold_113 : decode cX7_pieceTold 113 = .ok (.invokevirtual 137, 3) := by decide +kernel
theorem dX7_pieceTold_116 : decode cX7_pieceTold 116 = .ok (.iconst (-1), 1) := by decide +kernel
theorem dX7_pieceTold_117 : decode cX7_pieceTold 117 = .ok (.if_icmp .eq 7, 3) := by decide +kernel
theorem dX7_pieceTold_120 : decode cX7_pieceTold 120 = .ok (.iconst 1, 1) := by decide +kernel
theorem dX7_pieceTold_121 : decode cX7_pieceTold 121 = .ok (.goto 4, 3) := by decide +kernel
theorem dX7_pieceTold_124 : decode cX7_pieceTold 124 = .ok (.iconst 0, 1) := by decide +kernel
theorem dX7_pieceTold_125 : decode cX7_pieceTold 125 = .ok (.iconst 4, 1) := by decide +kernel
theorem dX7_pieceTold_126 : decode cX7_pieceTold 126 = .ok (.invokevirtual 222, 3) := by decide +kernel
theorem dX7_pieceTold_129 : decode cX7_pieceTold 129 = .ok (.aload_n 0, 1) := by decide +kernel
theorem dX7_pieceTold_130 : decode cX7_pieceTold 130 = .ok (.invokevirtual 229, 3) := by decide +kernel
theorem dX7_pieceTold_133 : decode cX7_pieceTold 133 = .ok (.aload_n 0, 1) := by decide +kernel
theorem dX7_pieceTold_134 : decode cX7_pieceTold 134 = .ok (.invokevirtual 259, 3) := by decide +kernel
theorem dX7_pieceTold_137 : decode cX7_pieceTold 137 = .ok (.istore 4, 2) := by decide +kernel
theorem dX7_pieceTold_139 : decode cX7_pieceTold 139 = .ok (.aload_n 0, 1) := by decide +kernel
theorem dX7_pieceTold_140 : decode cX7_pieceTold 140 = .ok (.iconst 0, 1) := by decide +kernel
theorem dX7_pieceTold_141 : decode cX7_pieceTold 141 = .ok (.aload_n 0, 1) := by decide +kernel
theorem dX7_pieceTold_142 : decode cX7_pieceTold 142 = .ok (.getfield 9, 3) := by decide +kernel
theorem dX7_pieceTold_145 : decode cX7_pieceTold 145 = .ok (.iconst 1, 1) := by decide +kernel
theorem dX7_pieceTold_146 : decode cX7_pieceTold 146 = .ok (.iaload, 1) := by decide +kernel
theorem dX7_pieceTold_147 : decode cX7_pieceTold 147 = .ok (.iconst 1, 1) := by decide +kernel
theorem dX7_pieceTold_148 : decode cX7_pieceTold 148 = .ok (.isub, 1) := by decide +kernel
theorem dX7_pieceTold_149 : decode cX7_pieceTold 149 = .ok (.invokevirtual 226, 3) := by decide +kernel
theorem dX7_pieceTold_152 : decode cX7_pieceTold 152 = .ok (.istore 5, 2) := by decide +kernel
theorem dX7_pieceTold_154 : decode cX7_pieceTold 154 = .ok (.aload_n 0, 1) := by decide +kernel
theorem dX7_pieceTold_155 : decode cX7_pieceTold 155 = .ok (.aload_n 0, 1) := by decide +kernel
theorem dX7_pieceTold_156 : decode cX7_pieceTold 156 = .ok (.getfield 212, 3) := by decide +kernel
theorem dX7_pieceTold_159 : decode cX7_pieceTold 159 = .ok (.ifCond .ne 29, 3) := by decide +kernel
theorem dX7_pieceTold_162 : decode cX7_pieceTold 162 = .ok (.aload_n 0, 1) := by decide +kernel
theorem dX7_pieceTold_163 : decode cX7_pieceTold 163 = .ok (.getfield 9, 3) := by decide +kernel
theorem dX7_pieceTold_166 : decode cX7_pieceTold 166 = .ok (.iconst 3, 1) := by decide +kernel
theorem dX7_pieceTold_167 : decode cX7_pieceTold 167 = .ok (.iload 5, 2) := by decide +kernel
theorem dX7_pieceTold_169 : decode cX7_pieceTold 169 = .ok (.aload_n 0, 1) := by decide +kernel
theorem dX7_pieceTold_170 : decode cX7_pieceTold 170 = .ok (.getfield 9, 3) := by decide +kernel
theorem dX7_pieceTold_173 : decode cX7_pieceTold 173 = .ok (.iconst 0, 1) := by decide +kernel
theorem dX7_pieceTold_174 : decode cX7_pieceTold 174 = .ok (.iaload, 1) := by decide +kernel
theorem dX7_pieceTold_175 : decode cX7_pieceTold 175 = .ok (.imul, 1) := by decide +kernel
theorem dX7_pieceTold_176 : decode cX7_pieceTold 176 = .ok (.iadd, 1) := by decide +kernel
theorem dX7_pieceTold_177 : decode cX7_pieceTold 177 = .ok (.iload 4, 2) := by decide +kernel
theorem dX7_pieceTold_179 : decode cX7_pieceTold 179 = .ok (.iadd, 1) := by decide +kernel
theorem dX7_pieceTold_180 : decode cX7_pieceTold 180 = .ok (.iaload, 1) := by decide +kernel
theorem dX7_pieceTold_181 : decode cX7_pieceTold 181 = .ok (.ifCond .le 7, 3) := by decide +kernel
theorem dX7_pieceTold_184 : decode cX7_pieceTold 184 = .ok (.iconst 1, 1) := by decide +kernel
theorem dX7_pieceTold_185 : decode cX7_pieceTold 185 = .ok (.goto 4, 3) := by decide +kernel
theorem dX7_pieceTold_188 : decode cX7_pieceTold 188 = .ok (.iconst 0, 1) := by decide +kernel
theorem dX7_pieceTold_189 : decode cX7_pieceTold 189 = .ok (.iconst 3, 1) := by decide +kernel
theorem dX7_pieceTold_190 : decode cX7_pieceTold 190 = .ok (.invokevirtual 222, 3) := by decide +kernel
theorem dX7_pieceTold_193 : decode cX7_pieceTold 193 = .ok (.aload_n 0, 1) := by decide +kernel
theorem dX7_pieceTold_194 : decode cX7_pieceTold 194 = .ok (.invokevirtual 229, 3) := by decide +kernel
theorem dX7_pieceTold_197 : decode cX7_pieceTold 197 = .ok (.aload_n 0, 1) := by decide +kernel
theorem dX7_pieceTold_198 : decode cX7_pieceTold 198 = .ok (.invokevirtual 262, 3) := by decide +kernel
theorem dX7_pieceTold_201 : decode cX7_pieceTold 201 = .ok (.aload_n 0, 1) := by decide +kernel
theorem dX7_pieceTold_202 : decode cX7_pieceTold 202 = .ok (.getfield 212, 3) := by decide +kernel
theorem dX7_pieceTold_205 : decode cX7_pieceTold 205 = .ok (.ifCond .ne 27, 3) := by decide +kernel
theorem dX7_pieceTold_208 : decode cX7_pieceTold 208 = .ok (.aload_n 0, 1) := by decide +kernel
theorem dX7_pieceTold_209 : decode cX7_pieceTold 209 = .ok (.getfield 9, 3) := by decide +kernel
theorem dX7_pieceTold_212 : decode cX7_pieceTold 212 = .ok (.iconst 3, 1) := by decide +kernel
theorem dX7_pieceTold_213 : decode cX7_pieceTold 213 = .ok (.iload 5, 2) := by decide +kernel
theorem dX7_pieceTold_215 : decode cX7_pieceTold 215 = .ok (.aload_n 0, 1) := by decide +kernel
theorem dX7_pieceTold_216 : decode cX7_pieceTold 216 = .ok (.getfield 9, 3) := by decide +kernel
theorem dX7_pieceTold_219 : decode cX7_pieceTold 219 = .ok (.iconst 0, 1) := by decide +kernel
theorem dX7_pieceTold_220 : decode cX7_pieceTold 220 = .ok (.iaload, 1) := by decide +kernel
theorem dX7_pieceTold_221 : decode cX7_pieceTold 221 = .ok (.imul, 1) := by decide +kernel
theorem dX7_pieceTold_222 : decode cX7_pieceTold 222 = .ok (.iadd, 1) := by decide +kernel
theorem dX7_pieceTold_223 : decode cX7_pieceTold 223 = .ok (.iload 4, 2) := by decide +kernel
theorem dX7_pieceTold_225 : decode cX7_pieceTold 225 = .ok (.iadd, 1) := by decide +kernel
theorem dX7_pieceTold_226 : decode cX7_pieceTold 226 = .ok (.iload_n 2, 1) := by decide +kernel
theorem dX7_pieceTold_227 : decode cX7_pieceTold 227 = .ok (.iload_n 3, 1) := by decide +kernel
theorem dX7_pieceTold_228 : decode cX7_pieceTold 228 = .ok (.invokestatic 130, 3) := by decide +kernel
theorem dX7_pieceTold_231 : decode cX7_pieceTold 231 = .ok (.iastore, 1) := by decide +kernel
theorem dX7_pieceTold_232 : decode cX7_pieceTold 232 = .ok (.return_, 1) := by decide +kernel
theorem dX7_noteTold_0 : decode cX7_noteTold 0 = .ok (.aload_n 0, 1) := by decide +kernel
theorem dX7_noteTold_1 : decode cX7_noteTold 1 = .ok (.invokevirtual 229, 3) := by decide +kernel
theorem dX7_noteTold_4 : decode cX7_noteTold 4 = .ok (.aload_n 0, 1) := by decide +kernel
theorem dX7_noteTold_5 : decode cX7_noteTold 5 = .ok (.invokevirtual 256, 3) := by decide +kernel
theorem dX7_noteTold_8 : decode cX7_noteTold 8 = .ok (.istore_n 1, 1) := by decide +kernel
theorem dX7_noteTold_9 : decode cX7_noteTold 9 = .ok (.aload_n 0, 1) := by decide +kernel
theorem dX7_noteTold_10 : decode cX7_noteTold 10 = .ok (.iload_n 1, 1) := by decide +kernel
theorem dX7_noteTold_11 : decode cX7_noteTold 11 = .ok (.iconst (-1), 1) := by decide +kernel
theorem dX7_noteTold_12 : decode cX7_noteTold 12 = .ok (.if_icmp .ne 17, 3) := by decide +kernel
theorem dX7_noteTold_15 : decode cX7_noteTold 15 = .ok (.aload_n 0, 1) := by decide +kernel
theorem dX7_noteTold_16 : decode cX7_noteTold 16 = .ok (.ldc_w 265, 3) := by decide +kernel
theorem dX7_noteTold_19 : decode cX7_noteTold 19 = .ok (.invokevirtual 237, 3) := by decide +kernel
theorem dX7_noteTold_22 : decode cX7_noteTold 22 = .ok (.ifCond .ne 7, 3) := by decide +kernel
theorem dX7_noteTold_25 : decode cX7_noteTold 25 = .ok (.iconst 1, 1) := by decide +kernel
theorem dX7_noteTold_26 : decode cX7_noteTold 26 = .ok (.goto 4, 3) := by decide +kernel
theorem dX7_noteTold_29 : decode cX7_noteTold 29 = .ok (.iconst 0, 1) := by decide +kernel
theorem dX7_noteTold_30 : decode cX7_noteTold 30 = .ok (.iconst 1, 1) := by decide +kernel
theorem dX7_noteTold_31 : decode cX7_noteTold 31 = .ok (.invokevirtual 222, 3) := by decide +kernel
theorem dX7_noteTold_34 : decode cX7_noteTold 34 = .ok (.aload_n 0, 1) := by decide +kernel
theorem dX7_noteTold_35 : decode cX7_noteTold 35 = .ok (.invokevirtual 229, 3) := by decide +kernel
theorem dX7_noteTold_38 : decode cX7_noteTold 38 = .ok (.iconst (-1), 1) := by decide +kernel
theorem dX7_noteTold_39 : decode cX7_noteTold 39 = .ok (.istore_n 2, 1) := by decide +kernel
theorem dX7_noteTold_40 : decode cX7_noteTold 40 = .ok (.iconst (-1), 1) := by decide +kernel
theorem dX7_noteTold_41 : decode cX7_noteTold 41 = .ok (.istore_n 3, 1) := by decide +kernel
theorem dX7_noteTold_42 : decode cX7_noteTold 42 = .ok (.iconst (-1), 1) := by decide +kernel
theorem dX7_noteTold_43 : decode cX7_noteTold 43 = .ok (.istore 4, 2) := by decide +kernel
theorem dX7_noteTold_45 : decode cX7_noteTold 45 = .ok (.aload_n 0, 1) := by decide +kernel
theorem dX7_noteTold_46 : decode cX7_noteTold 46 = .ok (.getfield 212, 3) := by decide +kernel
theorem dX7_noteTold_49 : decode cX7_noteTold 49 = .ok (.ifCond .ne 22, 3) := by decide +kernel
theorem dX7_noteTold_52 : decode cX7_noteTold 52 = .ok (.aload_n 0, 1) := by decide +kernel
theorem dX7_noteTold_53 : decode cX7_noteTold 53 = .ok (.ldc_w 267, 3) := by decide +kernel
theorem dX7_noteTold_56 : decode cX7_noteTold 56 = .ok (.invokevirtual 237, 3) := by decide +kernel
theorem dX7_noteTold_59 : decode cX7_noteTold 59 = .ok (.ifCond .eq 12, 3) := by decide +kernel
theorem dX7_noteTold_62 : decode cX7_noteTold 62 = .ok (.aload_n 0, 1) := by decide +kernel
theorem dX7_noteTold_63 : decode cX7_noteTold 63 = .ok (.invokevirtual 229, 3) := by decide +kernel
theorem dX7_noteTold_66 : decode cX7_noteTold 66 = .ok (.aload_n 0, 1) := by decide +kernel
theorem dX7_noteTold_67 : decode cX7_noteTold 67 = .ok (.invokevirtual 259, 3) := by decide +kernel
theorem dX7_noteTold_70 : decode cX7_noteTold 70 = .ok (.istore_n 2, 1) := by decide +kernel
theorem dX7_noteTold_71 : decode cX7_noteTold 71 = .ok (.aload_n 0, 1) := by decide +kernel
theorem dX7_noteTold_72 : decode cX7_noteTold 72 = .ok (.getfield 212, 3) := by decide +kernel
theorem dX7_noteTold_75 : decode cX7_noteTold 75 = .ok (.ifCond .ne 28, 3) := by decide +kernel
theorem dX7_noteTold_78 : decode cX7_noteTold 78 = .ok (.aload_n 0, 1) := by decide +kernel
theorem dX7_noteTold_79 : decode cX7_noteTold 79 = .ok (.ldc_w 268, 3) := by decide +kernel
theorem dX7_noteTold_82 : decode cX7_noteTold 82 = .ok (.invokevirtual 237, 3) := by decide +kernel
theorem dX7_noteTold_85 : decode cX7_noteTold 85 = .ok (.ifCond .eq 18, 3) := by decide +kernel
theorem dX7_noteTold_88 : decode cX7_noteTold 88 = .ok (.aload_n 0, 1) := by decide +kernel
theorem dX7_noteTold_89 : decode cX7_noteTold 89 = .ok (.invokevirtual 229, 3) := by decide +kernel
theorem dX7_noteTold_92 : decode cX7_noteTold 92 = .ok (.aload_n 0, 1) := by decide +kernel
theorem dX7_noteTold_93 : decode cX7_noteTold 93 = .ok (.invokevirtual 259, 3) := by decide +kernel
theorem dX7_noteTold_96 : decode cX7_noteTold 96 = .ok (.istore_n 3, 1) := by decide +kernel
theorem dX7_noteTold_97 : decode cX7_noteTold 97 = .ok (.aload_n 0, 1) := by decide +kernel
theorem dX7_noteTold_98 : decode cX7_noteTold 98 = .ok (.invokevirtual 269, 3) := by decide +kernel
theorem dX7_noteTold_101 : decode cX7_noteTold 101 = .ok (.istore 4, 2) := by decide +kernel
theorem dX7_noteTold_103 : decode cX7_noteTold 103 = .ok (.aload_n 0, 1) := by decide +kernel
theorem dX7_noteTold_104 : decode cX7_noteTold 104 = .ok (.getfield 212, 3) := by decide +kernel
theorem dX7_noteTold_107 : decode cX7_noteTold 107 = .ok (.ifCond .ne 17, 3) := by decide +kernel
theorem dX7_noteTold_110 : decode cX7_noteTold 110 = .ok (.aload_n 0, 1) := by decide +kernel
theorem dX7_noteTold_111 : decode cX7_noteTold 111 = .ok (.ldc_w 272, 3) := by decide +kernel
theorem dX7_noteTold_114 : decode cX7_noteTold 114 = .ok (.invokevirtual 237, 3) := by decide +kernel
theorem dX7_noteTold_117 : decode cX7_noteTold 117 = .ok (.ifCond .eq 7, 3) := by decide +kernel
theorem dX7_noteTold_120 : decode cX7_noteTold 120 = .ok (.iconst 1, 1) := by decide +kernel
theorem dX7_noteTold_121 : decode cX7_noteTold 121 = .ok (.goto 4, 3) := by decide +kernel
theorem dX7_noteTold_124 : decode cX7_noteTold 124 = .ok (.iconst 0, 1) := by decide +kernel
theorem dX7_noteTold_125 : decode cX7_noteTold 125 = .ok (.istore 5, 2) := by decide +kernel
theorem dX7_noteTold_127 : decode cX7_noteTold 127 = .ok (.iload 5, 2) := by decide +kernel
theorem dX7_noteTold_129 : decode cX7_noteTold 129 = .ok (.ifCond .eq 7, 3) := by decide +kernel
theorem dX7_noteTold_132 : decode cX7_noteTold 132 = .ok (.aload_n 0, 1) := by decide +kernel
theorem dX7_noteTold_133 : decode cX7_noteTold 133 = .ok (.invokevirtual 229, 3) := by decide +kernel
theorem dX7_noteTold_136 : decode cX7_noteTold 136 = .ok (.aload_n 0, 1) := by decide +kernel
theorem dX7_noteTold_137 : decode cX7_noteTold 137 = .ok (.getfield 212, 3) := by decide +kernel
theorem dX7_noteTold_140 : decode cX7_noteTold 140 = .ok (.ifCond .ne 17, 3) := by decide +kernel
theorem dX7_noteTold_143 : decode cX7_noteTold 143 = .ok (.aload_n 0, 1) := by decide +kernel
theorem dX7_noteTold_144 : decode cX7_noteTold 144 = .ok (.ldc_w 274, 3) := by decide +kernel
theorem dX7_noteTold_147 : decode cX7_noteTold 147 = .ok (.invokevirtual 237, 3) := by decide +kernel
theorem dX7_noteTold_150 : decode cX7_noteTold 150 = .ok (.ifCond .eq 7, 3) := by decide +kernel
theorem dX7_noteTold_153 : decode cX7_noteTold 153 = .ok (.iconst 1, 1) := by decide +kernel
theorem dX7_noteTold_154 : decode cX7_noteTold 154 = .ok (.goto 4, 3) := by decide +kernel
theorem dX7_noteTold_157 : decode cX7_noteTold 157 = .ok (.iconst 0, 1) := by decide +kernel
theorem dX7_noteTold_158 : decode cX7_noteTold 158 = .ok (.istore 6, 2) := by decide +kernel
theorem dX7_noteTold_160 : decode cX7_noteTold 160 = .ok (.iload 6, 2) := by decide +kernel
theorem dX7_noteTold_162 : decode cX7_noteTold 162 = .ok (.ifCond .eq 7, 3) := by decide +kernel
theorem dX7_noteTold_165 : decode cX7_noteTold 165 = .ok (.aload_n 0, 1) := by decide +kernel
theorem dX7_noteTold_166 : decode cX7_noteTold 166 = .ok (.invokevirtual 229, 3) := by decide +kernel
theorem dX7_noteTold_169 : decode cX7_noteTold 169 = .ok (.aload_n 0, 1) := by decide +kernel
theorem dX7_noteTold_170 : decode cX7_noteTold 170 = .ok (.aload_n 0, 1) := by decide +kernel
theorem dX7_noteTold_171 : decode cX7_noteTold 171 = .ok (.getfield 196, 3) := by decide +kernel
theorem dX7_noteTold_174 : decode cX7_noteTold 174 = .ok (.iconst 3, 1) := by decide +kernel
theorem dX7_noteTold_175 : decode cX7_noteTold 175 = .ok (.if_icmp .eq 7, 3) := by decide +kernel
theorem dX7_noteTold_178 : decode cX7_noteTold 178 = .ok (.iconst 1, 1) := by decide +kernel
theorem dX7_noteTold_179 : decode cX7_noteTold 179 = .ok (.goto 4, 3) := by decide +kernel
theorem dX7_noteTold_182 : decode cX7_noteTold 182 = .ok (.iconst 0, 1) := by decide +kernel
theorem dX7_noteTold_183 : decode cX7_noteTold 183 = .ok (.iconst 1, 1) := by decide +kernel
theorem dX7_noteTold_184 : decode cX7_noteTold 184 = .ok (.invokevirtual 222, 3) := by decide +kernel
theorem dX7_noteTold_187 : decode cX7_noteTold 187 = .ok (.aload_n 0, 1) := by decide +kernel
theorem dX7_noteTold_188 : decode cX7_noteTold 188 = .ok (.getfield 212, 3) := by decide +kernel
theorem dX7_noteTold_191 : decode cX7_noteTold 191 = .ok (.ifCond .eq 4, 3) := by decide +kernel
theorem dX7_noteTold_194 : decode cX7_noteTold 194 = .ok (.return_, 1) := by decide +kernel
theorem dX7_noteTold_195 : decode cX7_noteTold 195 = .ok (.aload_n 0, 1) := by decide +kernel
theorem dX7_noteTold_196 : decode cX7_noteTold 196 = .ok (.getfield 9, 3) := by decide +kernel
theorem dX7_noteTold_199 : decode cX7_noteTold 199 = .ok (.iconst 2, 1) := by decide +kernel
theorem dX7_noteTold_200 : decode cX7_noteTold 200 = .ok (.iaload, 1) := by decide +kernel
theorem dX7_noteTold_201 : decode cX7_noteTold 201 = .ok (.bipush 10, 2) := by decide +kernel
theorem dX7_noteTold_203 : decode cX7_noteTold 203 = .ok (.if_icmp .ne 7, 3) := by decide +kernel
theorem dX7_noteTold_206 : decode cX7_noteTold 206 = .ok (.iconst 1, 1) := by decide +kernel
theorem dX7_noteTold_207 : decode cX7_noteTold 207 = .ok (.goto 4, 3) := by decide +kernel
theorem dX7_noteTold_210 : decode cX7_noteTold 210 = .ok (.iconst 0, 1) := by decide +kernel
theorem dX7_noteTold_211 : decode cX7_noteTold 211 = .ok (.istore 7, 2) := by decide +kernel
theorem dX7_noteTold_213 : decode cX7_noteTold 213 = .ok (.iload 7, 2) := by decide +kernel
theorem dX7_noteTold_215 : decode cX7_noteTold 215 = .ok (.ifCond .ne 22, 3) := by decide +kernel
theorem dX7_noteTold_218 : decode cX7_noteTold 218 = .ok (.aload_n 0, 1) := by decide +kernel
theorem dX7_noteTold_219 : decode cX7_noteTold 219 = .ok (.aload_n 0, 1) := by decide +kernel
theorem dX7_noteTold_220 : decode cX7_noteTold 220 = .ok (.getfield 9, 3) := by decide +kernel
theorem dX7_noteTold_223 : decode cX7_noteTold 223 = .ok (.iconst 2, 1) := by decide +kernel
theorem dX7_noteTold_224 : decode cX7_noteTold 224 = .ok (.iaload, 1) := by decide +kernel
theorem dX7_noteTold_225 : decode cX7_noteTold 225 = .ok (.iload_n 1, 1) := by decide +kernel
theorem dX7_noteTold_226 : decode cX7_noteTold 226 = .ok (.iload_n 2, 1) := by decide +kernel
theorem dX7_noteTold_227 : decode cX7_noteTold 227 = .ok (.iload_n 3, 1) := by decide +kernel
theorem dX7_noteTold_228 : decode cX7_noteTold 228 = .ok (.iload 4, 2) := by decide +kernel
theorem dX7_noteTold_230 : decode cX7_noteTold 230 = .ok (.iload 5, 2) := by decide +kernel
theorem dX7_noteTold_232 : decode cX7_noteTold 232 = .ok (.iload 6, 2) := by decide +kernel
theorem dX7_noteTold_234 : decode cX7_noteTold 234 = .ok (.invokevirtual 276, 3) := by decide +kernel
theorem dX7_noteTold_237 : decode cX7_noteTold 237 = .ok (.aload_n 0, 1) := by decide +kernel
theorem dX7_noteTold_238 : decode cX7_noteTold 238 = .ok (.iload 7, 2) := by decide +kernel
theorem dX7_noteTold_240 : decode cX7_noteTold 240 = .ok (.ifCond .ne 10, 3) := by decide +kernel
theorem dX7_noteTold_243 : decode cX7_noteTold 243 = .ok (.aload_n 0, 1) := by decide +kernel
theorem dX7_noteTold_244 : decode cX7_noteTold 244 = .ok (.invokevirtual 280, 3) := by decide +kernel
theorem dX7_noteTold_247 : decode cX7_noteTold 247 = .ok (.ifCond .ne 7, 3) := by decide +kernel
theorem dX7_noteTold_250 : decode cX7_noteTold 250 = .ok (.iconst 1, 1) := by decide +kernel
theorem dX7_noteTold_251 : decode cX7_noteTold 251 = .ok (.goto 4, 3) := by decide +kernel
theorem dX7_noteTold_254 : decode cX7_noteTold 254 = .ok (.iconst 0, 1) := by decide +kernel
theorem dX7_noteTold_255 : decode cX7_noteTold 255 = .ok (.bipush 6, 2) := by decide +kernel
theorem dX7_noteTold_257 : decode cX7_noteTold 257 = .ok (.invokevirtual 222, 3) := by decide +kernel
theorem dX7_noteTold_260 : decode cX7_noteTold 260 = .ok (.aload_n 0, 1) := by decide +kernel
theorem dX7_noteTold_261 : decode cX7_noteTold 261 = .ok (.getfield 212, 3) := by decide +kernel
theorem dX7_noteTold_264 : decode cX7_noteTold 264 = .ok (.ifCond .ne 11, 3) := by decide +kernel
theorem dX7_noteTold_267 : decode cX7_noteTold 267 = .ok (.aload_n 0, 1) := by decide +kernel
theorem dX7_noteTold_268 : decode cX7_noteTold 268 = .ok (.aload_n 0, 1) := by decide +kernel
theorem dX7_noteTold_269 : decode cX7_noteTold 269 = .ok (.invokevirtual 283, 3) := by decide +kernel
theorem dX7_noteTold_272 : decode cX7_noteTold 272 = .ok (.putfield 286, 3) := by decide +kernel
theorem dX7_noteTold_275 : decode cX7_noteTold 275 = .ok (.return_, 1) := by decide +kernel
theorem dX7_originTold_0 : decode cX7_originTold 0 = .ok (.aload_n 0, 1) := by decide +kernel
theorem dX7_originTold_1 : decode cX7_originTold 1 = .ok (.invokevirtual 229, 3) := by decide +kernel
theorem dX7_originTold_4 : decode cX7_originTold 4 = .ok (.aload_n 0, 1) := by decide +kernel
theorem dX7_originTold_5 : decode cX7_originTold 5 = .ok (.iconst 0, 1) := by decide +kernel
theorem dX7_originTold_6 : decode cX7_originTold 6 = .ok (.aload_n 0, 1) := by decide +kernel
theorem dX7_originTold_7 : decode cX7_originTold 7 = .ok (.getfield 9, 3) := by decide +kernel
theorem dX7_originTold_10 : decode cX7_originTold 10 = .ok (.iconst 2, 1) := by decide +kernel
theorem dX7_originTold_11 : decode cX7_originTold 11 = .ok (.iaload, 1) := by decide +kernel
theorem dX7_originTold_12 : decode cX7_originTold 12 = .ok (.iconst 1, 1) := by decide +kernel
theorem dX7_originTold_13 : decode cX7_originTold 13 = .ok (.isub, 1) := by decide +kernel
theorem dX7_originTold_14 : decode cX7_originTold 14 = .ok (.invokevirtual 232, 3) := by decide +kernel
theorem dX7_originTold_17 : decode cX7_originTold 17 = .ok (.istore_n 1, 1) := by decide +kernel
theorem dX7_originTold_18 : decode cX7_originTold 18 = .ok (.aload_n 0, 1) := by decide +kernel
theorem dX7_originTold_19 : decode cX7_originTold 19 = .ok (.invokevirtual 259, 3) := by decide +kernel
theorem dX7_originTold_22 : decode cX7_originTold 22 = .ok (.istore_n 2, 1) := by decide +kernel
theorem dX7_originTold_23 : decode cX7_originTold 23 = .ok (.aload_n 0, 1) := by decide +kernel
theorem dX7_originTold_24 : decode cX7_originTold 24 = .ok (.invokevirtual 269, 3) := by decide +kernel
theorem dX7_originTold_27 : decode cX7_originTold 27 = .ok (.istore_n 3, 1) := by decide +kernel
theorem dX7_originTold_28 : decode cX7_originTold 28 = .ok (.aload_n 0, 1) := by decide +kernel
theorem dX7_originTold_29 : decode cX7_originTold 29 = .ok (.aload_n 0, 1) := by decide +kernel
theorem dX7_originTold_30 : decode cX7_originTold 30 = .ok (.getfield 196, 3) := by decide +kernel
theorem dX7_originTold_33 : decode cX7_originTold 33 = .ok (.iconst 3, 1) := by decide +kernel
theorem dX7_originTold_34 : decode cX7_originTold 34 = .ok (.if_icmp .eq 7, 3) := by decide +kernel
theorem dX7_originTold_37 : decode cX7_originTold 37 = .ok (.iconst 1, 1) := by decide +kernel
theorem dX7_originTold_38 : decode cX7_originTold 38 = .ok (.goto 4, 3) := by decide +kernel
theorem dX7_originTold_41 : decode cX7_originTold 41 = .ok (.iconst 0, 1) := by decide +kernel
theorem dX7_originTold_42 : decode cX7_originTold 42 = .ok (.iconst 1, 1) := by decide +kernel
theorem dX7_originTold_43 : decode cX7_originTold 43 = .ok (.invokevirtual 222, 3) := by decide +kernel
theorem dX7_originTold_46 : decode cX7_originTold 46 = .ok (.aload_n 0, 1) := by decide +kernel
theorem dX7_originTold_47 : decode cX7_originTold 47 = .ok (.getfield 212, 3) := by decide +kernel
theorem dX7_originTold_50 : decode cX7_originTold 50 = .ok (.ifCond .eq 4, 3) := by decide +kernel
theorem dX7_originTold_53 : decode cX7_originTold 53 = .ok (.return_, 1) := by decide +kernel
theorem dX7_originTold_54 : decode cX7_originTold 54 = .ok (.aload_n 0, 1) := by decide +kernel
theorem dX7_originTold_55 : decode cX7_originTold 55 = .ok (.iload_n 1, 1) := by decide +kernel
theorem dX7_originTold_56 : decode cX7_originTold 56 = .ok (.iload_n 2, 1) := by decide +kernel
theorem dX7_originTold_57 : decode cX7_originTold 57 = .ok (.iload_n 3, 1) := by decide +kernel
theorem dX7_originTold_58 : decode cX7_originTold 58 = .ok (.invokevirtual 289, 3) := by decide +kernel
theorem dX7_originTold_61 : decode cX7_originTold 61 = .ok (.ifCond .eq 27, 3) := by decide +kernel
theorem dX7_originTold_64 : decode cX7_originTold 64 = .ok (.aload_n 0, 1) := by decide +kernel
theorem dX7_originTold_65 : decode cX7_originTold 65 = .ok (.iload_n 1, 1) := by decide +kernel
theorem dX7_originTold_66 : decode cX7_originTold 66 = .ok (.iconst 1, 1) := by decide +kernel
theorem dX7_originTold_67 : decode cX7_originTold 67 = .ok (.invokevirtual 144, 3) := by decide +kernel
theorem dX7_originTold_70 : decode cX7_originTold 70 = .ok (.iload_n 2, 1) := by decide +kernel
theorem dX7_originTold_71 : decode cX7_originTold 71 = .ok (.if_icmp .ne 17, 3) := by decide +kernel
theorem dX7_originTold_74 : decode cX7_originTold 74 = .ok (.aload_n 0, 1) := by decide +kernel
theorem dX7_originTold_75 : decode cX7_originTold 75 = .ok (.iload_n 1, 1) := by decide +kernel
theorem dX7_originTold_76 : decode cX7_originTold 76 = .ok (.iconst 2, 1) := by decide +kernel
theorem dX7_originTold_77 : decode cX7_originTold 77 = .ok (.invokevirtual 144, 3) := by decide +kernel
theorem dX7_originTold_80 : decode cX7_originTold 80 = .ok (.iload_n 3, 1) := by decide +kernel
theorem dX7_originTold_81 : decode cX7_originTold 81 = .ok (.if_icmp .ne 7, 3) := by decide +kernel
theorem dX7_originTold_84 : decode cX7_originTold 84 = .ok (.iconst 1, 1) := by decide +kernel
theorem dX7_originTold_85 : decode cX7_originTold 85 = .ok (.goto 4, 3) := by decide +kernel
theorem dX7_originTold_88 : decode cX7_originTold 88 = .ok (.iconst 0, 1) := by decide +kernel
theorem dX7_originTold_89 : decode cX7_originTold 89 = .ok (.istore 4, 2) := by decide +kernel
theorem dX7_originTold_91 : decode cX7_originTold 91 = .ok (.aload_n 0, 1) := by decide +kernel
theorem dX7_originTold_92 : decode cX7_originTold 92 = .ok (.iload 4, 2) := by decide +kernel
theorem dX7_originTold_94 : decode cX7_originTold 94 = .ok (.ifCond .ne 7, 3) := by decide +kernel
theorem dX7_originTold_97 : decode cX7_originTold 97 = .ok (.iconst 1, 1) := by decide +kernel
theorem dX7_originTold_98 : decode cX7_originTold 98 = .ok (.goto 4, 3) := by decide +kernel
theorem dX7_originTold_101 : decode cX7_originTold 101 = .ok (.iconst 0, 1) := by decide +kernel
theorem dX7_originTold_102 : decode cX7_originTold 102 = .ok (.bipush 6, 2) := by decide +kernel
theorem dX7_originTold_104 : decode cX7_originTold 104 = .ok (.invokevirtual 222, 3) := by decide +kernel
theorem dX7_originTold_107 : decode cX7_originTold 107 = .ok (.return_, 1) := by decide +kernel
theorem dX7_command_0 : decode cX7_command 0 = .ok (.aload_n 0, 1) := by decide +kernel
theorem dX7_command_1 : decode cX7_command 1 = .ok (.ldc_w 292, 3) := by decide +kernel
theorem dX7_command_4 : decode cX7_command 4 = .ok (.invokevirtual 237, 3) := by decide +kernel
theorem dX7_command_7 : decode cX7_command 7 = .ok (.ifCond .eq 10, 3) := by decide +kernel
theorem dX7_command_10 : decode cX7_command 10 = .ok (.aload_n 0, 1) := by decide +kernel
theorem dX7_command_11 : decode cX7_command 11 = .ok (.invokevirtual 294, 3) := by decide +kernel
theorem dX7_command_14 : decode cX7_command 14 = .ok (.goto 104, 3) := by decide +kernel
theorem dX7_command_17 : decode cX7_command 17 = .ok (.aload_n 0, 1) := by decide +kernel
theorem dX7_command_18 : decode cX7_command 18 = .ok (.ldc_w 297, 3) := by decide +kernel
theorem dX7_command_21 : decode cX7_command 21 = .ok (.invokevirtual 237, 3) := by decide +kernel
theorem dX7_command_24 : decode cX7_command 24 = .ok (.ifCond .eq 10, 3) := by decide +kernel
theorem dX7_command_27 : decode cX7_command 27 = .ok (.aload_n 0, 1) := by decide +kernel
theorem dX7_command_28 : decode cX7_command 28 = .ok (.invokevirtual 299, 3) := by decide +kernel
theorem dX7_command_31 : decode cX7_command 31 = .ok (.goto 87, 3) := by decide +kernel
theorem dX7_command_34 : decode cX7_command 34 = .ok (.aload_n 0, 1) := by decide +kernel
theorem dX7_command_35 : decode cX7_command 35 = .ok (.aload_n 0, 1) := by decide +kernel
theorem dX7_command_36 : decode cX7_command 36 = .ok (.ldc_w 302, 3) := by decide +kernel
theorem dX7_command_39 : decode cX7_command 39 = .ok (.invokevirtual 237, 3) := by decide +kernel
theorem dX7_command_42 : decode cX7_command 42 = .ok (.ifCond .ne 7, 3) := by decide +kernel
theorem dX7_command_45 : decode cX7_command 45 = .ok (.iconst 1, 1) := by decide +kernel
theorem dX7_command_46 : decode cX7_command 46 = .ok (.goto 4, 3) := by decide +kernel
theorem dX7_command_49 : decode cX7_command 49 = .ok (.iconst 0, 1) := by decide +kernel
theorem dX7_command_50 : decode cX7_command 50 = .ok (.iconst 1, 1) := by decide +kernel
theorem dX7_command_51 : decode cX7_command 51 = .ok (.invokevirtual 222, 3) := by decide +kernel
theorem dX7_command_54 : decode cX7_command 54 = .ok (.aload_n 0, 1) := by decide +kernel
theorem dX7_command_55 : decode cX7_command 55 = .ok (.invokevirtual 229, 3) := by decide +kernel
theorem dX7_command_58 : decode cX7_command 58 = .ok (.aload_n 0, 1) := by decide +kernel
theorem dX7_command_59 : decode cX7_command 59 = .ok (.aload_n 0, 1) := by decide +kernel
theorem dX7_command_60 : decode cX7_command 60 = .ok (.getfield 196, 3) := by decide +kernel
theorem dX7_command_63 : decode cX7_command 63 = .ok (.iconst 3, 1) := by decide +kernel
theorem dX7_command_64 : decode cX7_command 64 = .ok (.if_icmp .eq 7, 3) := by decide +kernel
theorem dX7_command_67 : decode cX7_command 67 = .ok (.iconst 1, 1) := by decide +kernel
theorem dX7_command_68 : decode cX7_command 68 = .ok (.goto 4, 3) := by decide +kernel
theorem dX7_command_71 : decode cX7_command 71 = .ok (.iconst 0, 1) := by decide +kernel
theorem dX7_command_72 : decode cX7_command 72 = .ok (.iconst 1, 1) := by decide +kernel
theorem dX7_command_73 : decode cX7_command 73 = .ok (.invokevirtual 222, 3) := by decide +kernel
theorem dX7_command_76 : decode cX7_command 76 = .ok (.aload_n 0, 1) := by decide +kernel
theorem dX7_command_77 : decode cX7_command 77 = .ok (.aload_n 0, 1) := by decide +kernel
theorem dX7_command_78 : decode cX7_command 78 = .ok (.getfield 212, 3) := by decide +kernel
theorem dX7_command_81 : decode cX7_command 81 = .ok (.ifCond .ne 16, 3) := by decide +kernel
theorem dX7_command_84 : decode cX7_command 84 = .ok (.aload_n 0, 1) := by decide +kernel
theorem dX7_command_85 : decode cX7_command 85 = .ok (.getfield 9, 3) := by decide +kernel
theorem dX7_command_88 : decode cX7_command 88 = .ok (.iconst 2, 1) := by decide +kernel
theorem dX7_command_89 : decode cX7_command 89 = .ok (.iaload, 1) := by decide +kernel
theorem dX7_command_90 : decode cX7_command 90 = .ok (.ifCond .ne 7, 3) := by decide +kernel
theorem dX7_command_93 : decode cX7_command 93 = .ok (.iconst 1, 1) := by decide +kernel
theorem dX7_command_94 : decode cX7_command 94 = .ok (.goto 4, 3) := by decide +kernel
theorem dX7_command_97 : decode cX7_command 97 = .ok (.iconst 0, 1) := by decide +kernel
theorem dX7_command_98 : decode cX7_command 98 = .ok (.bipush 6, 2) := by decide +kernel
theorem dX7_command_100 : decode cX7_command 100 = .ok (.invokevirtual 222, 3) := by decide +kernel
theorem dX7_command_103 : decode cX7_command 103 = .ok (.aload_n 0, 1) := by decide +kernel
theorem dX7_command_104 : decode cX7_command 104 = .ok (.getfield 212, 3) := by decide +kernel
theorem dX7_command_107 : decode cX7_command 107 = .ok (.ifCond .ne 11, 3) := by decide +kernel
theorem dX7_command_110 : decode cX7_command 110 = .ok (.aload_n 0, 1) := by decide +kernel
theorem dX7_command_111 : decode cX7_command 111 = .ok (.aload_n 0, 1) := by decide +kernel
theorem dX7_command_112 : decode cX7_command 112 = .ok (.invokevirtual 304, 3) := by decide +kernel
theorem dX7_command_115 : decode cX7_command 115 = .ok (.putfield 286, 3) := by decide +kernel
theorem dX7_command_118 : decode cX7_command 118 = .ok (.aload_n 0, 1) := by decide +kernel
theorem dX7_command_119 : decode cX7_command 119 = .ok (.invokevirtual 229, 3) := by decide +kernel
theorem dX7_command_122 : decode cX7_command 122 = .ok (.return_, 1) := by decide +kernel
theorem dX7_starts_0 : decode cX7_starts 0 = .ok (.aload_n 0, 1) := by decide +kernel
theorem dX7_starts_1 : decode cX7_starts 1 = .ok (.iconst 0, 1) := by decide +kernel
theorem dX7_starts_2 : decode cX7_starts 2 = .ok (.putfield 86, 3) := by decide +kernel
theorem dX7_starts_5 : decode cX7_starts 5 = .ok (.aload_n 0, 1) := by decide +kernel
theorem dX7_starts_6 : decode cX7_starts 6 = .ok (.iconst 0, 1) := by decide +kernel
theorem dX7_starts_7 : decode cX7_starts 7 = .ok (.putfield 190, 3) := by decide +kernel
theorem dX7_starts_10 : decode cX7_starts 10 = .ok (.aload_n 0, 1) := by decide +kernel
theorem dX7_starts_11 : decode cX7_starts 11 = .ok (.iconst 0, 1) := by decide +kernel
theorem dX7_starts_12 : decode cX7_starts 12 = .ok (.putfield 212, 3) := by decide +kernel
theorem dX7_starts_15 : decode cX7_starts 15 = .ok (.aload_n 0, 1) := by decide +kernel
theorem dX7_starts_16 : decode cX7_starts 16 = .ok (.iconst 0, 1) := by decide +kernel
theorem dX7_starts_17 : decode cX7_starts 17 = .ok (.putfield 216, 3) := by decide +kernel
theorem dX7_starts_20 : decode cX7_starts 20 = .ok (.aload_n 0, 1) := by decide +kernel
theorem dX7_starts_21 : decode cX7_starts 21 = .ok (.iconst (-1), 1) := by decide +kernel
theorem dX7_starts_22 : decode cX7_starts 22 = .ok (.putfield 32, 3) := by decide +kernel
theorem dX7_starts_25 : decode cX7_starts 25 = .ok (.aload_n 0, 1) := by decide +kernel
theorem dX7_starts_26 : decode cX7_starts 26 = .ok (.getfield 9, 3) := by decide +kernel
theorem dX7_starts_29 : decode cX7_starts 29 = .ok (.iconst 0, 1) := by decide +kernel
theorem dX7_starts_30 : decode cX7_starts 30 = .ok (.aload_n 0, 1) := by decide +kernel
theorem dX7_starts_31 : decode cX7_starts 31 = .ok (.getfield 19, 3) := by decide +kernel
theorem dX7_starts_34 : decode cX7_starts 34 = .ok (.iconst 0, 1) := by decide +kernel
theorem dX7_starts_35 : decode cX7_starts 35 = .ok (.invokestatic 95, 3) := by decide +kernel
theorem dX7_starts_38 : decode cX7_starts 38 = .ok (.aload_n 0, 1) := by decide +kernel
theorem dX7_starts_39 : decode cX7_starts 39 = .ok (.invokevirtual 219, 3) := by decide +kernel
theorem dX7_starts_42 : decode cX7_starts 42 = .ok (.return_, 1) := by decide +kernel
theorem dX7_commands_0 : decode cX7_commands 0 = .ok (.iconst 0, 1) := by decide +kernel
theorem dX7_commands_1 : decode cX7_commands 1 = .ok (.istore_n 1, 1) := by decide +kernel
theorem dX7_commands_2 : decode cX7_commands 2 = .ok (.aload_n 0, 1) := by decide +kernel
theorem dX7_commands_3 : decode cX7_commands 3 = .ok (.getfield 212, 3) := by decide +kernel
theorem dX7_commands_6 : decode cX7_commands 6 = .ok (.ifCond .ne 20, 3) := by decide +kernel
theorem dX7_commands_9 : decode cX7_commands 9 = .ok (.aload_n 0, 1) := by decide +kernel
theorem dX7_commands_10 : decode cX7_commands 10 = .ok (.getfield 196, 3) := by decide +kernel
theorem dX7_commands_13 : decode cX7_commands 13 = .ok (.ifCond .eq 13, 3) := by decide +kernel
theorem dX7_commands_16 : decode cX7_commands 16 = .ok (.aload_n 0, 1) := by decide +kernel
theorem dX7_commands_17 : decode cX7_commands 17 = .ok (.invokevirtual 307, 3) := by decide +kernel
theorem dX7_commands_20 : decode cX7_commands 20 = .ok (.iinc 1 1, 3) := by decide +kernel
theorem dX7_commands_23 : decode cX7_commands 23 = .ok (.goto (-21), 3) := by decide +kernel
theorem dX7_commands_26 : decode cX7_commands 26 = .ok (.aload_n 0, 1) := by decide +kernel
theorem dX7_commands_27 : decode cX7_commands 27 = .ok (.iconst 0, 1) := by decide +kernel
theorem dX7_commands_28 : decode cX7_commands 28 = .ok (.putfield 73, 3) := by decide +kernel
theorem dX7_commands_31 : decode cX7_commands 31 = .ok (.aload_n 0, 1) := by decide +kernel
theorem dX7_commands_32 : decode cX7_commands 32 = .ok (.getfield 212, 3) := by decide +kernel
theorem dX7_commands_35 : decode cX7_commands 35 = .ok (.ifCond .eq 24, 3) := by decide +kernel
theorem dX7_commands_38 : decode cX7_commands 38 = .ok (.aload_n 0, 1) := by decide +kernel
theorem dX7_commands_39 : decode cX7_commands 39 = .ok (.getfield 19, 3) := by decide +kernel
theorem dX7_commands_42 : decode cX7_commands 42 = .ok (.iconst 0, 1) := by decide +kernel
theorem dX7_commands_43 : decode cX7_commands 43 = .ok (.aload_n 0, 1) := by decide +kernel
theorem dX7_commands_44 : decode cX7_commands 44 = .ok (.getfield 9, 3) := by decide +kernel
theorem dX7_commands_47 : decode cX7_commands 47 = .ok (.iconst 0, 1) := by decide +kernel
theorem dX7_commands_48 : decode cX7_commands 48 = .ok (.invokestatic 95, 3) := by decide +kernel
theorem dX7_commands_51 : decode cX7_commands 51 = .ok (.aload_n 0, 1) := by decide +kernel
theorem dX7_commands_52 : decode cX7_commands 52 = .ok (.invokevirtual 174, 3) := by decide +kernel
theorem dX7_commands_55 : decode cX7_commands 55 = .ok (.istore_n 2, 1) := by decide +kernel
theorem dX7_commands_56 : decode cX7_commands 56 = .ok (.goto 11, 3) := by decide +kernel
theorem dX7_commands_59 : decode cX7_commands 59 = .ok (.aload_n 0, 1) := by decide +kernel
theorem dX7_commands_60 : decode cX7_commands 60 = .ok (.aload_n 0, 1) := by decide +kernel
theorem dX7_commands_61 : decode cX7_commands 61 = .ok (.getfield 19, 3) := by decide +kernel
theorem dX7_commands_64 : decode cX7_commands 64 = .ok (.invokevirtual 310, 3) := by decide +kernel
theorem dX7_commands_67 : decode cX7_commands 67 = .ok (.aload_n 0, 1) := by decide +kernel
theorem dX7_commands_68 : decode cX7_commands 68 = .ok (.getfield 212, 3) := by decide +kernel
theorem dX7_commands_71 : decode cX7_commands 71 = .ok (.ifCond .eq 7, 3) := by decide +kernel
theorem dX7_commands_74 : decode cX7_commands 74 = .ok (.iconst (-1), 1) := by decide +kernel
theorem dX7_commands_75 : decode cX7_commands 75 = .ok (.goto 4, 3) := by decide +kernel
theorem dX7_commands_78 : decode cX7_commands 78 = .ok (.iload_n 1, 1) := by decide +kernel
theorem dX7_commands_79 : decode cX7_commands 79 = .ok (.ireturn, 1) := by decide +kernel
theorem dX7_lacksKing_0 : decode cX7_lacksKing 0 = .ok (.aload_n 0, 1) := by decide +kernel
theorem dX7_lacksKing_1 : decode cX7_lacksKing 1 = .ok (.aload_n 0, 1) := by decide +kernel
theorem dX7_lacksKing_2 : decode cX7_lacksKing 2 = .ok (.getfield 9, 3) := by decide +kernel
theorem dX7_lacksKing_5 : decode cX7_lacksKing 5 = .ok (.iconst 3, 1) := by decide +kernel
theorem dX7_lacksKing_6 : decode cX7_lacksKing 6 = .ok (.iconst 0, 1) := by decide +kernel
theorem dX7_lacksKing_7 : decode cX7_lacksKing 7 = .ok (.invokevirtual 137, 3) := by decide +kernel
theorem dX7_lacksKing_10 : decode cX7_lacksKing 10 = .ok (.iconst (-1), 1) := by decide +kernel
theorem dX7_lacksKing_11 : decode cX7_lacksKing 11 = .ok (.if_icmp .eq 17, 3) := by decide +kernel
theorem dX7_lacksKing_14 : decode cX7_lacksKing 14 = .ok (.aload_n 0, 1) := by decide +kernel
theorem dX7_lacksKing_15 : decode cX7_lacksKing 15 = .ok (.aload_n 0, 1) := by decide +kernel
theorem dX7_lacksKing_16 : decode cX7_lacksKing 16 = .ok (.getfield 9, 3) := by decide +kernel
theorem dX7_lacksKing_19 : decode cX7_lacksKing 19 = .ok (.iconst 3, 1) := by decide +kernel
theorem dX7_lacksKing_20 : decode cX7_lacksKing 20 = .ok (.iconst 1, 1) := by decide +kernel
theorem dX7_lacksKing_21 : decode cX7_lacksKing 21 = .ok (.invokevirtual 137, 3) := by decide +kernel
theorem dX7_lacksKing_24 : decode cX7_lacksKing 24 = .ok (.iconst (-1), 1) := by decide +kernel
theorem dX7_lacksKing_25 : decode cX7_lacksKing 25 = .ok (.if_icmp .ne 7, 3) := by decide +kernel
theorem dX7_lacksKing_28 : decode cX7_lacksKing 28 = .ok (.iconst 1, 1) := by decide +kernel
theorem dX7_lacksKing_29 : decode cX7_lacksKing 29 = .ok (.goto 4, 3) := by decide +kernel
theorem dX7_lacksKing_32 : decode cX7_lacksKing 32 = .ok (.iconst 0, 1) := by decide +kernel
theorem dX7_lacksKing_33 : decode cX7_lacksKing 33 = .ok (.ireturn, 1) := by decide +kernel
theorem dX7_load_0 : decode cX7_load 0 = .ok (.aload_n 0, 1) := by decide +kernel
theorem dX7_load_1 : decode cX7_load 1 = .ok (.invokevirtual 314, 3) := by decide +kernel
theorem dX7_load_4 : decode cX7_load 4 = .ok (.iconst 0, 1) := by decide +kernel
theorem dX7_load_5 : decode cX7_load 5 = .ok (.istore_n 1, 1) := by decide +kernel
theorem dX7_load_6 : decode cX7_load 6 = .ok (.iload_n 1, 1) := by decide +kernel
theorem dX7_load_7 : decode cX7_load 7 = .ok (.bipush 109, 2) := by decide +kernel
theorem dX7_load_9 : decode cX7_load 9 = .ok (.if_icmp .ge 16, 3) := by decide +kernel
theorem dX7_load_12 : decode cX7_load 12 = .ok (.aload_n 0, 1) := by decide +kernel
theorem dX7_load_13 : decode cX7_load 13 = .ok (.getfield 9, 3) := by decide +kernel
theorem dX7_load_16 : decode cX7_load 16 = .ok (.iload_n 1, 1) := by decide +kernel
theorem dX7_load_17 : decode cX7_load 17 = .ok (.iconst 0, 1) := by decide +kernel
theorem dX7_load_18 : decode cX7_load 18 = .ok (.iastore, 1) := by decide +kernel
theorem dX7_load_19 : decode cX7_load 19 = .ok (.iinc 1 1, 3) := by decide +kernel
theorem dX7_load_22 : decode cX7_load 22 = .ok (.goto (-16), 3) := by decide +kernel
theorem dX7_load_25 : decode cX7_load 25 = .ok (.aload_n 0, 1) := by decide +kernel
theorem dX7_load_26 : decode cX7_load 26 = .ok (.aload_n 0, 1) := by decide +kernel
theorem dX7_load_27 : decode cX7_load 27 = .ok (.ldc_w 317, 3) := by decide +kernel
theorem dX7_load_30 : decode cX7_load 30 = .ok (.invokevirtual 237, 3) := by decide +kernel
theorem dX7_load_33 : decode cX7_load 33 = .ok (.ifCond .ne 7, 3) := by decide +kernel
theorem dX7_load_36 : decode cX7_load 36 = .ok (.iconst 1, 1) := by decide +kernel
theorem dX7_load_37 : decode cX7_load 37 = .ok (.goto 4, 3) := by decide +kernel
theorem dX7_load_40 : decode cX7_load 40 = .ok (.iconst 0, 1) := by decide +kernel
theorem dX7_load_41 : decode cX7_load 41 = .ok (.iconst 1, 1) := by decide +kernel
theorem dX7_load_42 : decode cX7_load 42 = .ok (.invokevirtual 222, 3) := by decide +kernel
theorem dX7_load_45 : decode cX7_load 45 = .ok (.aload_n 0, 1) := by decide +kernel
theorem dX7_load_46 : decode cX7_load 46 = .ok (.invokevirtual 229, 3) := by decide +kernel
theorem dX7_load_49 : decode cX7_load 49 = .ok (.aload_n 0, 1) := by decide +kernel
theorem dX7_load_50 : decode cX7_load 50 = .ok (.getfield 9, 3) := by decide +kernel
theorem dX7_load_53 : decode cX7_load 53 = .ok (.iconst 0, 1) := by decide +kernel
theorem dX7_load_54 : decode cX7_load 54 = .ok (.aload_n 0, 1) := by decide +kernel
theorem dX7_load_55 : decode cX7_load 55 = .ok (.iconst 3, 1) := by decide +kernel
theorem dX7_load_56 : decode cX7_load 56 = .ok (.bipush 6, 2) := by decide +kernel
theorem dX7_load_58 : decode cX7_load 58 = .ok (.invokevirtual 232, 3) := by decide +kernel
theorem dX7_load_61 : decode cX7_load 61 = .ok (.iastore, 1) := by decide +kernel
theorem dX7_load_62 : decode cX7_load 62 = .ok (.aload_n 0, 1) := by decide +kernel
theorem dX7_load_63 : decode cX7_load 63 = .ok (.getfield 9, 3) := by decide +kernel
theorem dX7_load_66 : decode cX7_load 66 = .ok (.iconst 1, 1) := by decide +kernel
theorem dX7_load_67 : decode cX7_load 67 = .ok (.aload_n 0, 1) := by decide +kernel
theorem dX7_load_68 : decode cX7_load 68 = .ok (.iconst 3, 1) := by decide +kernel
theorem dX7_load_69 : decode cX7_load 69 = .ok (.bipush 6, 2) := by decide +kernel
theorem dX7_load_71 : decode cX7_load 71 = .ok (.invokevirtual 232, 3) := by decide +kernel
theorem dX7_load_74 : decode cX7_load 74 = .ok (.iastore, 1) := by decide +kernel
theorem dX7_load_75 : decode cX7_load 75 = .ok (.aload_n 0, 1) := by decide +kernel
theorem dX7_load_76 : decode cX7_load 76 = .ok (.invokevirtual 262, 3) := by decide +kernel
theorem dX7_load_79 : decode cX7_load 79 = .ok (.aload_n 0, 1) := by decide +kernel
theorem dX7_load_80 : decode cX7_load 80 = .ok (.getfield 212, 3) := by decide +kernel
theorem dX7_load_83 : decode cX7_load 83 = .ok (.ifCond .ne 7, 3) := by decide +kernel
theorem dX7_load_86 : decode cX7_load 86 = .ok (.aload_n 0, 1) := by decide +kernel
theorem dX7_load_87 : decode cX7_load 87 = .ok (.invokevirtual 318, 3) := by decide +kernel
theorem dX7_load_90 : decode cX7_load 90 = .ok (.aload_n 0, 1) := by decide +kernel
theorem dX7_load_91 : decode cX7_load 91 = .ok (.getfield 212, 3) := by decide +kernel
theorem dX7_load_94 : decode cX7_load 94 = .ok (.ifCond .ne 7, 3) := by decide +kernel
theorem dX7_load_97 : decode cX7_load 97 = .ok (.aload_n 0, 1) := by decide +kernel
theorem dX7_load_98 : decode cX7_load 98 = .ok (.invokevirtual 318, 3) := by decide +kernel
theorem dX7_load_101 : decode cX7_load 101 = .ok (.aload_n 0, 1) := by decide +kernel
theorem dX7_load_102 : decode cX7_load 102 = .ok (.getfield 212, 3) := by decide +kernel
theorem dX7_load_105 : decode cX7_load 105 = .ok (.ifCond .ne 28, 3) := by decide +kernel
theorem dX7_load_108 : decode cX7_load 108 = .ok (.aload_n 0, 1) := by decide +kernel
theorem dX7_load_109 : decode cX7_load 109 = .ok (.ldc 249, 2) := by decide +kernel
theorem dX7_load_111 : decode cX7_load 111 = .ok (.invokevirtual 237, 3) := by decide +kernel
theorem dX7_load_114 : decode cX7_load 114 = .ok (.ifCond .ne 12, 3) := by decide +kernel
theorem dX7_load_117 : decode cX7_load 117 = .ok (.aload_n 0, 1) := by decide +kernel
theorem dX7_load_118 : decode cX7_load 118 = .ok (.ldc 251, 2) := by decide +kernel
theorem dX7_load_120 : decode cX7_load 120 = .ok (.invokevirtual 237, 3) := by decide +kernel
theorem dX7_load_123 : decode cX7_load 123 = .ok (.ifCond .eq 10, 3) := by decide +kernel
theorem dX7_load_126 : decode cX7_load 126 = .ok (.aload_n 0, 1) := by decide +kernel
theorem dX7_load_127 : decode cX7_load 127 = .ok (.invokevirtual 318, 3) := by decide +kernel
theorem dX7_load_130 : decode cX7_load 130 = .ok (.goto (-29), 3) := by decide +kernel
theorem dX7_load_133 : decode cX7_load 133 = .ok (.aload_n 0, 1) := by decide +kernel
theorem dX7_load_134 : decode cX7_load 134 = .ok (.getfield 196, 3) := by decide +kernel
theorem dX7_load_137 : decode cX7_load 137 = .ok (.ifCond .eq 33, 3) := by decide +kernel
theorem dX7_load_140 : decode cX7_load 140 = .ok (.aload_n 0, 1) := by decide +kernel
theorem dX7_load_141 : decode cX7_load 141 = .ok (.ldc_w 292, 3) := by decide +kernel
theorem dX7_load_144 : decode cX7_load 144 = .ok (.invokevirtual 237, 3) := by decide +kernel
theorem dX7_load_147 : decode cX7_load 147 = .ok (.ifCond .ne 23, 3) := by decide +kernel
theorem dX7_load_150 : decode cX7_load 150 = .ok (.aload_n 0, 1) := by decide +kernel
theorem dX7_load_151 : decode cX7_load 151 = .ok (.ldc_w 297, 3) := by decide +kernel
theorem dX7_load_154 : decode cX7_load 154 = .ok (.invokevirtual 237, 3) := by decide +kernel
theorem dX7_load_157 : decode cX7_load 157 = .ok (.ifCond .ne 13, 3) := by decide +kernel
theorem dX7_load_160 : decode cX7_load 160 = .ok (.aload_n 0, 1) := by decide +kernel
theorem dX7_load_161 : decode cX7_load 161 = .ok (.ldc_w 302, 3) := by decide +kernel
theorem dX7_load_164 : decode cX7_load 164 = .ok (.invokevirtual 237, 3) := by decide +kernel
theorem dX7_load_167 : decode cX7_load 167 = .ok (.ifCond .eq 7, 3) := by decide +kernel
theorem dX7_load_170 : decode cX7_load 170 = .ok (.iconst 1, 1) := by decide +kernel
theorem dX7_load_171 : decode cX7_load 171 = .ok (.goto 4, 3) := by decide +kernel
theorem dX7_load_174 : decode cX7_load 174 = .ok (.iconst 0, 1) := by decide +kernel
theorem dX7_load_175 : decode cX7_load 175 = .ok (.istore_n 1, 1) := by decide +kernel
theorem dX7_load_176 : decode cX7_load 176 = .ok (.aload_n 0, 1) := by decide +kernel
theorem dX7_load_177 : decode cX7_load 177 = .ok (.aload_n 0, 1) := by decide +kernel
theorem dX7_load_178 : decode cX7_load 178 = .ok (.getfield 212, 3) := by decide +kernel
theorem dX7_load_181 : decode cX7_load 181 = .ok (.ifCond .ne 11, 3) := by decide +kernel
theorem dX7_load_184 : decode cX7_load 184 = .ok (.iload_n 1, 1) := by decide +kernel
theorem dX7_load_185 : decode cX7_load 185 = .ok (.ifCond .ne 7, 3) := by decide +kernel
theorem dX7_load_188 : decode cX7_load 188 = .ok (.iconst 1, 1) := by decide +kernel
theorem dX7_load_189 : decode cX7_load 189 = .ok (.goto 4, 3) := by decide +kernel
theorem dX7_load_192 : decode cX7_load 192 = .ok (.iconst 0, 1) := by decide +kernel
theorem dX7_load_193 : decode cX7_load 193 = .ok (.iconst 1, 1) := by decide +kernel
theorem dX7_load_194 : decode cX7_load 194 = .ok (.invokevirtual 222, 3) := by decide +kernel
theorem dX7_load_197 : decode cX7_load 197 = .ok (.aload_n 0, 1) := by decide +kernel
theorem dX7_load_198 : decode cX7_load 198 = .ok (.aload_n 0, 1) := by decide +kernel
theorem dX7_load_199 : decode cX7_load 199 = .ok (.getfield 212, 3) := by decide +kernel
theorem dX7_load_202 : decode cX7_load 202 = .ok (.ifCond .ne 14, 3) := by decide +kernel
theorem dX7_load_205 : decode cX7_load 205 = .ok (.aload_n 0, 1) := by decide +kernel
theorem dX7_load_206 : decode cX7_load 206 = .ok (.invokevirtual 321, 3) := by decide +kernel
theorem dX7_load_209 : decode cX7_load 209 = .ok (.ifCond .eq 7, 3) := by decide +kernel
theorem dX7_load_212 : decode cX7_load 212 = .ok (.iconst 1, 1) := by decide +kernel
theorem dX7_load_213 : decode cX7_load 213 = .ok (.goto 4, 3) := by decide +kernel
theorem dX7_load_216 : decode cX7_load 216 = .ok (.iconst 0, 1) := by decide +kernel
theorem dX7_load_217 : decode cX7_load 217 = .ok (.iconst 5, 1) := by decide +kernel
theorem dX7_load_218 : decode cX7_load 218 = .ok (.invokevirtual 222, 3) := by decide +kernel
theorem dX7_load_221 : decode cX7_load 221 = .ok (.aload_n 0, 1) := by decide +kernel
theorem dX7_load_222 : decode cX7_load 222 = .ok (.getfield 212, 3) := by decide +kernel
theorem dX7_load_225 : decode cX7_load 225 = .ok (.ifCond .ne 19, 3) := by decide +kernel
theorem dX7_load_228 : decode cX7_load 228 = .ok (.aload_n 0, 1) := by decide +kernel
theorem dX7_load_229 : decode cX7_load 229 = .ok (.aload_n 0, 1) := by decide +kernel
theorem dX7_load_230 : decode cX7_load 230 = .ok (.invokevirtual 174, 3) := by decide +kernel
theorem dX7_load_233 : decode cX7_load 233 = .ok (.ifCond .ne 7, 3) := by decide +kernel
theorem dX7_load_236 : decode cX7_load 236 = .ok (.iconst 1, 1) := by decide +kernel
theorem dX7_load_237 : decode cX7_load 237 = .ok (.goto 4, 3) := by decide +kernel
theorem dX7_load_240 : decode cX7_load 240 = .ok (.iconst 0, 1) := by decide +kernel
theorem dX7_load_241 : decode cX7_load 241 = .ok (.putfield 212, 3) := by decide +kernel
theorem dX7_load_244 : decode cX7_load 244 = .ok (.aload_n 0, 1) := by decide +kernel
theorem dX7_load_245 : decode cX7_load 245 = .ok (.invokevirtual 324, 3) := by decide +kernel
theorem dX7_load_248 : decode cX7_load 248 = .ok (.iconst (-1), 1) := by decide +kernel
theorem dX7_load_249 : decode cX7_load 249 = .ok (.if_icmp .ne 7, 3) := by decide +kernel
theorem dX7_load_252 : decode cX7_load 252 = .ok (.iconst (-1), 1) := by decide +kernel
theorem dX7_load_253 : decode cX7_load 253 = .ok (.goto 7, 3) := by decide +kernel
theorem dX7_load_256 : decode cX7_load 256 = .ok (.aload_n 0, 1) := by decide +kernel
theorem dX7_load_257 : decode cX7_load 257 = .ok (.invokevirtual 253, 3) := by decide +kernel
theorem dX7_load_260 : decode cX7_load 260 = .ok (.ireturn, 1) := by decide +kernel
theorem dX7_play_0 : decode cX7_play 0 = .ok (.aload_n 0, 1) := by decide +kernel
theorem dX7_play_1 : decode cX7_play 1 = .ok (.invokevirtual 314, 3) := by decide +kernel
theorem dX7_play_4 : decode cX7_play 4 = .ok (.aload_n 0, 1) := by decide +kernel
theorem dX7_play_5 : decode cX7_play 5 = .ok (.invokevirtual 324, 3) := by decide +kernel
theorem dX7_play_8 : decode cX7_play 8 = .ok (.ireturn, 1) := by decide +kernel
theorem dX7_errorCode_0 : decode cX7_errorCode 0 = .ok (.aload_n 0, 1) := by decide +kernel
theorem dX7_errorCode_1 : decode cX7_errorCode 1 = .ok (.aload_n 0, 1) := by decide +kernel
theorem dX7_errorCode_2 : decode cX7_errorCode 2 = .ok (.getfield 216, 3) := by decide +kernel
theorem dX7_errorCode_5 : decode cX7_errorCode 5 = .ok (.invokevirtual 327, 3) := by decide +kernel
theorem dX7_errorCode_8 : decode cX7_errorCode 8 = .ok (.ireturn, 1) := by decide +kernel
theorem dX7_errorOffset_0 : decode cX7_errorOffset 0 = .ok (.aload_n 0, 1) := by decide +kernel
theorem dX7_errorOffset_1 : decode cX7_errorOffset 1 = .ok (.aload_n 0, 1) := by decide +kernel
theorem dX7_errorOffset_2 : decode cX7_errorOffset 2 = .ok (.getfield 32, 3) := by decide +kernel
theorem dX7_errorOffset_5 : decode cX7_errorOffset 5 = .ok (.invokevirtual 327, 3) := by decide +kernel
theorem dX7_errorOffset_8 : decode cX7_errorOffset 8 = .ok (.ireturn, 1) := by decide +kernel
theorem dX7_isStated_0 : decode cX7_isStated 0 = .ok (.iload_n 0, 1) := by decide +kernel
theorem dX7_isStated_1 : decode cX7_isStated 1 = .ok (.iconst (-1), 1) := by decide +kernel
theorem dX7_isStated_2 : decode cX7_isStated 2 = .ok (.iload_n 1, 1) := by decide +kernel
theorem dX7_isStated_3 : decode cX7_isStated 3 = .ok (.invokestatic 182, 3) := by decide +kernel
theorem dX7_isStated_6 : decode cX7_isStated 6 = .ok (.ireturn, 1) := by decide +kernel
theorem dX7_isBadNote_0 : decode cX7_isBadNote 0 = .ok (.iload_n 1, 1) := by decide +kernel
theorem dX7_isBadNote_1 : decode cX7_isBadNote 1 = .ok (.iconst 4, 1) := by decide +kernel
theorem dX7_isBadNote_2 : decode cX7_isBadNote 2 = .ok (.invokestatic 330, 3) := by decide +kernel
theorem dX7_isBadNote_5 : decode cX7_isBadNote 5 = .ok (.ifCond .eq 49, 3) := by decide +kernel
theorem dX7_isBadNote_8 : decode cX7_isBadNote 8 = .ok (.iload_n 2, 1) := by decide +kernel
theorem dX7_isBadNote_9 : decode cX7_isBadNote 9 = .ok (.aload_n 0, 1) := by decide +kernel
theorem dX7_isBadNote_10 : decode cX7_isBadNote 10 = .ok (.getfield 9, 3) := by decide +kernel
theorem dX7_isBadNote_13 : decode cX7_isBadNote 13 = .ok (.iconst 0, 1) := by decide +kernel
theorem dX7_isBadNote_14 : decode cX7_isBadNote 14 = .ok (.iaload, 1) := by decide +kernel
theorem dX7_isBadNote_15 : decode cX7_isBadNote 15 = .ok (.iconst 1, 1) := by decide +kernel
theorem dX7_isBadNote_16 : decode cX7_isBadNote 16 = .ok (.isub, 1) := by decide +kernel
theorem dX7_isBadNote_17 : decode cX7_isBadNote 17 = .ok (.invokestatic 330, 3) := by decide +kernel
theorem dX7_isBadNote_20 : decode cX7_isBadNote 20 = .ok (.ifCond .eq 34, 3) := by decide +kernel
theorem dX7_isBadNote_23 : decode cX7_isBadNote 23 = .ok (.iload_n 3, 1) := by decide +kernel
theorem dX7_isBadNote_24 : decode cX7_isBadNote 24 = .ok (.aload_n 0, 1) := by decide +kernel
theorem dX7_isBadNote_25 : decode cX7_isBadNote 25 = .ok (.getfield 9, 3) := by decide +kernel
theorem dX7_isBadNote_28 : decode cX7_isBadNote 28 = .ok (.iconst 0, 1) := by decide +kernel
theorem dX7_isBadNote_29 : decode cX7_isBadNote 29 = .ok (.iaload, 1) := by decide +kernel
theorem dX7_isBadNote_30 : decode cX7_isBadNote 30 = .ok (.iconst 1, 1) := by decide +kernel
theorem dX7_isBadNote_31 : decode cX7_isBadNote 31 = .ok (.isub, 1) := by decide +kernel
theorem dX7_isBadNote_32 : decode cX7_isBadNote 32 = .ok (.invokestatic 330, 3) := by decide +kernel
theorem dX7_isBadNote_35 : decode cX7_isBadNote 35 = .ok (.ifCond .eq 19, 3) := by decide +kernel
theorem dX7_isBadNote_38 : decode cX7_isBadNote 38 = .ok (.iload 4, 2) := by decide +kernel
theorem dX7_isBadNote_40 : decode cX7_isBadNote 40 = .ok (.aload_n 0, 1) := by decide +kernel
theorem dX7_isBadNote_41 : decode cX7_isBadNote 41 = .ok (.getfield 9, 3) := by decide +kernel
theorem dX7_isBadNote_44 : decode cX7_isBadNote 44 = .ok (.iconst 1, 1) := by decide +kernel
theorem dX7_isBadNote_45 : decode cX7_isBadNote 45 = .ok (.iaload, 1) := by decide +kernel
theorem dX7_isBadNote_46 : decode cX7_isBadNote 46 = .ok (.iconst 1, 1) := by decide +kernel
theorem dX7_isBadNote_47 : decode cX7_isBadNote 47 = .ok (.isub, 1) := by decide +kernel
theorem dX7_isBadNote_48 : decode cX7_isBadNote 48 = .ok (.invokestatic 330, 3) := by decide +kernel
theorem dX7_isBadNote_51 : decode cX7_isBadNote 51 = .ok (.ifCond .ne 7, 3) := by decide +kernel
theorem dX7_isBadNote_54 : decode cX7_isBadNote 54 = .ok (.iconst 1, 1) := by decide +kernel
theorem dX7_isBadNote_55 : decode cX7_isBadNote 55 = .ok (.goto 4, 3) := by decide +kernel
theorem dX7_isBadNote_58 : decode cX7_isBadNote 58 = .ok (.iconst 0, 1) := by decide +kernel
theorem dX7_isBadNote_59 : decode cX7_isBadNote 59 = .ok (.ireturn, 1) := by decide +kernel
theorem dX7_noNote_0 : decode cX7_noNote 0 = .ok (.iload_n 1, 1) := by decide +kernel
theorem dX7_noNote_1 : decode cX7_noNote 1 = .ok (.iconst 0, 1) := by decide +kernel
theorem dX7_noNote_2 : decode cX7_noNote 2 = .ok (.aload_n 0, 1) := by decide +kernel
theorem dX7_noNote_3 : decode cX7_noNote 3 = .ok (.getfield 9, 3) := by decide +kernel
theorem dX7_noNote_6 : decode cX7_noNote 6 = .ok (.iconst 2, 1) := by decide +kernel
theorem dX7_noNote_7 : decode cX7_noNote 7 = .ok (.iaload, 1) := by decide +kernel
theorem dX7_noNote_8 : decode cX7_noNote 8 = .ok (.iconst 1, 1) := by decide +kernel
theorem dX7_noNote_9 : decode cX7_noNote 9 = .ok (.isub, 1) := by decide +kernel
theorem dX7_noNote_10 : decode cX7_noNote 10 = .ok (.invokestatic 182, 3) := by decide +kernel
theorem dX7_noNote_13 : decode cX7_noNote 13 = .ok (.ifCond .ne 7, 3) := by decide +kernel
theorem dX7_noNote_16 : decode cX7_noNote 16 = .ok (.iconst 1, 1) := by decide +kernel
theorem dX7_noNote_17 : decode cX7_noNote 17 = .ok (.goto 4, 3) := by decide +kernel
theorem dX7_noNote_20 : decode cX7_noNote 20 = .ok (.iconst 0, 1) := by decide +kernel
theorem dX7_noNote_21 : decode cX7_noNote 21 = .ok (.ireturn, 1) := by decide +kernel
theorem dX7_addNote_0 : decode cX7_addNote 0 = .ok (.aload_n 0, 1) := by decide +kernel
theorem dX7_addNote_1 : decode cX7_addNote 1 = .ok (.iload_n 1, 1) := by decide +kernel
theorem dX7_addNote_2 : decode cX7_addNote 2 = .ok (.iload_n 2, 1) := by decide +kernel
theorem dX7_addNote_3 : decode cX7_addNote 3 = .ok (.iload_n 3, 1) := by decide +kernel
theorem dX7_addNote_4 : decode cX7_addNote 4 = .ok (.iload 4, 2) := by decide +kernel
theorem dX7_addNote_6 : decode cX7_addNote 6 = .ok (.invokevirtual 333, 3) := by decide +kernel
theorem dX7_addNote_9 : decode cX7_addNote 9 = .ok (.istore 7, 2) := by decide +kernel
theorem dX7_addNote_11 : decode cX7_addNote 11 = .ok (.iload 7, 2) := by decide +kernel
theorem dX7_addNote_13 : decode cX7_addNote 13 = .ok (.ifCond .ne 33, 3) := by decide +kernel
theorem dX7_addNote_16 : decode cX7_addNote 16 = .ok (.aload_n 0, 1) := by decide +kernel
theorem dX7_addNote_17 : decode cX7_addNote 17 = .ok (.getfield 9, 3) := by decide +kernel
theorem dX7_addNote_20 : decode cX7_addNote 20 = .ok (.iconst 2, 1) := by decide +kernel
theorem dX7_addNote_21 : decode cX7_addNote 21 = .ok (.iaload, 1) := by decide +kernel
theorem dX7_addNote_22 : decode cX7_addNote 22 = .ok (.bipush 10, 2) := by decide +kernel
theorem dX7_addNote_24 : decode cX7_addNote 24 = .ok (.if_icmp .ge 22, 3) := by decide +kernel
theorem dX7_addNote_27 : decode cX7_addNote 27 = .ok (.aload_n 0, 1) := by decide +kernel
theorem dX7_addNote_28 : decode cX7_addNote 28 = .ok (.aload_n 0, 1) := by decide +kernel
theorem dX7_addNote_29 : decode cX7_addNote 29 = .ok (.getfield 9, 3) := by decide +kernel
theorem dX7_addNote_32 : decode cX7_addNote 32 = .ok (.iconst 2, 1) := by decide +kernel
theorem dX7_addNote_33 : decode cX7_addNote 33 = .ok (.iaload, 1) := by decide +kernel
theorem dX7_addNote_34 : decode cX7_addNote 34 = .ok (.iload_n 1, 1) := by decide +kernel
theorem dX7_addNote_35 : decode cX7_addNote 35 = .ok (.iload_n 2, 1) := by decide +kernel
theorem dX7_addNote_36 : decode cX7_addNote 36 = .ok (.iload_n 3, 1) := by decide +kernel
theorem dX7_addNote_37 : decode cX7_addNote 37 = .ok (.iload 4, 2) := by decide +kernel
theorem dX7_addNote_39 : decode cX7_addNote 39 = .ok (.iload 5, 2) := by decide +kernel
theorem dX7_addNote_41 : decode cX7_addNote 41 = .ok (.iload 6, 2) := by decide +kernel
theorem dX7_addNote_43 : decode cX7_addNote 43 = .ok (.invokevirtual 276, 3) := by decide +kernel
theorem dX7_addNote_46 : decode cX7_addNote 46 = .ok (.aload_n 0, 1) := by decide +kernel
theorem dX7_addNote_47 : decode cX7_addNote 47 = .ok (.iload 7, 2) := by decide +kernel
theorem dX7_addNote_49 : decode cX7_addNote 49 = .ok (.iload 7, 2) := by decide +kernel
theorem dX7_addNote_51 : decode cX7_addNote 51 = .ok (.ifCond .ne 14, 3) := by decide +kernel
theorem dX7_addNote_54 : decode cX7_addNote 54 = .ok (.aload_n 0, 1) := by decide +kernel
theorem dX7_addNote_55 : decode cX7_addNote 55 = .ok (.invokevirtual 280, 3) := by decide +kernel
theorem dX7_addNote_58 : decode cX7_addNote 58 = .ok (.ifCond .ne 7, 3) := by decide +kernel
theorem dX7_addNote_61 : decode cX7_addNote 61 = .ok (.iconst 1, 1) := by decide +kernel
theorem dX7_addNote_62 : decode cX7_addNote 62 = .ok (.goto 4, 3) := by decide +kernel
theorem dX7_addNote_65 : decode cX7_addNote 65 = .ok (.iconst 0, 1) := by decide +kernel
theorem dX7_addNote_66 : decode cX7_addNote 66 = .ok (.iconst 0, 1) := by decide +kernel
theorem dX7_addNote_67 : decode cX7_addNote 67 = .ok (.invokevirtual 186, 3) := by decide +kernel
theorem dX7_addNote_70 : decode cX7_addNote 70 = .ok (.ifCond .eq 5, 3) := by decide +kernel
theorem dX7_addNote_73 : decode cX7_addNote 73 = .ok (.iconst 0, 1) := by decide +kernel
theorem dX7_addNote_74 : decode cX7_addNote 74 = .ok (.ireturn, 1) := by decide +kernel
theorem dX7_addNote_75 : decode cX7_addNote 75 = .ok (.aload_n 0, 1) := by decide +kernel
theorem dX7_addNote_76 : decode cX7_addNote 76 = .ok (.aload_n 0, 1) := by decide +kernel
theorem dX7_addNote_77 : decode cX7_addNote 77 = .ok (.getfield 9, 3) := by decide +kernel
theorem dX7_addNote_80 : decode cX7_addNote 80 = .ok (.invokevirtual 310, 3) := by decide +kernel
theorem dX7_addNote_83 : decode cX7_addNote 83 = .ok (.aload_n 0, 1) := by decide +kernel
theorem dX7_addNote_84 : decode cX7_addNote 84 = .ok (.invokevirtual 283, 3) := by decide +kernel
theorem dX7_addNote_87 : decode cX7_addNote 87 = .ok (.ireturn, 1) := by decide +kernel
theorem dX7_clarify_0 : decode cX7_clarify 0 = .ok (.aload_n 0, 1) := by decide +kernel
theorem dX7_clarify_1 : decode cX7_clarify 1 = .ok (.iload_n 1, 1) := by decide +kernel
theorem dX7_clarify_2 : decode cX7_clarify 2 = .ok (.invokevirtual 337, 3) := by decide +kernel
theorem dX7_clarify_5 : decode cX7_clarify 5 = .ok (.istore 4, 2) := by decide +kernel
theorem dX7_clarify_7 : decode cX7_clarify 7 = .ok (.iload_n 2, 1) := by decide +kernel
theorem dX7_clarify_8 : decode cX7_clarify 8 = .ok (.aload_n 0, 1) := by decide +kernel
theorem dX7_clarify_9 : decode cX7_clarify 9 = .ok (.getfield 9, 3) := by decide +kernel
theorem dX7_clarify_12 : decode cX7_clarify 12 = .ok (.iconst 0, 1) := by decide +kernel
theorem dX7_clarify_13 : decode cX7_clarify 13 = .ok (.iaload, 1) := by decide +kernel
theorem dX7_clarify_14 : decode cX7_clarify 14 = .ok (.iconst 1, 1) := by decide +kernel
theorem dX7_clarify_15 : decode cX7_clarify 15 = .ok (.isub, 1) := by decide +kernel
theorem dX7_clarify_16 : decode cX7_clarify 16 = .ok (.invokestatic 330, 3) := by decide +kernel
theorem dX7_clarify_19 : decode cX7_clarify 19 = .ok (.ifCond .eq 18, 3) := by decide +kernel
theorem dX7_clarify_22 : decode cX7_clarify 22 = .ok (.iload_n 3, 1) := by decide +kernel
theorem dX7_clarify_23 : decode cX7_clarify 23 = .ok (.aload_n 0, 1) := by decide +kernel
theorem dX7_clarify_24 : decode cX7_clarify 24 = .ok (.getfield 9, 3) := by decide +kernel
theorem dX7_clarify_27 : decode cX7_clarify 27 = .ok (.iconst 1, 1) := by decide +kernel
theorem dX7_clarify_28 : decode cX7_clarify 28 = .ok (.iaload, 1) := by decide +kernel
theorem dX7_clarify_29 : decode cX7_clarify 29 = .ok (.iconst 1, 1) := by decide +kernel
theorem dX7_clarify_30 : decode cX7_clarify 30 = .ok (.isub, 1) := by decide +kernel
theorem dX7_clarify_31 : decode cX7_clarify 31 = .ok (.invokestatic 330, 3) := by decide +kernel
theorem dX7_clarify_34 : decode cX7_clarify 34 = .ok (.ifCond .ne 7, 3) := by decide +kernel
theorem dX7_clarify_37 : decode cX7_clarify 37 = .ok (.iconst 1, 1) := by decide +kernel
theorem dX7_clarify_38 : decode cX7_clarify 38 = .ok (.goto 4, 3) := by decide +kernel
theorem dX7_clarify_41 : decode cX7_clarify 41 = .ok (.iconst 0, 1) := by decide +kernel
theorem dX7_clarify_42 : decode cX7_clarify 42 = .ok (.istore 5, 2) := by decide +kernel
theorem dX7_clarify_44 : decode cX7_clarify 44 = .ok (.aload_n 0, 1) := by decide +kernel
theorem dX7_clarify_45 : decode cX7_clarify 45 = .ok (.iload 4, 2) := by decide +kernel
theorem dX7_clarify_47 : decode cX7_clarify 47 = .ok (.iload 5, 2) := by decide +kernel
theorem dX7_clarify_49 : decode cX7_clarify 49 = .ok (.iconst 0, 1) := by decide +kernel
theorem dX7_clarify_50 : decode cX7_clarify 50 = .ok (.invokevirtual 186, 3) := by decide +kernel
theorem dX7_clarify_53 : decode cX7_clarify 53 = .ok (.ifCond .eq 5, 3) := by decide +kernel
theorem dX7_clarify_56 : decode cX7_clarify 56 = .ok (.iconst 0, 1) := by decide +kernel
theorem dX7_clarify_57 : decode cX7_clarify 57 = .ok (.ireturn, 1) := by decide +kernel
theorem dX7_clarify_58 : decode cX7_clarify 58 = .ok (.aload_n 0, 1) := by decide +kernel
theorem dX7_clarify_59 : decode cX7_clarify 59 = .ok (.getfield 9, 3) := by decide +kernel
theorem dX7_clarify_62 : decode cX7_clarify 62 = .ok (.iconst 0, 1) := by decide +kernel
theorem dX7_clarify_63 : decode cX7_clarify 63 = .ok (.aload_n 0, 1) := by decide +kernel
theorem dX7_clarify_64 : decode cX7_clarify 64 = .ok (.getfield 19, 3) := by decide +kernel
theorem dX7_clarify_67 : decode cX7_clarify 67 = .ok (.iconst 0, 1) := by decide +kernel
theorem dX7_clarify_68 : decode cX7_clarify 68 = .ok (.invokestatic 95, 3) := by decide +kernel
theorem dX7_clarify_71 : decode cX7_clarify 71 = .ok (.aload_n 0, 1) := by decide +kernel
theorem dX7_clarify_72 : decode cX7_clarify 72 = .ok (.iload_n 1, 1) := by decide +kernel
theorem dX7_clarify_73 : decode cX7_clarify 73 = .ok (.iload_n 2, 1) := by decide +kernel
theorem dX7_clarify_74 : decode cX7_clarify 74 = .ok (.iload_n 3, 1) := by decide +kernel
theorem dX7_clarify_75 : decode cX7_clarify 75 = .ok (.invokevirtual 289, 3) := by decide +kernel
theorem dX7_clarify_78 : decode cX7_clarify 78 = .ok (.ifCond .eq 27, 3) := by decide +kernel
theorem dX7_clarify_81 : decode cX7_clarify 81 = .ok (.aload_n 0, 1) := by decide +kernel
theorem dX7_clarify_82 : decode cX7_clarify 82 = .ok (.iload_n 1, 1) := by decide +kernel
theorem dX7_clarify_83 : decode cX7_clarify 83 = .ok (.iconst 1, 1) := by decide +kernel
theorem dX7_clarify_84 : decode cX7_clarify 84 = .ok (.invokevirtual 144, 3) := by decide +kernel
theorem dX7_clarify_87 : decode cX7_clarify 87 = .ok (.iload_n 2, 1) := by decide +kernel
theorem dX7_clarify_88 : decode cX7_clarify 88 = .ok (.if_icmp .ne 17, 3) := by decide +kernel
theorem dX7_clarify_91 : decode cX7_clarify 91 = .ok (.aload_n 0, 1) := by decide +kernel
theorem dX7_clarify_92 : decode cX7_clarify 92 = .ok (.iload_n 1, 1) := by decide +kernel
theorem dX7_clarify_93 : decode cX7_clarify 93 = .ok (.iconst 2, 1) := by decide +kernel
theorem dX7_clarify_94 : decode cX7_clarify 94 = .ok (.invokevirtual 144, 3) := by decide +kernel
theorem dX7_clarify_97 : decode cX7_clarify 97 = .ok (.iload_n 3, 1) := by decide +kernel
theorem dX7_clarify_98 : decode cX7_clarify 98 = .ok (.if_icmp .ne 7, 3) := by decide +kernel
theorem dX7_clarify_101 : decode cX7_clarify 101 = .ok (.iconst 1, 1) := by decide +kernel
theorem dX7_clarify_102 : decode cX7_clarify 102 = .ok (.goto 4, 3) := by decide +kernel
theorem dX7_clarify_105 : decode cX7_clarify 105 = .ok (.iconst 0, 1) := by decide +kernel
theorem dX7_clarify_106 : decode cX7_clarify 106 = .ok (.istore 6, 2) := by decide +kernel
theorem dX7_clarify_108 : decode cX7_clarify 108 = .ok (.aload_n 0, 1) := by decide +kernel
theorem dX7_clarify_109 : decode cX7_clarify 109 = .ok (.iconst 0, 1) := by decide +kernel
theorem dX7_clarify_110 : decode cX7_clarify 110 = .ok (.iconst 0, 1) := by decide +kernel
theorem dX7_clarify_111 : decode cX7_clarify 111 = .ok (.iload 6, 2) := by decide +kernel
theorem dX7_clarify_113 : decode cX7_clarify 113 = .ok (.ifCond .ne 7, 3) := by decide +kernel
theorem dX7_clarify_116 : decode cX7_clarify 116 = .ok (.iconst 1, 1) := by decide +kernel
theorem dX7_clarify_117 : decode cX7_clarify 117 = .ok (.goto 4, 3) := by decide +kernel
theorem dX7_clarify_120 : decode cX7_clarify 120 = .ok (.iconst 0, 1) := by decide +kernel
theorem dX7_clarify_121 : decode cX7_clarify 121 = .ok (.invokevirtual 186, 3) := by decide +kernel
theorem dX7_clarify_124 : decode cX7_clarify 124 = .ok (.ifCond .eq 5, 3) := by decide +kernel
theorem dX7_clarify_127 : decode cX7_clarify 127 = .ok (.iconst 0, 1) := by decide +kernel
theorem dX7_clarify_128 : decode cX7_clarify 128 = .ok (.ireturn, 1) := by decide +kernel
theorem dX7_clarify_129 : decode cX7_clarify 129 = .ok (.aload_n 0, 1) := by decide +kernel
theorem dX7_clarify_130 : decode cX7_clarify 130 = .ok (.aload_n 0, 1) := by decide +kernel
theorem dX7_clarify_131 : decode cX7_clarify 131 = .ok (.getfield 19, 3) := by decide +kernel
theorem dX7_clarify_134 : decode cX7_clarify 134 = .ok (.invokevirtual 310, 3) := by decide +kernel
theorem dX7_clarify_137 : decode cX7_clarify 137 = .ok (.aload_n 0, 1) := by decide +kernel
theorem dX7_clarify_138 : decode cX7_clarify 138 = .ok (.getfield 39, 3) := by decide +kernel
theorem dX7_clarify_141 : decode cX7_clarify 141 = .ok (.aload_n 0, 1) := by decide +kernel
theorem dX7_clarify_142 : decode cX7_clarify 142 = .ok (.getfield 9, 3) := by decide +kernel
theorem dX7_clarify_145 : decode cX7_clarify 145 = .ok (.iconst 2, 1) := by decide +kernel
theorem dX7_clarify_146 : decode cX7_clarify 146 = .ok (.iaload, 1) := by decide +kernel
theorem dX7_clarify_147 : decode cX7_clarify 147 = .ok (.iaload, 1) := by decide +kernel
theorem dX7_clarify_148 : decode cX7_clarify 148 = .ok (.ireturn, 1) := by decide +kernel
theorem dX7_dropNote_0 : decode cX7_dropNote 0 = .ok (.aload_n 0, 1) := by decide +kernel
theorem dX7_dropNote_1 : decode cX7_dropNote 1 = .ok (.aload_n 0, 1) := by decide +kernel
theorem dX7_dropNote_2 : decode cX7_dropNote 2 = .ok (.getfield 9, 3) := by decide +kernel
theorem dX7_dropNote_5 : decode cX7_dropNote 5 = .ok (.iconst 2, 1) := by decide +kernel
theorem dX7_dropNote_6 : decode cX7_dropNote 6 = .ok (.iaload, 1) := by decide +kernel
theorem dX7_dropNote_7 : decode cX7_dropNote 7 = .ok (.ifCond .ne 7, 3) := by decide +kernel
theorem dX7_dropNote_10 : decode cX7_dropNote 10 = .ok (.iconst 1, 1) := by decide +kernel
theorem dX7_dropNote_11 : decode cX7_dropNote 11 = .ok (.goto 4, 3) := by decide +kernel
theorem dX7_dropNote_14 : decode cX7_dropNote 14 = .ok (.iconst 0, 1) := by decide +kernel
theorem dX7_dropNote_15 : decode cX7_dropNote 15 = .ok (.iconst 0, 1) := by decide +kernel
theorem dX7_dropNote_16 : decode cX7_dropNote 16 = .ok (.iconst 0, 1) := by decide +kernel
theorem dX7_dropNote_17 : decode cX7_dropNote 17 = .ok (.invokevirtual 186, 3) := by decide +kernel
theorem dX7_dropNote_20 : decode cX7_dropNote 20 = .ok (.ifCond .eq 5, 3) := by decide +kernel
theorem dX7_dropNote_23 : decode cX7_dropNote 23 = .ok (.iconst 0, 1) := by decide +kernel
theorem dX7_dropNote_24 : decode cX7_dropNote 24 = .ok (.ireturn, 1) := by decide +kernel
theorem dX7_dropNote_25 : decode cX7_dropNote 25 = .ok (.aload_n 0, 1) := by decide +kernel
theorem dX7_dropNote_26 : decode cX7_dropNote 26 = .ok (.aload_n 0, 1) := by decide +kernel
theorem dX7_dropNote_27 : decode cX7_dropNote 27 = .ok (.getfield 9, 3) := by decide +kernel
theorem dX7_dropNote_30 : decode cX7_dropNote 30 = .ok (.invokevirtual 310, 3) := by decide +kernel
theorem dX7_dropNote_33 : decode cX7_dropNote 33 = .ok (.aload_n 0, 1) := by decide +kernel
theorem dX7_dropNote_34 : decode cX7_dropNote 34 = .ok (.invokevirtual 304, 3) := by decide +kernel
theorem dX7_dropNote_37 : decode cX7_dropNote 37 = .ok (.ireturn, 1) := by decide +kernel
theorem dX7_undo_0 : decode cX7_undo 0 = .ok (.aload_n 0, 1) := by decide +kernel
theorem dX7_undo_1 : decode cX7_undo 1 = .ok (.aload_n 0, 1) := by decide +kernel
theorem dX7_undo_2 : decode cX7_undo 2 = .ok (.getfield 83, 3) := by decide +kernel
theorem dX7_undo_5 : decode cX7_undo 5 = .ok (.ifCond .ne 7, 3) := by decide +kernel
theorem dX7_undo_8 : decode cX7_undo 8 = .ok (.iconst 1, 1) := by decide +kernel
theorem dX7_undo_9 : decode cX7_undo 9 = .ok (.goto 4, 3) := by decide +kernel
theorem dX7_undo_12 : decode cX7_undo 12 = .ok (.iconst 0, 1) := by decide +kernel
theorem dX7_undo_13 : decode cX7_undo 13 = .ok (.iconst 0, 1) := by decide +kernel
theorem dX7_undo_14 : decode cX7_undo 14 = .ok (.iconst 0, 1) := by decide +kernel
theorem dX7_undo_15 : decode cX7_undo 15 = .ok (.invokevirtual 186, 3) := by decide +kernel
theorem dX7_undo_18 : decode cX7_undo 18 = .ok (.ifCond .eq 5, 3) := by decide +kernel
theorem dX7_undo_21 : decode cX7_undo 21 = .ok (.iconst 0, 1) := by decide +kernel
theorem dX7_undo_22 : decode cX7_undo 22 = .ok (.ireturn, 1) := by decide +kernel
theorem dX7_undo_23 : decode cX7_undo 23 = .ok (.aload_n 0, 1) := by decide +kernel
theorem dX7_undo_24 : decode cX7_undo 24 = .ok (.dup, 1) := by decide +kernel
theorem dX7_undo_25 : decode cX7_undo 25 = .ok (.getfield 83, 3) := by decide +kernel
theorem dX7_undo_28 : decode cX7_undo 28 = .ok (.iconst 1, 1) := by decide +kernel
theorem dX7_undo_29 : decode cX7_undo 29 = .ok (.isub, 1) := by decide +kernel
theorem dX7_undo_30 : decode cX7_undo 30 = .ok (.putfield 83, 3) := by decide +kernel
theorem dX7_undo_33 : decode cX7_undo 33 = .ok (.aload_n 0, 1) := by decide +kernel
theorem dX7_undo_34 : decode cX7_undo 34 = .ok (.getfield 13, 3) := by decide +kernel
theorem dX7_undo_37 : decode cX7_undo 37 = .ok (.aload_n 0, 1) := by decide +kernel
theorem dX7_undo_38 : decode cX7_undo 38 = .ok (.getfield 83, 3) := by decide +kernel
theorem dX7_undo_41 : decode cX7_undo 41 = .ok (.bipush 109, 2) := by decide +kernel
theorem dX7_undo_43 : decode cX7_undo 43 = .ok (.imul, 1) := by decide +kernel
theorem dX7_undo_44 : decode cX7_undo 44 = .ok (.aload_n 0, 1) := by decide +kernel
theorem dX7_undo_45 : decode cX7_undo 45 = .ok (.getfield 9, 3) := by decide +kernel
theorem dX7_undo_48 : decode cX7_undo 48 = .ok (.iconst 0, 1) := by decide +kernel
theorem dX7_undo_49 : decode cX7_undo 49 = .ok (.invokestatic 95, 3) := by decide +kernel
theorem dX7_undo_52 : decode cX7_undo 52 = .ok (.aload_n 0, 1) := by decide +kernel
theorem dX7_undo_53 : decode cX7_undo 53 = .ok (.invokevirtual 174, 3) := by decide +kernel
theorem dX7_undo_56 : decode cX7_undo 56 = .ok (.istore_n 1, 1) := by decide +kernel
theorem dX7_undo_57 : decode cX7_undo 57 = .ok (.aload_n 0, 1) := by decide +kernel
theorem dX7_undo_58 : decode cX7_undo 58 = .ok (.getfield 83, 3) := by decide +kernel
theorem dX7_undo_61 : decode cX7_undo 61 = .ok (.ireturn, 1) := by decide +kernel
theorem dX7_save_0 : decode cX7_save 0 = .ok (.aload_n 0, 1) := by decide +kernel
theorem dX7_save_1 : decode cX7_save 1 = .ok (.iload_n 1, 1) := by decide +kernel
theorem dX7_save_2 : decode cX7_save 2 = .ok (.iconst 0, 1) := by decide +kernel
theorem dX7_save_3 : decode cX7_save 3 = .ok (.iconst 1, 1) := by decide +kernel
theorem dX7_save_4 : decode cX7_save 4 = .ok (.invokestatic 182, 3) := by decide +kernel
theorem dX7_save_7 : decode cX7_save 7 = .ok (.ifCond .ne 7, 3) := by decide +kernel
theorem dX7_save_10 : decode cX7_save 10 = .ok (.iconst 1, 1) := by decide +kernel
theorem dX7_save_11 : decode cX7_save 11 = .ok (.goto 4, 3) := by decide +kernel
theorem dX7_save_14 : decode cX7_save 14 = .ok (.iconst 0, 1) := by decide +kernel
theorem dX7_save_15 : decode cX7_save 15 = .ok (.iconst 0, 1) := by decide +kernel
theorem dX7_save_16 : decode cX7_save 16 = .ok (.iconst 0, 1) := by decide +kernel
theorem dX7_save_17 : decode cX7_save 17 = .ok (.invokevirtual 186, 3) := by decide +kernel
theorem dX7_save_20 : decode cX7_save 20 = .ok (.ifCond .eq 5, 3) := by decide +kernel
theorem dX7_save_23 : decode cX7_save 23 = .ok (.iconst 0, 1) := by decide +kernel
theorem dX7_save_24 : decode cX7_save 24 = .ok (.ireturn, 1) := by decide +kernel
theorem dX7_save_25 : decode cX7_save 25 = .ok (.aload_n 0, 1) := by decide +kernel
theorem dX7_save_26 : decode cX7_save 26 = .ok (.getfield 9, 3) := by decide +kernel
theorem dX7_save_29 : decode cX7_save 29 = .ok (.iconst 0, 1) := by decide +kernel
theorem dX7_save_30 : decode cX7_save 30 = .ok (.aload_n 0, 1) := by decide +kernel
theorem dX7_save_31 : decode cX7_save 31 = .ok (.getfield 16, 3) := by decide +kernel
theorem dX7_save_34 : decode cX7_save 34 = .ok (.iload_n 1, 1) := by decide +kernel
theorem dX7_save_35 : decode cX7_save 35 = .ok (.bipush 109, 2) := by decide +kernel
theorem dX7_save_37 : decode cX7_save 37 = .ok (.imul, 1) := by decide +kernel
theorem dX7_save_38 : decode cX7_save 38 = .ok (.invokestatic 95, 3) := by decide +kernel
theorem dX7_save_41 : decode cX7_save 41 = .ok (.aload_n 0, 1) := by decide +kernel
theorem dX7_save_42 : decode cX7_save 42 = .ok (.getfield 22, 3) := by decide +kernel
theorem dX7_save_45 : decode cX7_save 45 = .ok (.iload_n 1, 1) := by decide +kernel
theorem dX7_save_46 : decode cX7_save 46 = .ok (.iconst 1, 1) := by decide +kernel
theorem dX7_save_47 : decode cX7_save 47 = .ok (.bastore, 1) := by decide +kernel
theorem dX7_save_48 : decode cX7_save 48 = .ok (.aload_n 0, 1) := by decide +kernel
theorem dX7_save_49 : decode cX7_save 49 = .ok (.getfield 9, 3) := by decide +kernel
theorem dX7_save_52 : decode cX7_save 52 = .ok (.iconst 2, 1) := by decide +kernel
theorem dX7_save_53 : decode cX7_save 53 = .ok (.iaload, 1) := by decide +kernel
theorem dX7_save_54 : decode cX7_save 54 = .ok (.ireturn, 1) := by decide +kernel
theorem dX7_restore_0 : decode cX7_restore 0 = .ok (.iload_n 1, 1) := by decide +kernel
theorem dX7_restore_1 : decode cX7_restore 1 = .ok (.iconst 0, 1) := by decide +kernel
theorem dX7_restore_2 : decode cX7_restore 2 = .ok (.iconst 1, 1) := by decide +kernel
theorem dX7_restore_3 : decode cX7_restore 3 = .ok (.invokestatic 182, 3) := by decide +kernel
theorem dX7_restore_6 : decode cX7_restore 6 = .ok (.ifCond .ne 7, 3) := by decide +kernel
theorem dX7_restore_9 : decode cX7_restore 9 = .ok (.iconst 1, 1) := by decide +kernel
theorem dX7_restore_10 : decode cX7_restore 10 = .ok (.goto 4, 3) := by decide +kernel
theorem dX7_restore_13 : decode cX7_restore 13 = .ok (.iconst 0, 1) := by decide +kernel
theorem dX7_restore_14 : decode cX7_restore 14 = .ok (.istore_n 2, 1) := by decide +kernel
theorem dX7_restore_15 : decode cX7_restore 15 = .ok (.aload_n 0, 1) := by decide +kernel
theorem dX7_restore_16 : decode cX7_restore 16 = .ok (.iload_n 2, 1) := by decide +kernel
theorem dX7_restore_17 : decode cX7_restore 17 = .ok (.iload_n 2, 1) := by decide +kernel
theorem dX7_restore_18 : decode cX7_restore 18 = .ok (.ifCond .ne 16, 3) := by decide +kernel
theorem dX7_restore_21 : decode cX7_restore 21 = .ok (.aload_n 0, 1) := by decide +kernel
theorem dX7_restore_22 : decode cX7_restore 22 = .ok (.getfield 22, 3) := by decide +kernel
theorem dX7_restore_25 : decode cX7_restore 25 = .ok (.iload_n 1, 1) := by decide +kernel
theorem dX7_restore_26 : decode cX7_restore 26 = .ok (.baload, 1) := by decide +kernel
theorem dX7_restore_27 : decode cX7_restore 27 = .ok (.ifCond .ne 7, 3) := by decide +kernel
theorem dX7_restore_30 : decode cX7_restore 30 = .ok (.iconst 1, 1) := by decide +kernel
theorem dX7_restore_31 : decode cX7_restore 31 = .ok (.goto 4, 3) := by decide +kernel
theorem dX7_restore_34 : decode cX7_restore 34 = .ok (.iconst 0, 1) := by decide +kernel
theorem dX7_restore_35 : decode cX7_restore 35 = .ok (.iconst 0, 1) := by decide +kernel
theorem dX7_restore_36 : decode cX7_restore 36 = .ok (.invokevirtual 186, 3) := by decide +kernel
theorem dX7_restore_39 : decode cX7_restore 39 = .ok (.ifCond .eq 5, 3) := by decide +kernel
theorem dX7_restore_42 : decode cX7_restore 42 = .ok (.iconst 0, 1) := by decide +kernel
theorem dX7_restore_43 : decode cX7_restore 43 = .ok (.ireturn, 1) := by decide +kernel
theorem dX7_restore_44 : decode cX7_restore 44 = .ok (.aload_n 0, 1) := by decide +kernel
theorem dX7_restore_45 : decode cX7_restore 45 = .ok (.aload_n 0, 1) := by decide +kernel
theorem dX7_restore_46 : decode cX7_restore 46 = .ok (.getfield 9, 3) := by decide +kernel
theorem dX7_restore_49 : decode cX7_restore 49 = .ok (.invokevirtual 310, 3) := by decide +kernel
theorem dX7_restore_52 : decode cX7_restore 52 = .ok (.aload_n 0, 1) := by decide +kernel
theorem dX7_restore_53 : decode cX7_restore 53 = .ok (.getfield 16, 3) := by decide +kernel
theorem dX7_restore_56 : decode cX7_restore 56 = .ok (.iload_n 1, 1) := by decide +kernel
theorem dX7_restore_57 : decode cX7_restore 57 = .ok (.bipush 109, 2) := by decide +kernel
theorem dX7_restore_59 : decode cX7_restore 59 = .ok (.imul, 1) := by decide +kernel
theorem dX7_restore_60 : decode cX7_restore 60 = .ok (.aload_n 0, 1) := by decide +kernel
theorem dX7_restore_61 : decode cX7_restore 61 = .ok (.getfield 9, 3) := by decide +kernel
theorem dX7_restore_64 : decode cX7_restore 64 = .ok (.iconst 0, 1) := by decide +kernel
theorem dX7_restore_65 : decode cX7_restore 65 = .ok (.invokestatic 95, 3) := by decide +kernel
theorem dX7_restore_68 : decode cX7_restore 68 = .ok (.aload_n 0, 1) := by decide +kernel
theorem dX7_restore_69 : decode cX7_restore 69 = .ok (.invokevirtual 174, 3) := by decide +kernel
theorem dX7_restore_72 : decode cX7_restore 72 = .ok (.istore_n 3, 1) := by decide +kernel
theorem dX7_restore_73 : decode cX7_restore 73 = .ok (.aload_n 0, 1) := by decide +kernel
theorem dX7_restore_74 : decode cX7_restore 74 = .ok (.getfield 9, 3) := by decide +kernel
theorem dX7_restore_77 : decode cX7_restore 77 = .ok (.iconst 2, 1) := by decide +kernel
theorem dX7_restore_78 : decode cX7_restore 78 = .ok (.iaload, 1) := by decide +kernel
theorem dX7_restore_79 : decode cX7_restore 79 = .ok (.ireturn, 1) := by decide +kernel
theorem dX7_columns_0 : decode cX7_columns 0 = .ok (.aload_n 0, 1) := by decide +kernel
theorem dX7_columns_1 : decode cX7_columns 1 = .ok (.aload_n 0, 1) := by decide +kernel
theorem dX7_columns_2 : decode cX7_columns 2 = .ok (.getfield 9, 3) := by decide +kernel
theorem dX7_columns_5 : decode cX7_columns 5 = .ok (.iconst 0, 1) := by decide +kernel
theorem dX7_columns_6 : decode cX7_columns 6 = .ok (.iaload, 1) := by decide +kernel
theorem dX7_columns_7 : decode cX7_columns 7 = .ok (.invokevirtual 327, 3) := by decide +kernel
theorem dX7_columns_10 : decode cX7_columns 10 = .ok (.ireturn, 1) := by decide +kernel
theorem dX7_rows_0 : decode cX7_rows 0 = .ok (.aload_n 0, 1) := by decide +kernel
theorem dX7_rows_1 : decode cX7_rows 1 = .ok (.aload_n 0, 1) := by decide +kernel
theorem dX7_rows_2 : decode cX7_rows 2 = .ok (.getfield 9, 3) := by decide +kernel
theorem dX7_rows_5 : decode cX7_rows 5 = .ok (.iconst 1, 1) := by decide +kernel
theorem dX7_rows_6 : decode cX7_rows 6 = .ok (.iaload, 1) := by decide +kernel
theorem dX7_rows_7 : decode cX7_rows 7 = .ok (.invokevirtual 327, 3) := by decide +kernel
theorem dX7_rows_10 : decode cX7_rows 10 = .ok (.ireturn, 1) := by decide +kernel
theorem dX7_noteCount_0 : decode cX7_noteCount 0 = .ok (.aload_n 0, 1) := by decide +kernel
theorem dX7_noteCount_1 : decode cX7_noteCount 1 = .ok (.aload_n 0, 1) := by decide +kernel
theorem dX7_noteCount_2 : decode cX7_noteCount 2 = .ok (.getfield 9, 3) := by decide +kernel
theorem dX7_noteCount_5 : decode cX7_noteCount 5 = .ok (.iconst 2, 1) := by decide +kernel
theorem dX7_noteCount_6 : decode cX7_noteCount 6 = .ok (.iaload, 1) := by decide +kernel
theorem dX7_noteCount_7 : decode cX7_noteCount 7 = .ok (.invokevirtual 327, 3) := by decide +kernel
theorem dX7_noteCount_10 : decode cX7_noteCount 10 = .ok (.ireturn, 1) := by decide +kernel
theorem dX7_colourToMove_0 : decode cX7_colourToMove 0 = .ok (.aload_n 0, 1) := by decide +kernel
theorem dX7_colourToMove_1 : decode cX7_colourToMove 1 = .ok (.aload_n 0, 1) := by decide +kernel
theorem dX7_colourToMove_2 : decode cX7_colourToMove 2 = .ok (.getfield 9, 3) := by decide +kernel
theorem dX7_colourToMove_5 : decode cX7_colourToMove 5 = .ok (.iconst 2, 1) := by decide +kernel
theorem dX7_colourToMove_6 : decode cX7_colourToMove 6 = .ok (.iaload, 1) := by decide +kernel
theorem dX7_colourToMove_7 : decode cX7_colourToMove 7 = .ok (.iconst 2, 1) := by decide +kernel
theorem dX7_colourToMove_8 : decode cX7_colourToMove 8 = .ok (.irem, 1) := by decide +kernel
theorem dX7_colourToMove_9 : decode cX7_colourToMove 9 = .ok (.invokevirtual 327, 3) := by decide +kernel
theorem dX7_colourToMove_12 : decode cX7_colourToMove 12 = .ok (.ireturn, 1) := by decide +kernel
theorem dX7_undoableChanges_0 : decode cX7_undoableChanges 0 = .ok (.aload_n 0, 1) := by decide +kernel
theorem dX7_undoableChanges_1 : decode cX7_undoableChanges 1 = .ok (.aload_n 0, 1) := by decide +kernel
theorem dX7_undoableChanges_2 : decode cX7_undoableChanges 2 = .ok (.getfield 83, 3) := by decide +kernel
theorem dX7_undoableChanges_5 : decode cX7_undoableChanges 5 = .ok (.invokevirtual 327, 3) := by decide +kernel
theorem dX7_undoableChanges_8 : decode cX7_undoableChanges 8 = .ok (.ireturn, 1) := by decide +kernel
theorem dX7_ofNote_0 : decode cX7_ofNote 0 = .ok (.aload_n 0, 1) := by decide +kernel
theorem dX7_ofNote_1 : decode cX7_ofNote 1 = .ok (.aload_n 0, 1) := by decide +kernel
theorem dX7_ofNote_2 : decode cX7_ofNote 2 = .ok (.iload_n 1, 1) := by decide +kernel
theorem dX7_ofNote_3 : decode cX7_ofNote 3 = .ok (.invokevirtual 337, 3) := by decide +kernel
theorem dX7_ofNote_6 : decode cX7_ofNote 6 = .ok (.iconst 0, 1) := by decide +kernel
theorem dX7_ofNote_7 : decode cX7_ofNote 7 = .ok (.iconst 0, 1) := by decide +kernel
theorem dX7_ofNote_8 : decode cX7_ofNote 8 = .ok (.invokevirtual 186, 3) := by decide +kernel
theorem dX7_ofNote_11 : decode cX7_ofNote 11 = .ok (.ifCond .eq 7, 3) := by decide +kernel
theorem dX7_ofNote_14 : decode cX7_ofNote 14 = .ok (.iconst 0, 1) := by decide +kernel
theorem dX7_ofNote_15 : decode cX7_ofNote 15 = .ok (.goto 9, 3) := by decide +kernel
theorem dX7_ofNote_18 : decode cX7_ofNote 18 = .ok (.aload_n 0, 1) := by decide +kernel
theorem dX7_ofNote_19 : decode cX7_ofNote 19 = .ok (.iload_n 1, 1) := by decide +kernel
theorem dX7_ofNote_20 : decode cX7_ofNote 20 = .ok (.iload_n 2, 1) := by decide +kernel
theorem dX7_ofNote_21 : decode cX7_ofNote 21 = .ok (.invokevirtual 144, 3) := by decide +kernel
theorem dX7_ofNote_24 : decode cX7_ofNote 24 = .ok (.ireturn, 1) := by decide +kernel
theorem dX7_noteKind_0 : decode cX7_noteKind 0 = .ok (.aload_n 0, 1) := by decide +kernel
theorem dX7_noteKind_1 : decode cX7_noteKind 1 = .ok (.iload_n 1, 1) := by decide +kernel
theorem dX7_noteKind_2 : decode cX7_noteKind 2 = .ok (.iconst 0, 1) := by decide +kernel
theorem dX7_noteKind_3 : decode cX7_noteKind 3 = .ok (.invokevirtual 340, 3) := by decide +kernel
theorem dX7_noteKind_6 : decode cX7_noteKind 6 = .ok (.ireturn, 1) := by decide +kernel
theorem dX7_noteFromColumn_0 : decode cX7_noteFromColumn 0 = .ok (.aload_n 0, 1) := by decide +kernel
theorem dX7_noteFromColumn_1 : decode cX7_noteFromColumn 1 = .ok (.iload_n 1, 1) := by decide +kernel
theorem dX7_noteFromColumn_2 : decode cX7_noteFromColumn 2 = .ok (.iconst 1, 1) := by decide +kernel
theorem dX7_noteFromColumn_3 : decode cX7_noteFromColumn 3 = .ok (.invokevirtual 340, 3) := by decide +kernel
theorem dX7_noteFromColumn_6 : decode cX7_noteFromColumn 6 = .ok (.ireturn, 1) := by decide +kernel
theorem dX7_noteFromRow_0 : decode cX7_noteFromRow 0 = .ok (.aload_n 0, 1) := by decide +kernel
theorem dX7_noteFromRow_1 : decode cX7_noteFromRow 1 = .ok (.iload_n 1, 1) := by decide +kernel
theorem dX7_noteFromRow_2 : decode cX7_noteFromRow 2 = .ok (.iconst 2, 1) := by decide +kernel
theorem dX7_noteFromRow_3 : decode cX7_noteFromRow 3 = .ok (.invokevirtual 340, 3) := by decide +kernel
theorem dX7_noteFromRow_6 : decode cX7_noteFromRow 6 = .ok (.ireturn, 1) := by decide +kernel
theorem dX7_noteToColumn_0 : decode cX7_noteToColumn 0 = .ok (.aload_n 0, 1) := by decide +kernel
theorem dX7_noteToColumn_1 : decode cX7_noteToColumn 1 = .ok (.iload_n 1, 1) := by decide +kernel
theorem dX7_noteToColumn_2 : decode cX7_noteToColumn 2 = .ok (.iconst 3, 1) := by decide +kernel
theorem dX7_noteToColumn_3 : decode cX7_noteToColumn 3 = .ok (.invokevirtual 340, 3) := by decide +kernel
theorem dX7_noteToColumn_6 : decode cX7_noteToColumn 6 = .ok (.ireturn, 1) := by decide +kernel
theorem dX7_noteToRow_0 : decode cX7_noteToRow 0 = .ok (.aload_n 0, 1) := by decide +kernel
theorem dX7_noteToRow_1 : decode cX7_noteToRow 1 = .ok (.iload_n 1, 1) := by decide +kernel
theorem dX7_noteToRow_2 : decode cX7_noteToRow 2 = .ok (.iconst 4, 1) := by decide +kernel
theorem dX7_noteToRow_3 : decode cX7_noteToRow 3 = .ok (.invokevirtual 340, 3) := by decide +kernel
theorem dX7_noteToRow_6 : decode cX7_noteToRow 6 = .ok (.ireturn, 1) := by decide +kernel
theorem dX7_noteTakes_0 : decode cX7_noteTakes 0 = .ok (.aload_n 0, 1) := by decide +kernel
theorem dX7_noteTakes_1 : decode cX7_noteTakes 1 = .ok (.iload_n 1, 1) := by decide +kernel
theorem dX7_noteTakes_2 : decode cX7_noteTakes 2 = .ok (.iconst 5, 1) := by decide +kernel
theorem dX7_noteTakes_3 : decode cX7_noteTakes 3 = .ok (.invokevirtual 340, 3) := by decide +kernel
theorem dX7_noteTakes_6 : decode cX7_noteTakes 6 = .ok (.iconst 1, 1) := by decide +kernel
theorem dX7_noteTakes_7 : decode cX7_noteTakes 7 = .ok (.if_icmp .ne 7, 3) := by decide +kernel
theorem dX7_noteTakes_10 : decode cX7_noteTakes 10 = .ok (.iconst 1, 1) := by decide +kernel
theorem dX7_noteTakes_11 : decode cX7_noteTakes 11 = .ok (.goto 4, 3) := by decide +kernel
theorem dX7_noteTakes_14 : decode cX7_noteTakes 14 = .ok (.iconst 0, 1) := by decide +kernel
theorem dX7_noteTakes_15 : decode cX7_noteTakes 15 = .ok (.ireturn, 1) := by decide +kernel
theorem dX7_noteChecks_0 : decode cX7_noteChecks 0 = .ok (.aload_n 0, 1) := by decide +kernel
theorem dX7_noteChecks_1 : decode cX7_noteChecks 1 = .ok (.iload_n 1, 1) := by decide +kernel
theorem dX7_noteChecks_2 : decode cX7_noteChecks 2 = .ok (.bipush 6, 2) := by decide +kernel
theorem dX7_noteChecks_4 : decode cX7_noteChecks 4 = .ok (.invokevirtual 340, 3) := by decide +kernel
theorem dX7_noteChecks_7 : decode cX7_noteChecks 7 = .ok (.iconst 1, 1) := by decide +kernel
theorem dX7_noteChecks_8 : decode cX7_noteChecks 8 = .ok (.if_icmp .ne 7, 3) := by decide +kernel
theorem dX7_noteChecks_11 : decode cX7_noteChecks 11 = .ok (.iconst 1, 1) := by decide +kernel
theorem dX7_noteChecks_12 : decode cX7_noteChecks 12 = .ok (.goto 4, 3) := by decide +kernel
theorem dX7_noteChecks_15 : decode cX7_noteChecks 15 = .ok (.iconst 0, 1) := by decide +kernel
theorem dX7_noteChecks_16 : decode cX7_noteChecks 16 = .ok (.ireturn, 1) := by decide +kernel
theorem dX7_positionsAfter_0 : decode cX7_positionsAfter 0 = .ok (.aload_n 0, 1) := by decide +kernel
theorem dX7_positionsAfter_1 : decode cX7_positionsAfter 1 = .ok (.iload_n 1, 1) := by decide +kernel
theorem dX7_positionsAfter_2 : decode cX7_positionsAfter 2 = .ok (.iconst 0, 1) := by decide +kernel
theorem dX7_positionsAfter_3 : decode cX7_positionsAfter 3 = .ok (.aload_n 0, 1) := by decide +kernel
theorem dX7_positionsAfter_4 : decode cX7_positionsAfter 4 = .ok (.getfield 9, 3) := by decide +kernel
theorem dX7_positionsAfter_7 : decode cX7_positionsAfter 7 = .ok (.iconst 2, 1) := by decide +kernel
theorem dX7_positionsAfter_8 : decode cX7_positionsAfter 8 = .ok (.iaload, 1) := by decide +kernel
theorem dX7_positionsAfter_9 : decode cX7_positionsAfter 9 = .ok (.invokestatic 182, 3) := by decide +kernel
theorem dX7_positionsAfter_12 : decode cX7_positionsAfter 12 = .ok (.ifCond .ne 7, 3) := by decide +kernel
theorem dX7_positionsAfter_15 : decode cX7_positionsAfter 15 = .ok (.iconst 1, 1) := by decide +kernel
theorem dX7_positionsAfter_16 : decode cX7_positionsAfter 16 = .ok (.goto 4, 3) := by decide +kernel
theorem dX7_positionsAfter_19 : decode cX7_positionsAfter 19 = .ok (.iconst 0, 1) := by decide +kernel
theorem dX7_positionsAfter_20 : decode cX7_positionsAfter 20 = .ok (.iconst 0, 1) := by decide +kernel
theorem dX7_positionsAfter_21 : decode cX7_positionsAfter 21 = .ok (.iconst 0, 1) := by decide +kernel
theorem dX7_positionsAfter_22 : decode cX7_positionsAfter 22 = .ok (.invokevirtual 186, 3) := by decide +kernel
theorem dX7_positionsAfter_25 : decode cX7_positionsAfter 25 = .ok (.ifCond .eq 7, 3) := by decide +kernel
theorem dX7_positionsAfter_28 : decode cX7_positionsAfter 28 = .ok (.iconst 0, 1) := by decide +kernel
theorem dX7_positionsAfter_29 : decode cX7_positionsAfter 29 = .ok (.goto 9, 3) := by decide +kernel
theorem dX7_positionsAfter_32 : decode cX7_positionsAfter 32 = .ok (.aload_n 0, 1) := by decide +kernel
theorem dX7_positionsAfter_33 : decode cX7_positionsAfter 33 = .ok (.getfield 39, 3) := by decide +kernel
theorem dX7_positionsAfter_36 : decode cX7_positionsAfter 36 = .ok (.iload_n 1, 1) := by decide +kernel
theorem dX7_positionsAfter_37 : decode cX7_positionsAfter 37 = .ok (.iaload, 1) := by decide +kernel
theorem dX7_positionsAfter_38 : decode cX7_positionsAfter 38 = .ok (.ireturn, 1) := by decide +kernel
theorem dX7_noPosition_0 : decode cX7_noPosition 0 = .ok (.iload_n 1, 1) := by decide +kernel
theorem dX7_noPosition_1 : decode cX7_noPosition 1 = .ok (.iconst 0, 1) := by decide +kernel
theorem dX7_noPosition_2 : decode cX7_noPosition 2 = .ok (.aload_n 0, 1) := by decide +kernel
theorem dX7_noPosition_3 : decode cX7_noPosition 3 = .ok (.getfield 39, 3) := by decide +kernel
theorem dX7_noPosition_6 : decode cX7_noPosition 6 = .ok (.aload_n 0, 1) := by decide +kernel
theorem dX7_noPosition_7 : decode cX7_noPosition 7 = .ok (.getfield 9, 3) := by decide +kernel
theorem dX7_noPosition_10 : decode cX7_noPosition 10 = .ok (.iconst 2, 1) := by decide +kernel
theorem dX7_noPosition_11 : decode cX7_noPosition 11 = .ok (.iaload, 1) := by decide +kernel
theorem dX7_noPosition_12 : decode cX7_noPosition 12 = .ok (.iaload, 1) := by decide +kernel
theorem dX7_noPosition_13 : decode cX7_noPosition 13 = .ok (.iconst 1, 1) := by decide +kernel
theorem dX7_noPosition_14 : decode cX7_noPosition 14 = .ok (.isub, 1) := by decide +kernel
theorem dX7_noPosition_15 : decode cX7_noPosition 15 = .ok (.invokestatic 182, 3) := by decide +kernel
theorem dX7_noPosition_18 : decode cX7_noPosition 18 = .ok (.ifCond .ne 7, 3) := by decide +kernel
theorem dX7_noPosition_21 : decode cX7_noPosition 21 = .ok (.iconst 1, 1) := by decide +kernel
theorem dX7_noPosition_22 : decode cX7_noPosition 22 = .ok (.goto 4, 3) := by decide +kernel
theorem dX7_noPosition_25 : decode cX7_noPosition 25 = .ok (.iconst 0, 1) := by decide +kernel
theorem dX7_noPosition_26 : decode cX7_noPosition 26 = .ok (.ireturn, 1) := by decide +kernel
theorem dX7_noSquare_0 : decode cX7_noSquare 0 = .ok (.iload_n 1, 1) := by decide +kernel
theorem dX7_noSquare_1 : decode cX7_noSquare 1 = .ok (.iconst 0, 1) := by decide +kernel
theorem dX7_noSquare_2 : decode cX7_noSquare 2 = .ok (.aload_n 0, 1) := by decide +kernel
theorem dX7_noSquare_3 : decode cX7_noSquare 3 = .ok (.getfield 9, 3) := by decide +kernel
theorem dX7_noSquare_6 : decode cX7_noSquare 6 = .ok (.iconst 0, 1) := by decide +kernel
theorem dX7_noSquare_7 : decode cX7_noSquare 7 = .ok (.iaload, 1) := by decide +kernel
theorem dX7_noSquare_8 : decode cX7_noSquare 8 = .ok (.iconst 1, 1) := by decide +kernel
theorem dX7_noSquare_9 : decode cX7_noSquare 9 = .ok (.isub, 1) := by decide +kernel
theorem dX7_noSquare_10 : decode cX7_noSquare 10 = .ok (.invokestatic 182, 3) := by decide +kernel
theorem dX7_noSquare_13 : decode cX7_noSquare 13 = .ok (.ifCond .eq 19, 3) := by decide +kernel
theorem dX7_noSquare_16 : decode cX7_noSquare 16 = .ok (.iload_n 2, 1) := by decide +kernel
theorem dX7_noSquare_17 : decode cX7_noSquare 17 = .ok (.iconst 0, 1) := by decide +kernel
theorem dX7_noSquare_18 : decode cX7_noSquare 18 = .ok (.aload_n 0, 1) := by decide +kernel
theorem dX7_noSquare_19 : decode cX7_noSquare 19 = .ok (.getfield 9, 3) := by decide +kernel
theorem dX7_noSquare_22 : decode cX7_noSquare 22 = .ok (.iconst 1, 1) := by decide +kernel
theorem dX7_noSquare_23 : decode cX7_noSquare 23 = .ok (.iaload, 1) := by decide +kernel
theorem dX7_noSquare_24 : decode cX7_noSquare 24 = .ok (.iconst 1, 1) := by decide +kernel
theorem dX7_noSquare_25 : decode cX7_noSquare 25 = .ok (.isub, 1) := by decide +kernel
theorem dX7_noSquare_26 : decode cX7_noSquare 26 = .ok (.invokestatic 182, 3) := by decide +kernel
theorem dX7_noSquare_29 : decode cX7_noSquare 29 = .ok (.ifCond .ne 7, 3) := by decide +kernel
theorem dX7_noSquare_32 : decode cX7_noSquare 32 = .ok (.iconst 1, 1) := by decide +kernel
theorem dX7_noSquare_33 : decode cX7_noSquare 33 = .ok (.goto 4, 3) := by decide +kernel
theorem dX7_noSquare_36 : decode cX7_noSquare 36 = .ok (.iconst 0, 1) := by decide +kernel
theorem dX7_noSquare_37 : decode cX7_noSquare 37 = .ok (.ireturn, 1) := by decide +kernel
theorem dX7_square_0 : decode cX7_square 0 = .ok (.iload_n 2, 1) := by decide +kernel
theorem dX7_square_1 : decode cX7_square 1 = .ok (.aload_n 0, 1) := by decide +kernel
theorem dX7_square_2 : decode cX7_square 2 = .ok (.getfield 9, 3) := by decide +kernel
theorem dX7_square_5 : decode cX7_square 5 = .ok (.iconst 0, 1) := by decide +kernel
theorem dX7_square_6 : decode cX7_square 6 = .ok (.iaload, 1) := by decide +kernel
theorem dX7_square_7 : decode cX7_square 7 = .ok (.imul, 1) := by decide +kernel
theorem dX7_square_8 : decode cX7_square 8 = .ok (.iload_n 1, 1) := by decide +kernel
theorem dX7_square_9 : decode cX7_square 9 = .ok (.iadd, 1) := by decide +kernel
theorem dX7_square_10 : decode cX7_square 10 = .ok (.ireturn, 1) := by decide +kernel
theorem dX7_last_0 : decode cX7_last 0 = .ok (.aload_n 0, 1) := by decide +kernel
theorem dX7_last_1 : decode cX7_last 1 = .ok (.getfield 36, 3) := by decide +kernel
theorem dX7_last_4 : decode cX7_last 4 = .ok (.aload_n 0, 1) := by decide +kernel
theorem dX7_last_5 : decode cX7_last 5 = .ok (.getfield 9, 3) := by decide +kernel
theorem dX7_last_8 : decode cX7_last 8 = .ok (.iconst 2, 1) := by decide +kernel
theorem dX7_last_9 : decode cX7_last 9 = .ok (.iaload, 1) := by decide +kernel
theorem dX7_last_10 : decode cX7_last 10 = .ok (.iload_n 1, 1) := by decide +kernel
theorem dX7_last_11 : decode cX7_last 11 = .ok (.invokestatic 134, 3) := by decide +kernel
theorem dX7_last_14 : decode cX7_last 14 = .ok (.iload_n 2, 1) := by decide +kernel
theorem dX7_last_15 : decode cX7_last 15 = .ok (.iadd, 1) := by decide +kernel
theorem dX7_last_16 : decode cX7_last 16 = .ok (.iaload, 1) := by decide +kernel
theorem dX7_last_17 : decode cX7_last 17 = .ok (.ireturn, 1) := by decide +kernel
theorem dX7_kindAt_0 : decode cX7_kindAt 0 = .ok (.aload_n 0, 1) := by decide +kernel
theorem dX7_kindAt_1 : decode cX7_kindAt 1 = .ok (.aload_n 0, 1) := by decide +kernel
theorem dX7_kindAt_2 : decode cX7_kindAt 2 = .ok (.iload_n 1, 1) := by decide +kernel
theorem dX7_kindAt_3 : decode cX7_kindAt 3 = .ok (.invokevirtual 343, 3) := by decide +kernel
theorem dX7_kindAt_6 : decode cX7_kindAt 6 = .ok (.ifCond .ne 12, 3) := by decide +kernel
theorem dX7_kindAt_9 : decode cX7_kindAt 9 = .ok (.aload_n 0, 1) := by decide +kernel
theorem dX7_kindAt_10 : decode cX7_kindAt 10 = .ok (.iload_n 2, 1) := by decide +kernel
theorem dX7_kindAt_11 : decode cX7_kindAt 11 = .ok (.iload_n 3, 1) := by decide +kernel
theorem dX7_kindAt_12 : decode cX7_kindAt 12 = .ok (.invokevirtual 346, 3) := by decide +kernel
theorem dX7_kindAt_15 : decode cX7_kindAt 15 = .ok (.ifCond .eq 7, 3) := by decide +kernel
theorem dX7_kindAt_18 : decode cX7_kindAt 18 = .ok (.iconst 1, 1) := by decide +kernel
theorem dX7_kindAt_19 : decode cX7_kindAt 19 = .ok (.goto 4, 3) := by decide +kernel
theorem dX7_kindAt_22 : decode cX7_kindAt 22 = .ok (.iconst 0, 1) := by decide +kernel
theorem dX7_kindAt_23 : decode cX7_kindAt 23 = .ok (.iconst 0, 1) := by decide +kernel
theorem dX7_kindAt_24 : decode cX7_kindAt 24 = .ok (.iconst 0, 1) := by decide +kernel
theorem dX7_kindAt_25 : decode cX7_kindAt 25 = .ok (.invokevirtual 186, 3) := by decide +kernel
theorem dX7_kindAt_28 : decode cX7_kindAt 28 = .ok (.ifCond .eq 5, 3) := by decide +kernel
theorem dX7_kindAt_31 : decode cX7_kindAt 31 = .ok (.iconst 0, 1) := by decide +kernel
theorem dX7_kindAt_32 : decode cX7_kindAt 32 = .ok (.ireturn, 1) := by decide +kernel
theorem dX7_kindAt_33 : decode cX7_kindAt 33 = .ok (.aload_n 0, 1) := by decide +kernel
theorem dX7_kindAt_34 : decode cX7_kindAt 34 = .ok (.iload_n 1, 1) := by decide +kernel
theorem dX7_kindAt_35 : decode cX7_kindAt 35 = .ok (.aload_n 0, 1) := by decide +kernel
theorem dX7_kindAt_36 : decode cX7_kindAt 36 = .ok (.iload_n 2, 1) := by decide +kernel
theorem dX7_kindAt_37 : decode cX7_kindAt 37 = .ok (.iload_n 3, 1) := by decide +kernel
theorem dX7_kindAt_38 : decode cX7_kindAt 38 = .ok (.invokevirtual 349, 3) := by decide +kernel
theorem dX7_kindAt_41 : decode cX7_kindAt 41 = .ok (.invokevirtual 352, 3) := by decide +kernel
theorem dX7_kindAt_44 : decode cX7_kindAt 44 = .ok (.istore 4, 2) := by decide +kernel
theorem dX7_kindAt_46 : decode cX7_kindAt 46 = .ok (.iload 4, 2) := by decide +kernel
theorem dX7_kindAt_48 : decode cX7_kindAt 48 = .ok (.ifCond .ne 7, 3) := by decide +kernel
theorem dX7_kindAt_51 : decode cX7_kindAt 51 = .ok (.iconst (-1), 1) := by decide +kernel
theorem dX7_kindAt_52 : decode cX7_kindAt 52 = .ok (.goto 8, 3) := by decide +kernel
theorem dX7_kindAt_55 : decode cX7_kindAt 55 = .ok (.iload 4, 2) := by decide +kernel
theorem dX7_kindAt_57 : decode cX7_kindAt 57 = .ok (.invokestatic 113, 3) := by decide +kernel
theorem dX7_kindAt_60 : decode cX7_kindAt 60 = .ok (.ireturn, 1) := by decide +kernel
theorem dX7_colourAt_0 : decode cX7_colourAt 0 = .ok (.aload_n 0, 1) := by decide +kernel
theorem dX7_colourAt_1 : decode cX7_colourAt 1 = .ok (.aload_n 0, 1) := by decide +kernel
theorem dX7_colourAt_2 : decode cX7_colourAt 2 = .ok (.iload_n 1, 1) := by decide +kernel
theorem dX7_colourAt_3 : decode cX7_colourAt 3 = .ok (.invokevirtual 343, 3) := by decide +kernel
theorem dX7_colourAt_6 : decode cX7_colourAt 6 = .ok (.ifCond .ne 12, 3) := by decide +kernel
theorem dX7_colourAt_9 : decode cX7_colourAt 9 = .ok (.aload_n 0, 1) := by decide +kernel
theorem dX7_colourAt_10 : decode cX7_colourAt 10 = .ok (.iload_n 2, 1) := by decide +kernel
theorem dX7_colourAt_11 : decode cX7_colourAt 11 = .ok (.iload_n 3, 1) := by decide +kernel
theorem dX7_colourAt_12 : decode cX7_colourAt 12 = .ok (.invokevirtual 346, 3) := by decide +kernel
theorem dX7_colourAt_15 : decode cX7_colourAt 15 = .ok (.ifCond .eq 7, 3) := by decide +kernel
theorem dX7_colourAt_18 : decode cX7_colourAt 18 = .ok (.iconst 1, 1) := by decide +kernel
theorem dX7_colourAt_19 : decode cX7_colourAt 19 = .ok (.goto 4, 3) := by decide +kernel
theorem dX7_colourAt_22 : decode cX7_colourAt 22 = .ok (.iconst 0, 1) := by decide +kernel
theorem dX7_colourAt_23 : decode cX7_colourAt 23 = .ok (.iconst 0, 1) := by decide +kernel
theorem dX7_colourAt_24 : decode cX7_colourAt 24 = .ok (.iconst 0, 1) := by decide +kernel
theorem dX7_colourAt_25 : decode cX7_colourAt 25 = .ok (.invokevirtual 186, 3) := by decide +kernel
theorem dX7_colourAt_28 : decode cX7_colourAt 28 = .ok (.ifCond .eq 5, 3) := by decide +kernel
theorem dX7_colourAt_31 : decode cX7_colourAt 31 = .ok (.iconst 0, 1) := by decide +kernel
theorem dX7_colourAt_32 : decode cX7_colourAt 32 = .ok (.ireturn, 1) := by decide +kernel
theorem dX7_colourAt_33 : decode cX7_colourAt 33 = .ok (.aload_n 0, 1) := by decide +kernel
theorem dX7_colourAt_34 : decode cX7_colourAt 34 = .ok (.iload_n 1, 1) := by decide +kernel
theorem dX7_colourAt_35 : decode cX7_colourAt 35 = .ok (.aload_n 0, 1) := by decide +kernel
theorem dX7_colourAt_36 : decode cX7_colourAt 36 = .ok (.iload_n 2, 1) := by decide +kernel
theorem dX7_colourAt_37 : decode cX7_colourAt 37 = .ok (.iload_n 3, 1) := by decide +kernel
theorem dX7_colourAt_38 : decode cX7_colourAt 38 = .ok (.invokevirtual 349, 3) := by decide +kernel
theorem dX7_colourAt_41 : decode cX7_colourAt 41 = .ok (.invokevirtual 352, 3) := by decide +kernel
theorem dX7_colourAt_44 : decode cX7_colourAt 44 = .ok (.istore 4, 2) := by decide +kernel
theorem dX7_colourAt_46 : decode cX7_colourAt 46 = .ok (.iload 4, 2) := by decide +kernel
theorem dX7_colourAt_48 : decode cX7_colourAt 48 = .ok (.ifCond .ne 7, 3) := by decide +kernel
theorem dX7_colourAt_51 : decode cX7_colourAt 51 = .ok (.iconst (-1), 1) := by decide +kernel
theorem dX7_colourAt_52 : decode cX7_colourAt 52 = .ok (.goto 8, 3) := by decide +kernel
theorem dX7_colourAt_55 : decode cX7_colourAt 55 = .ok (.iload 4, 2) := by decide +kernel
theorem dX7_colourAt_57 : decode cX7_colourAt 57 = .ok (.invokestatic 99, 3) := by decide +kernel
theorem dX7_colourAt_60 : decode cX7_colourAt 60 = .ok (.ireturn, 1) := by decide +kernel
theorem dX7_isAttacked_0 : decode cX7_isAttacked 0 = .ok (.aload_n 0, 1) := by decide +kernel
theorem dX7_isAttacked_1 : decode cX7_isAttacked 1 = .ok (.aload_n 0, 1) := by decide +kernel
theorem dX7_isAttacked_2 : decode cX7_isAttacked 2 = .ok (.iload_n 1, 1) := by decide +kernel
theorem dX7_isAttacked_3 : decode cX7_isAttacked 3 = .ok (.invokevirtual 343, 3) := by decide +kernel
theorem dX7_isAttacked_6 : decode cX7_isAttacked 6 = .ok (.ifCond .ne 12, 3) := by decide +kernel
theorem dX7_isAttacked_9 : decode cX7_isAttacked 9 = .ok (.aload_n 0, 1) := by decide +kernel
theorem dX7_isAttacked_10 : decode cX7_isAttacked 10 = .ok (.iload_n 2, 1) := by decide +kernel
theorem dX7_isAttacked_11 : decode cX7_isAttacked 11 = .ok (.iload_n 3, 1) := by decide +kernel
theorem dX7_isAttacked_12 : decode cX7_isAttacked 12 = .ok (.invokevirtual 346, 3) := by decide +kernel
theorem dX7_isAttacked_15 : decode cX7_isAttacked 15 = .ok (.ifCond .eq 7, 3) := by decide +kernel
theorem dX7_isAttacked_18 : decode cX7_isAttacked 18 = .ok (.iconst 1, 1) := by decide +kernel
theorem dX7_isAttacked_19 : decode cX7_isAttacked 19 = .ok (.goto 4, 3) := by decide +kernel
theorem dX7_isAttacked_22 : decode cX7_isAttacked 22 = .ok (.iconst 0, 1) := by decide +kernel
theorem dX7_isAttacked_23 : decode cX7_isAttacked 23 = .ok (.iload 4, 2) := by decide +kernel
theorem dX7_isAttacked_25 : decode cX7_isAttacked 25 = .ok (.iconst 0, 1) := by decide +kernel
theorem dX7_isAttacked_26 : decode cX7_isAttacked 26 = .ok (.iconst 1, 1) := by decide +kernel
theorem dX7_isAttacked_27 : decode cX7_isAttacked 27 = .ok (.invokestatic 182, 3) := by decide +kernel
theorem dX7_isAttacked_30 : decode cX7_isAttacked 30 = .ok (.ifCond .ne 7, 3) := by decide +kernel
theorem dX7_isAttacked_33 : decode cX7_isAttacked 33 = .ok (.iconst 1, 1) := by decide +kernel
theorem dX7_isAttacked_34 : decode cX7_isAttacked 34 = .ok (.goto 4, 3) := by decide +kernel
theorem dX7_isAttacked_37 : decode cX7_isAttacked 37 = .ok (.iconst 0, 1) := by decide +kernel
theorem dX7_isAttacked_38 : decode cX7_isAttacked 38 = .ok (.iconst 0, 1) := by decide +kernel
theorem dX7_isAttacked_39 : decode cX7_isAttacked 39 = .ok (.invokevirtual 186, 3) := by decide +kernel
theorem dX7_isAttacked_42 : decode cX7_isAttacked 42 = .ok (.ifCond .eq 5, 3) := by decide +kernel
theorem dX7_isAttacked_45 : decode cX7_isAttacked 45 = .ok (.iconst 0, 1) := by decide +kernel
theorem dX7_isAttacked_46 : decode cX7_isAttacked 46 = .ok (.ireturn, 1) := by decide +kernel
theorem dX7_isAttacked_47 : decode cX7_isAttacked 47 = .ok (.aload_n 0, 1) := by decide +kernel
theorem dX7_isAttacked_48 : decode cX7_isAttacked 48 = .ok (.aload_n 0, 1) := by decide +kernel
theorem dX7_isAttacked_49 : decode cX7_isAttacked 49 = .ok (.getfield 36, 3) := by decide +kernel
theorem dX7_isAttacked_52 : decode cX7_isAttacked 52 = .ok (.aload_n 0, 1) := by decide +kernel
theorem dX7_isAttacked_53 : decode cX7_isAttacked 53 = .ok (.getfield 9, 3) := by decide +kernel
theorem dX7_isAttacked_56 : decode cX7_isAttacked 56 = .ok (.iconst 2, 1) := by decide +kernel
theorem dX7_isAttacked_57 : decode cX7_isAttacked 57 = .ok (.iaload, 1) := by decide +kernel
theorem dX7_isAttacked_58 : decode cX7_isAttacked 58 = .ok (.iload_n 1, 1) := by decide +kernel
theorem dX7_isAttacked_59 : decode cX7_isAttacked 59 = .ok (.invokestatic 134, 3) := by decide +kernel
theorem dX7_isAttacked_62 : decode cX7_isAttacked 62 = .ok (.iload 4, 2) := by decide +kernel
theorem dX7_isAttacked_64 : decode cX7_isAttacked 64 = .ok (.aload_n 0, 1) := by decide +kernel
theorem dX7_isAttacked_65 : decode cX7_isAttacked 65 = .ok (.iload_n 2, 1) := by decide +kernel
theorem dX7_isAttacked_66 : decode cX7_isAttacked 66 = .ok (.iload_n 3, 1) := by decide +kernel
theorem dX7_isAttacked_67 : decode cX7_isAttacked 67 = .ok (.invokevirtual 349, 3) := by decide +kernel
theorem dX7_isAttacked_70 : decode cX7_isAttacked 70 = .ok (.invokevirtual 141, 3) := by decide +kernel
theorem dX7_isAttacked_73 : decode cX7_isAttacked 73 = .ok (.ireturn, 1) := by decide +kernel
theorem dX7_legalMoves_0 : decode cX7_legalMoves 0 = .ok (.aload_n 0, 1) := by decide +kernel
theorem dX7_legalMoves_1 : decode cX7_legalMoves 1 = .ok (.aload_n 0, 1) := by decide +kernel
theorem dX7_legalMoves_2 : decode cX7_legalMoves 2 = .ok (.iload_n 1, 1) := by decide +kernel
theorem dX7_legalMoves_3 : decode cX7_legalMoves 3 = .ok (.invokevirtual 343, 3) := by decide +kernel
theorem dX7_legalMoves_6 : decode cX7_legalMoves 6 = .ok (.iconst 0, 1) := by decide +kernel
theorem dX7_legalMoves_7 : decode cX7_legalMoves 7 = .ok (.iconst 0, 1) := by decide +kernel
theorem dX7_legalMoves_8 : decode cX7_legalMoves 8 = .ok (.invokevirtual 186, 3) := by decide +kernel
theorem dX7_legalMoves_11 : decode cX7_legalMoves 11 = .ok (.ifCond .eq 5, 3) := by decide +kernel
theorem dX7_legalMoves_14 : decode cX7_legalMoves 14 = .ok (.iconst 0, 1) := by decide +kernel
theorem dX7_legalMoves_15 : decode cX7_legalMoves 15 = .ok (.ireturn, 1) := by decide +kernel
theorem dX7_legalMoves_16 : decode cX7_legalMoves 16 = .ok (.iconst 0, 1) := by decide +kernel
theorem dX7_legalMoves_17 : decode cX7_legalMoves 17 = .ok (.istore_n 2, 1) := by decide +kernel
theorem dX7_legalMoves_18 : decode cX7_legalMoves 18 = .ok (.iconst 0, 1) := by decide +kernel
theorem dX7_legalMoves_19 : decode cX7_legalMoves 19 = .ok (.istore_n 3, 1) := by decide +kernel
theorem dX7_legalMoves_20 : decode cX7_legalMoves 20 = .ok (.iload_n 3, 1) := by decide +kernel
theorem dX7_legalMoves_21 : decode cX7_legalMoves 21 = .ok (.aload_n 0, 1) := by decide +kernel
theorem dX7_legalMoves_22 : decode cX7_legalMoves 22 = .ok (.invokevirtual 120, 3) := by decide +kernel
theorem dX7_legalMoves_25 : decode cX7_legalMoves 25 = .ok (.aload_n 0, 1) := by decide +kernel
theorem dX7_legalMoves_26 : decode cX7_legalMoves 26 = .ok (.invokevirtual 120, 3) := by decide +kernel
theorem dX7_legalMoves_29 : decode cX7_legalMoves 29 = .ok (.imul, 1) := by decide +kernel
theorem dX7_legalMoves_30 : decode cX7_legalMoves 30 = .ok (.if_icmp .ge 46, 3) := by decide +kernel
theorem dX7_legalMoves_33 : decode cX7_legalMoves 33 = .ok (.aload_n 0, 1) := by decide +kernel
theorem dX7_legalMoves_34 : decode cX7_legalMoves 34 = .ok (.aload_n 0, 1) := by decide +kernel
theorem dX7_legalMoves_35 : decode cX7_legalMoves 35 = .ok (.getfield 9, 3) := by decide +kernel
theorem dX7_legalMoves_38 : decode cX7_legalMoves 38 = .ok (.iconst 2, 1) := by decide +kernel
theorem dX7_legalMoves_39 : decode cX7_legalMoves 39 = .ok (.iaload, 1) := by decide +kernel
theorem dX7_legalMoves_40 : decode cX7_legalMoves 40 = .ok (.iload_n 1, 1) := by decide +kernel
theorem dX7_legalMoves_41 : decode cX7_legalMoves 41 = .ok (.iload_n 3, 1) := by decide +kernel
theorem dX7_legalMoves_42 : decode cX7_legalMoves 42 = .ok (.aload_n 0, 1) := by decide +kernel
theorem dX7_legalMoves_43 : decode cX7_legalMoves 43 = .ok (.invokevirtual 120, 3) := by decide +kernel
theorem dX7_legalMoves_46 : decode cX7_legalMoves 46 = .ok (.idiv, 1) := by decide +kernel
theorem dX7_legalMoves_47 : decode cX7_legalMoves 47 = .ok (.iload_n 3, 1) := by decide +kernel
theorem dX7_legalMoves_48 : decode cX7_legalMoves 48 = .ok (.aload_n 0, 1) := by decide +kernel
theorem dX7_legalMoves_49 : decode cX7_legalMoves 49 = .ok (.invokevirtual 120, 3) := by decide +kernel
theorem dX7_legalMoves_52 : decode cX7_legalMoves 52 = .ok (.irem, 1) := by decide +kernel
theorem dX7_legalMoves_53 : decode cX7_legalMoves 53 = .ok (.aload_n 0, 1) := by decide +kernel
theorem dX7_legalMoves_54 : decode cX7_legalMoves 54 = .ok (.getfield 9, 3) := by decide +kernel
theorem dX7_legalMoves_57 : decode cX7_legalMoves 57 = .ok (.iconst 2, 1) := by decide +kernel
theorem dX7_legalMoves_58 : decode cX7_legalMoves 58 = .ok (.iaload, 1) := by decide +kernel
theorem dX7_legalMoves_59 : decode cX7_legalMoves 59 = .ok (.iconst 2, 1) := by decide +kernel
theorem dX7_legalMoves_60 : decode cX7_legalMoves 60 = .ok (.irem, 1) := by decide +kernel
theorem dX7_legalMoves_61 : decode cX7_legalMoves 61 = .ok (.invokevirtual 150, 3) := by decide +kernel
theorem dX7_legalMoves_64 : decode cX7_legalMoves 64 = .ok (.ifCond .eq 6, 3) := by decide +kernel
theorem dX7_legalMoves_67 : decode cX7_legalMoves 67 = .ok (.iinc 2 1, 3) := by decide +kernel
theorem dX7_legalMoves_70 : decode cX7_legalMoves 70 = .ok (.iinc 3 1, 3) := by decide +kernel
theorem dX7_legalMoves_73 : decode cX7_legalMoves 73 = .ok (.goto (-53), 3) := by decide +kernel
theorem dX7_legalMoves_76 : decode cX7_legalMoves 76 = .ok (.iload_n 2, 1) := by decide +kernel
theorem dX7_legalMoves_77 : decode cX7_legalMoves 77 = .ok (.ireturn, 1) := by decide +kernel
theorem dX7_gamesTo_0 : decode cX7_gamesTo 0 = .ok (.aload_n 0, 1) := by decide +kernel
theorem dX7_gamesTo_1 : decode cX7_gamesTo 1 = .ok (.aload_n 0, 1) := by decide +kernel
theorem dX7_gamesTo_2 : decode cX7_gamesTo 2 = .ok (.iload_n 1, 1) := by decide +kernel
theorem dX7_gamesTo_3 : decode cX7_gamesTo 3 = .ok (.invokevirtual 343, 3) := by decide +kernel
theorem dX7_gamesTo_6 : decode cX7_gamesTo 6 = .ok (.iconst 0, 1) := by decide +kernel
theorem dX7_gamesTo_7 : decode cX7_gamesTo 7 = .ok (.iconst 0, 1) := by decide +kernel
theorem dX7_gamesTo_8 : decode cX7_gamesTo 8 = .ok (.invokevirtual 186, 3) := by decide +kernel
theorem dX7_gamesTo_11 : decode cX7_gamesTo 11 = .ok (.ifCond .eq 7, 3) := by decide +kernel
theorem dX7_gamesTo_14 : decode cX7_gamesTo 14 = .ok (.lconst 0, 1) := by decide +kernel
theorem dX7_gamesTo_15 : decode cX7_gamesTo 15 = .ok (.goto 19, 3) := by decide +kernel
theorem dX7_gamesTo_18 : decode cX7_gamesTo 18 = .ok (.aload_n 0, 1) := by decide +kernel
theorem dX7_gamesTo_19 : decode cX7_gamesTo 19 = .ok (.getfield 51, 3) := by decide +kernel
theorem dX7_gamesTo_22 : decode cX7_gamesTo 22 = .ok (.aload_n 0, 1) := by decide +kernel
theorem dX7_gamesTo_23 : decode cX7_gamesTo 23 = .ok (.getfield 9, 3) := by decide +kernel
theorem dX7_gamesTo_26 : decode cX7_gamesTo 26 = .ok (.iconst 2, 1) := by decide +kernel
theorem dX7_gamesTo_27 : decode cX7_gamesTo 27 = .ok (.iaload, 1) := by decide +kernel
theorem dX7_gamesTo_28 : decode cX7_gamesTo 28 = .ok (.bipush 40, 2) := by decide +kernel
theorem dX7_gamesTo_30 : decode cX7_gamesTo 30 = .ok (.imul, 1) := by decide +kernel
theorem dX7_gamesTo_31 : decode cX7_gamesTo 31 = .ok (.iload_n 1, 1) := by decide +kernel
theorem dX7_gamesTo_32 : decode cX7_gamesTo 32 = .ok (.iadd, 1) := by decide +kernel
theorem dX7_gamesTo_33 : decode cX7_gamesTo 33 = .ok (.laload, 1) := by decide +kernel
theorem dX7_gamesTo_34 : decode cX7_gamesTo 34 = .ok (.lreturn, 1) := by decide +kernel
theorem dX7_isSame_0 : decode cX7_isSame 0 = .ok (.iconst 1, 1) := by decide +kernel
theorem dX7_isSame_1 : decode cX7_isSame 1 = .ok (.istore_n 2, 1) := by decide +kernel
theorem dX7_isSame_2 : decode cX7_isSame 2 = .ok (.iload_n 2, 1) := by decide +kernel
theorem dX7_isSame_3 : decode cX7_isSame 3 = .ok (.aload_n 0, 1) := by decide +kernel
theorem dX7_isSame_4 : decode cX7_isSame 4 = .ok (.getfield 39, 3) := by decide +kernel
theorem dX7_isSame_7 : decode cX7_isSame 7 = .ok (.aload_n 0, 1) := by decide +kernel
theorem dX7_isSame_8 : decode cX7_isSame 8 = .ok (.getfield 9, 3) := by decide +kernel
theorem dX7_isSame_11 : decode cX7_isSame 11 = .ok (.iconst 2, 1) := by decide +kernel
theorem dX7_isSame_12 : decode cX7_isSame 12 = .ok (.iaload, 1) := by decide +kernel
theorem dX7_isSame_13 : decode cX7_isSame 13 = .ok (.iaload, 1) := by decide +kernel
theorem dX7_isSame_14 : decode cX7_isSame 14 = .ok (.if_icmp .ge 26, 3) := by decide +kernel
theorem dX7_isSame_17 : decode cX7_isSame 17 = .ok (.aload_n 0, 1) := by decide +kernel
theorem dX7_isSame_18 : decode cX7_isSame 18 = .ok (.iload_n 2, 1) := by decide +kernel
theorem dX7_isSame_19 : decode cX7_isSame 19 = .ok (.iload_n 1, 1) := by decide +kernel
theorem dX7_isSame_20 : decode cX7_isSame 20 = .ok (.invokevirtual 352, 3) := by decide +kernel
theorem dX7_isSame_23 : decode cX7_isSame 23 = .ok (.aload_n 0, 1) := by decide +kernel
theorem dX7_isSame_24 : decode cX7_isSame 24 = .ok (.iconst 0, 1) := by decide +kernel
theorem dX7_isSame_25 : decode cX7_isSame 25 = .ok (.iload_n 1, 1) := by decide +kernel
theorem dX7_isSame_26 : decode cX7_isSame 26 = .ok (.invokevirtual 352, 3) := by decide +kernel
theorem dX7_isSame_29 : decode cX7_isSame 29 = .ok (.if_icmp .eq 5, 3) := by decide +kernel
theorem dX7_isSame_32 : decode cX7_isSame 32 = .ok (.iconst 0, 1) := by decide +kernel
theorem dX7_isSame_33 : decode cX7_isSame 33 = .ok (.ireturn, 1) := by decide +kernel
theorem dX7_isSame_34 : decode cX7_isSame 34 = .ok (.iinc 2 1, 3) := by decide +kernel
theorem dX7_isSame_37 : decode cX7_isSame 37 = .ok (.goto (-35), 3) := by decide +kernel
theorem dX7_isSame_40 : decode cX7_isSame 40 = .ok (.iconst 1, 1) := by decide +kernel
theorem dX7_isSame_41 : decode cX7_isSame 41 = .ok (.ireturn, 1) := by decide +kernel
theorem dX7_same_0 : decode cX7_same 0 = .ok (.iconst 0, 1) := by decide +kernel
theorem dX7_same_1 : decode cX7_same 1 = .ok (.istore_n 1, 1) := by decide +kernel
theorem dX7_same_2 : decode cX7_same 2 = .ok (.iconst 0, 1) := by decide +kernel
theorem dX7_same_3 : decode cX7_same 3 = .ok (.istore_n 2, 1) := by decide +kernel
theorem dX7_same_4 : decode cX7_same 4 = .ok (.iload_n 2, 1) := by decide +kernel
theorem dX7_same_5 : decode cX7_same 5 = .ok (.aload_n 0, 1) := by decide +kernel
theorem dX7_same_6 : decode cX7_same 6 = .ok (.invokevirtual 120, 3) := by decide +kernel
theorem dX7_same_9 : decode cX7_same 9 = .ok (.if_icmp .ge 20, 3) := by decide +kernel
theorem dX7_same_12 : decode cX7_same 12 = .ok (.aload_n 0, 1) := by decide +kernel
theorem dX7_same_13 : decode cX7_same 13 = .ok (.iload_n 2, 1) := by decide +kernel
theorem dX7_same_14 : decode cX7_same 14 = .ok (.invokevirtual 355, 3) := by decide +kernel
theorem dX7_same_17 : decode cX7_same 17 = .ok (.ifCond .eq 6, 3) := by decide +kernel
theorem dX7_same_20 : decode cX7_same 20 = .ok (.iinc 1 1, 3) := by decide +kernel
theorem dX7_same_23 : decode cX7_same 23 = .ok (.iinc 2 1, 3) := by decide +kernel
theorem dX7_same_26 : decode cX7_same 26 = .ok (.goto (-22), 3) := by decide +kernel
theorem dX7_same_29 : decode cX7_same 29 = .ok (.iload_n 1, 1) := by decide +kernel
theorem dX7_same_30 : decode cX7_same 30 = .ok (.ireturn, 1) := by decide +kernel
theorem dX7_certainSquares_0 : decode cX7_certainSquares 0 = .ok (.aload_n 0, 1) := by decide +kernel
theorem dX7_certainSquares_1 : decode cX7_certainSquares 1 = .ok (.aload_n 0, 1) := by decide +kernel
theorem dX7_certainSquares_2 : decode cX7_certainSquares 2 = .ok (.invokevirtual 358, 3) := by decide +kernel
theorem dX7_certainSquares_5 : decode cX7_certainSquares 5 = .ok (.invokevirtual 327, 3) := by decide +kernel
theorem dX7_certainSquares_8 : decode cX7_certainSquares 8 = .ok (.ireturn, 1) := by decide +kernel
theorem dX7_gameCount_0 : decode cX7_gameCount 0 = .ok (.aload_n 0, 1) := by decide +kernel
theorem dX7_gameCount_1 : decode cX7_gameCount 1 = .ok (.iconst 0, 1) := by decide +kernel
theorem dX7_gameCount_2 : decode cX7_gameCount 2 = .ok (.putfield 86, 3) := by decide +kernel
theorem dX7_gameCount_5 : decode cX7_gameCount 5 = .ok (.aload_n 0, 1) := by decide +kernel
theorem dX7_gameCount_6 : decode cX7_gameCount 6 = .ok (.invokevirtual 361, 3) := by decide +kernel
theorem dX7_gameCount_9 : decode cX7_gameCount 9 = .ok (.lreturn, 1) := by decide +kernel
theorem dX7_isCertain_0 : decode cX7_isCertain 0 = .ok (.aload_n 0, 1) := by decide +kernel
theorem dX7_isCertain_1 : decode cX7_isCertain 1 = .ok (.iconst 0, 1) := by decide +kernel
theorem dX7_isCertain_2 : decode cX7_isCertain 2 = .ok (.putfield 86, 3) := by decide +kernel
theorem dX7_isCertain_5 : decode cX7_isCertain 5 = .ok (.aload_n 0, 1) := by decide +kernel
theorem dX7_isCertain_6 : decode cX7_isCertain 6 = .ok (.invokevirtual 361, 3) := by decide +kernel
theorem dX7_isCertain_9 : decode cX7_isCertain 9 = .ok (.lconst 1, 1) := by decide +kernel
theorem dX7_isCertain_10 : decode cX7_isCertain 10 = .ok (.lcmp, 1) := by decide +kernel
theorem dX7_isCertain_11 : decode cX7_isCertain 11 = .ok (.ifCond .ne 7, 3) := by decide +kernel
theorem dX7_isCertain_14 : decode cX7_isCertain 14 = .ok (.iconst 1, 1) := by decide +kernel
theorem dX7_isCertain_15 : decode cX7_isCertain 15 = .ok (.goto 4, 3) := by decide +kernel
theorem dX7_isCertain_18 : decode cX7_isCertain 18 = .ok (.iconst 0, 1) := by decide +kernel
theorem dX7_isCertain_19 : decode cX7_isCertain 19 = .ok (.ireturn, 1) := by decide +kernel
theorem dX7_over_0 : decode cX7_over 0 = .ok (.aload_n 0, 1) := by decide +kernel
theorem dX7_over_1 : decode cX7_over 1 = .ok (.getfield 51, 3) := by decide +kernel
theorem dX7_over_4 : decode cX7_over 4 = .ok (.iload_n 1, 1) := by decide +kernel
theorem dX7_over_5 : decode cX7_over 5 = .ok (.bipush 40, 2) := by decide +kernel
theorem dX7_over_7 : decode cX7_over 7 = .ok (.imul, 1) := by decide +kernel
theorem dX7_over_8 : decode cX7_over 8 = .ok (.iload_n 2, 1) := by decide +kernel
theorem dX7_over_9 : decode cX7_over 9 = .ok (.invokestatic 161, 3) := by decide +kernel
theorem dX7_over_12 : decode cX7_over 12 = .ok (.iadd, 1) := by decide +kernel
theorem dX7_over_13 : decode cX7_over 13 = .ok (.laload, 1) := by decide +kernel
theorem dX7_over_14 : decode cX7_over 14 = .ok (.aload_n 0, 1) := by decide +kernel
theorem dX7_over_15 : decode cX7_over 15 = .ok (.getfield 55, 3) := by decide +kernel
theorem dX7_over_18 : decode cX7_over 18 = .ok (.iload_n 1, 1) := by decide +kernel
theorem dX7_over_19 : decode cX7_over 19 = .ok (.iconst 1, 1) := by decide +kernel
theorem dX7_over_20 : decode cX7_over 20 = .ok (.iadd, 1) := by decide +kernel
theorem dX7_over_21 : decode cX7_over 21 = .ok (.bipush 40, 2) := by decide +kernel
theorem dX7_over_23 : decode cX7_over 23 = .ok (.imul, 1) := by decide +kernel
theorem dX7_over_24 : decode cX7_over 24 = .ok (.iload_n 2, 1) := by decide +kernel
theorem dX7_over_25 : decode cX7_over 25 = .ok (.invokestatic 164, 3) := by decide +kernel
theorem dX7_over_28 : decode cX7_over 28 = .ok (.iadd, 1) := by decide +kernel
theorem dX7_over_29 : decode cX7_over 29 = .ok (.laload, 1) := by decide +kernel
theorem dX7_over_30 : decode cX7_over 30 = .ok (.lmul, 1) := by decide +kernel
theorem dX7_over_31 : decode cX7_over 31 = .ok (.lreturn, 1) := by decide +kernel
theorem dX7_marks_0 : decode cX7_marks 0 = .ok (.iconst 0, 1) := by decide +kernel
theorem dX7_marks_1 : decode cX7_marks 1 = .ok (.istore_n 2, 1) := by decide +kernel
theorem dX7_marks_2 : decode cX7_marks 2 = .ok (.iload_n 2, 1) := by decide +kernel
theorem dX7_marks_3 : decode cX7_marks 3 = .ok (.sipush 1296, 3) := by decide +kernel
theorem dX7_marks_6 : decode cX7_marks 6 = .ok (.if_icmp .ge 16, 3) := by decide +kernel
theorem dX7_marks_9 : decode cX7_marks 9 = .ok (.aload_n 0, 1) := by decide +kernel
theorem dX7_marks_10 : decode cX7_marks 10 = .ok (.getfield 58, 3) := by decide +kernel
theorem dX7_marks_13 : decode cX7_marks 13 = .ok (.iload_n 2, 1) := by decide +kernel
theorem dX7_marks_14 : decode cX7_marks 14 = .ok (.iconst 0, 1) := by decide +kernel
theorem dX7_marks_15 : decode cX7_marks 15 = .ok (.bastore, 1) := by decide +kernel
theorem dX7_marks_16 : decode cX7_marks 16 = .ok (.iinc 2 1, 3) := by decide +kernel
theorem dX7_marks_19 : decode cX7_marks 19 = .ok (.goto (-17), 3) := by decide +kernel
theorem dX7_marks_22 : decode cX7_marks 22 = .ok (.iconst 0, 1) := by decide +kernel
theorem dX7_marks_23 : decode cX7_marks 23 = .ok (.istore_n 2, 1) := by decide +kernel
theorem dX7_marks_24 : decode cX7_marks 24 = .ok (.iconst 0, 1) := by decide +kernel
theorem dX7_marks_25 : decode cX7_marks 25 = .ok (.istore_n 3, 1) := by decide +kernel
theorem dX7_marks_26 : decode cX7_marks 26 = .ok (.iload_n 3, 1) := by decide +kernel
theorem dX7_marks_27 : decode cX7_marks 27 = .ok (.aload_n 0, 1) := by decide +kernel
theorem dX7_marks_28 : decode cX7_marks 28 = .ok (.getfield 45, 3) := by decide +kernel
theorem dX7_marks_31 : decode cX7_marks 31 = .ok (.iload_n 1, 1) := by decide +kernel
theorem dX7_marks_32 : decode cX7_marks 32 = .ok (.iaload, 1) := by decide +kernel
theorem dX7_marks_33 : decode cX7_marks 33 = .ok (.if_icmp .ge 75, 3) := by decide +kernel
theorem dX7_marks_36 : decode cX7_marks 36 = .ok (.aload_n 0, 1) := by decide +kernel
theorem dX7_marks_37 : decode cX7_marks 37 = .ok (.getfield 42, 3) := by decide +kernel
theorem dX7_marks_40 : decode cX7_marks 40 = .ok (.iload_n 1, 1) := by decide +kernel
theorem dX7_marks_41 : decode cX7_marks 41 = .ok (.sipush 1600, 3) := by decide +kernel
theorem dX7_marks_44 : decode cX7_marks 44 = .ok (.imul, 1) := by decide +kernel
theorem dX7_marks_45 : decode cX7_marks 45 = .ok (.iload_n 3, 1) := by decide +kernel
theorem dX7_marks_46 : decode cX7_marks 46 = .ok (.iadd, 1) := by decide +kernel
theorem dX7_marks_47 : decode cX7_marks 47 = .ok (.iaload, 1) := by decide +kernel
theorem dX7_marks_48 : decode cX7_marks 48 = .ok (.istore 4, 2) := by decide +kernel
theorem dX7_marks_50 : decode cX7_marks 50 = .ok (.iload 4, 2) := by decide +kernel
theorem dX7_marks_52 : decode cX7_marks 52 = .ok (.invokestatic 365, 3) := by decide +kernel
theorem dX7_marks_55 : decode cX7_marks 55 = .ok (.bipush 36, 2) := by decide +kernel
theorem dX7_marks_57 : decode cX7_marks 57 = .ok (.imul, 1) := by decide +kernel
theorem dX7_marks_58 : decode cX7_marks 58 = .ok (.iload 4, 2) := by decide +kernel
theorem dX7_marks_60 : decode cX7_marks 60 = .ok (.invokestatic 368, 3) := by decide +kernel
theorem dX7_marks_63 : decode cX7_marks 63 = .ok (.iadd, 1) := by decide +kernel
theorem dX7_marks_64 : decode cX7_marks 64 = .ok (.istore 5, 2) := by decide +kernel
theorem dX7_marks_66 : decode cX7_marks 66 = .ok (.aload_n 0, 1) := by decide +kernel
theorem dX7_marks_67 : decode cX7_marks 67 = .ok (.iload_n 1, 1) := by decide +kernel
theorem dX7_marks_68 : decode cX7_marks 68 = .ok (.iload 4, 2) := by decide +kernel
theorem dX7_marks_70 : decode cX7_marks 70 = .ok (.invokevirtual 371, 3) := by decide +kernel
theorem dX7_marks_73 : decode cX7_marks 73 = .ok (.lconst 0, 1) := by decide +kernel
theorem dX7_marks_74 : decode cX7_marks 74 = .ok (.lcmp, 1) := by decide +kernel
theorem dX7_marks_75 : decode cX7_marks 75 = .ok (.ifCond .eq 27, 3) := by decide +kernel
theorem dX7_marks_78 : decode cX7_marks 78 = .ok (.aload_n 0, 1) := by decide +kernel
theorem dX7_marks_79 : decode cX7_marks 79 = .ok (.getfield 58, 3) := by decide +kernel
theorem dX7_marks_82 : decode cX7_marks 82 = .ok (.iload 5, 2) := by decide +kernel
theorem dX7_marks_84 : decode cX7_marks 84 = .ok (.baload, 1) := by decide +kernel
theorem dX7_marks_85 : decode cX7_marks 85 = .ok (.ifCond .eq 6, 3) := by decide +kernel
theorem dX7_marks_88 : decode cX7_marks 88 = .ok (.goto 14, 3) := by decide +kernel
theorem dX7_marks_91 : decode cX7_marks 91 = .ok (.aload_n 0, 1) := by decide +kernel
theorem dX7_marks_92 : decode cX7_marks 92 = .ok (.getfield 58, 3) := by decide +kernel
theorem dX7_marks_95 : decode cX7_marks 95 = .ok (.iload 5, 2) := by decide +kernel
theorem dX7_marks_97 : decode cX7_marks 97 = .ok (.iconst 1, 1) := by decide +kernel
theorem dX7_marks_98 : decode cX7_marks 98 = .ok (.bastore, 1) := by decide +kernel
theorem dX7_marks_99 : decode cX7_marks 99 = .ok (.iinc 2 1, 3) := by decide +kernel
theorem dX7_marks_102 : decode cX7_marks 102 = .ok (.iinc 3 1, 3) := by decide +kernel
theorem dX7_marks_105 : decode cX7_marks 105 = .ok (.goto (-79), 3) := by decide +kernel
theorem dX7_marks_108 : decode cX7_marks 108 = .ok (.iload_n 2, 1) := by decide +kernel
theorem dX7_marks_109 : decode cX7_marks 109 = .ok (.ireturn, 1) := by decide +kernel
theorem dX7_doubt_0 : decode cX7_doubt 0 = .ok (.aload_n 0, 1) := by decide +kernel
theorem dX7_doubt_1 : decode cX7_doubt 1 = .ok (.aload_n 0, 1) := by decide +kernel
theorem dX7_doubt_2 : decode cX7_doubt 2 = .ok (.iload_n 1, 1) := by decide +kernel
theorem dX7_doubt_3 : decode cX7_doubt 3 = .ok (.invokevirtual 337, 3) := by decide +kernel
theorem dX7_doubt_6 : decode cX7_doubt 6 = .ok (.iconst 0, 1) := by decide +kernel
theorem dX7_doubt_7 : decode cX7_doubt 7 = .ok (.iconst 0, 1) := by decide +kernel
theorem dX7_doubt_8 : decode cX7_doubt 8 = .ok (.invokevirtual 186, 3) := by decide +kernel
theorem dX7_doubt_11 : decode cX7_doubt 11 = .ok (.ifCond .eq 7, 3) := by decide +kernel
theorem dX7_doubt_14 : decode cX7_doubt 14 = .ok (.iconst 0, 1) := by decide +kernel
theorem dX7_doubt_15 : decode cX7_doubt 15 = .ok (.goto 8, 3) := by decide +kernel
theorem dX7_doubt_18 : decode cX7_doubt 18 = .ok (.aload_n 0, 1) := by decide +kernel
theorem dX7_doubt_19 : decode cX7_doubt 19 = .ok (.iload_n 1, 1) := by decide +kernel
theorem dX7_doubt_20 : decode cX7_doubt 20 = .ok (.invokevirtual 375, 3) := by decide +kernel
theorem dX7_doubt_23 : decode cX7_doubt 23 = .ok (.ireturn, 1) := by decide +kernel
theorem dX7_move_0 : decode cX7_move 0 = .ok (.iload_n 2, 1) := by decide +kernel
theorem dX7_move_1 : decode cX7_move 1 = .ok (.iconst 0, 1) := by decide +kernel
theorem dX7_move_2 : decode cX7_move 2 = .ok (.aload_n 0, 1) := by decide +kernel
theorem dX7_move_3 : decode cX7_move 3 = .ok (.iload_n 1, 1) := by decide +kernel
theorem dX7_move_4 : decode cX7_move 4 = .ok (.invokevirtual 375, 3) := by decide +kernel
theorem dX7_move_7 : decode cX7_move 7 = .ok (.iconst 1, 1) := by decide +kernel
theorem dX7_move_8 : decode cX7_move 8 = .ok (.isub, 1) := by decide +kernel
theorem dX7_move_9 : decode cX7_move 9 = .ok (.invokestatic 182, 3) := by decide +kernel
theorem dX7_move_12 : decode cX7_move 12 = .ok (.ifCond .ne 5, 3) := by decide +kernel
theorem dX7_move_15 : decode cX7_move 15 = .ok (.iconst (-1), 1) := by decide +kernel
theorem dX7_move_16 : decode cX7_move 16 = .ok (.ireturn, 1) := by decide +kernel
theorem dX7_move_17 : decode cX7_move 17 = .ok (.iload_n 2, 1) := by decide +kernel
theorem dX7_move_18 : decode cX7_move 18 = .ok (.istore_n 3, 1) := by decide +kernel
theorem dX7_move_19 : decode cX7_move 19 = .ok (.iconst 0, 1) := by decide +kernel
theorem dX7_move_20 : decode cX7_move 20 = .ok (.istore 4, 2) := by decide +kernel
theorem dX7_move_22 : decode cX7_move 22 = .ok (.aload_n 0, 1) := by decide +kernel
theorem dX7_move_23 : decode cX7_move 23 = .ok (.getfield 58, 3) := by decide +kernel
theorem dX7_move_26 : decode cX7_move 26 = .ok (.iload 4, 2) := by decide +kernel
theorem dX7_move_28 : decode cX7_move 28 = .ok (.baload, 1) := by decide +kernel
theorem dX7_move_29 : decode cX7_move 29 = .ok (.ifCond .eq 7, 3) := by decide +kernel
theorem dX7_move_32 : decode cX7_move 32 = .ok (.iload_n 3, 1) := by decide +kernel
theorem dX7_move_33 : decode cX7_move 33 = .ok (.ifCond .le 22, 3) := by decide +kernel
theorem dX7_move_36 : decode cX7_move 36 = .ok (.aload_n 0, 1) := by decide +kernel
theorem dX7_move_37 : decode cX7_move 37 = .ok (.getfield 58, 3) := by decide +kernel
theorem dX7_move_40 : decode cX7_move 40 = .ok (.iload 4, 2) := by decide +kernel
theorem dX7_move_42 : decode cX7_move 42 = .ok (.baload, 1) := by decide +kernel
theorem dX7_move_43 : decode cX7_move 43 = .ok (.ifCond .eq 6, 3) := by decide +kernel
theorem dX7_move_46 : decode cX7_move 46 = .ok (.iinc 3 (-1), 3) := by decide +kernel
theorem dX7_move_49 : decode cX7_move 49 = .ok (.iinc 4 1, 3) := by decide +kernel
theorem dX7_move_52 : decode cX7_move 52 = .ok (.goto (-30), 3) := by decide +kernel
theorem dX7_move_55 : decode cX7_move 55 = .ok (.iload 4, 2) := by decide +kernel
theorem dX7_move_57 : decode cX7_move 57 = .ok (.ireturn, 1) := by decide +kernel
theorem dX7_noMove_0 : decode cX7_noMove 0 = .ok (.aload_n 0, 1) := by decide +kernel
theorem dX7_noMove_1 : decode cX7_noMove 1 = .ok (.aload_n 0, 1) := by decide +kernel
theorem dX7_noMove_2 : decode cX7_noMove 2 = .ok (.iload_n 1, 1) := by decide +kernel
theorem dX7_noMove_3 : decode cX7_noMove 3 = .ok (.invokevirtual 337, 3) := by decide +kernel
theorem dX7_noMove_6 : decode cX7_noMove 6 = .ok (.ifCond .ne 13, 3) := by decide +kernel
theorem dX7_noMove_9 : decode cX7_noMove 9 = .ok (.aload_n 0, 1) := by decide +kernel
theorem dX7_noMove_10 : decode cX7_noMove 10 = .ok (.iload_n 1, 1) := by decide +kernel
theorem dX7_noMove_11 : decode cX7_noMove 11 = .ok (.iload_n 2, 1) := by decide +kernel
theorem dX7_noMove_12 : decode cX7_noMove 12 = .ok (.invokevirtual 378, 3) := by decide +kernel
theorem dX7_noMove_15 : decode cX7_noMove 15 = .ok (.iconst (-1), 1) := by decide +kernel
theorem dX7_noMove_16 : decode cX7_noMove 16 = .ok (.if_icmp .ne 7, 3) := by decide +kernel
theorem dX7_noMove_19 : decode cX7_noMove 19 = .ok (.iconst 1, 1) := by decide +kernel
theorem dX7_noMove_20 : decode cX7_noMove 20 = .ok (.goto 4, 3) := by decide +kernel
theorem dX7_noMove_23 : decode cX7_noMove 23 = .ok (.iconst 0, 1) := by decide +kernel
theorem dX7_noMove_24 : decode cX7_noMove 24 = .ok (.iconst 0, 1) := by decide +kernel
theorem dX7_noMove_25 : decode cX7_noMove 25 = .ok (.iconst 0, 1) := by decide +kernel
theorem dX7_noMove_26 : decode cX7_noMove 26 = .ok (.invokevirtual 186, 3) := by decide +kernel
theorem dX7_noMove_29 : decode cX7_noMove 29 = .ok (.ireturn, 1) := by decide +kernel
theorem dX7_moveOrigin_0 : decode cX7_moveOrigin 0 = .ok (.aload_n 0, 1) := by decide +kernel
theorem dX7_moveOrigin_1 : decode cX7_moveOrigin 1 = .ok (.iload_n 1, 1) := by decide +kernel
theorem dX7_moveOrigin_2 : decode cX7_moveOrigin 2 = .ok (.iload_n 2, 1) := by decide +kernel
theorem dX7_moveOrigin_3 : decode cX7_moveOrigin 3 = .ok (.invokevirtual 381, 3) := by decide +kernel
theorem dX7_moveOrigin_6 : decode cX7_moveOrigin 6 = .ok (.ifCond .eq 7, 3) := by decide +kernel
theorem dX7_moveOrigin_9 : decode cX7_moveOrigin 9 = .ok (.iconst 0, 1) := by decide +kernel
theorem dX7_moveOrigin_10 : decode cX7_moveOrigin 10 = .ok (.goto 12, 3) := by decide +kernel
theorem dX7_moveOrigin_13 : decode cX7_moveOrigin 13 = .ok (.aload_n 0, 1) := by decide +kernel
theorem dX7_moveOrigin_14 : decode cX7_moveOrigin 14 = .ok (.iload_n 1, 1) := by decide +kernel
theorem dX7_moveOrigin_15 : decode cX7_moveOrigin 15 = .ok (.iload_n 2, 1) := by decide +kernel
theorem dX7_moveOrigin_16 : decode cX7_moveOrigin 16 = .ok (.invokevirtual 378, 3) := by decide +kernel
theorem dX7_moveOrigin_19 : decode cX7_moveOrigin 19 = .ok (.bipush 36, 2) := by decide +kernel
theorem dX7_moveOrigin_21 : decode cX7_moveOrigin 21 = .ok (.idiv, 1) := by decide +kernel
theorem dX7_moveOrigin_22 : decode cX7_moveOrigin 22 = .ok (.ireturn, 1) := by decide +kernel
theorem dX7_moveTarget_0 : decode cX7_moveTarget 0 = .ok (.aload_n 0, 1) := by decide +kernel
theorem dX7_moveTarget_1 : decode cX7_moveTarget 1 = .ok (.iload_n 1, 1) := by decide +kernel
theorem dX7_moveTarget_2 : decode cX7_moveTarget 2 = .ok (.iload_n 2, 1) := by decide +kernel
theorem dX7_moveTarget_3 : decode cX7_moveTarget 3 = .ok (.invokevirtual 381, 3) := by decide +kernel
theorem dX7_moveTarget_6 : decode cX7_moveTarget 6 = .ok (.ifCond .eq 7, 3) := by decide +kernel
theorem dX7_moveTarget_9 : decode cX7_moveTarget 9 = .ok (.iconst 0, 1) := by decide +kernel
theorem dX7_moveTarget_10 : decode cX7_moveTarget 10 = .ok (.goto 12, 3) := by decide +kernel
theorem dX7_moveTarget_13 : decode cX7_moveTarget 13 = .ok (.aload_n 0, 1) := by decide +kernel
theorem dX7_moveTarget_14 : decode cX7_moveTarget 14 = .ok (.iload_n 1, 1) := by decide +kernel
theorem dX7_moveTarget_15 : decode cX7_moveTarget 15 = .ok (.iload_n 2, 1) := by decide +kernel
theorem dX7_moveTarget_16 : decode cX7_moveTarget 16 = .ok (.invokevirtual 378, 3) := by decide +kernel
theorem dX7_moveTarget_19 : decode cX7_moveTarget 19 = .ok (.bipush 36, 2) := by decide +kernel
theorem dX7_moveTarget_21 : decode cX7_moveTarget 21 = .ok (.irem, 1) := by decide +kernel
theorem dX7_moveTarget_22 : decode cX7_moveTarget 22 = .ok (.ireturn, 1) := by decide +kernel
theorem dX7_gamesBy_0 : decode cX7_gamesBy 0 = .ok (.lconst 0, 1) := by decide +kernel
theorem dX7_gamesBy_1 : decode cX7_gamesBy 1 = .ok (.lstore_n 3, 1) := by decide +kernel
theorem dX7_gamesBy_2 : decode cX7_gamesBy 2 = .ok (.iconst 0, 1) := by decide +kernel
theorem dX7_gamesBy_3 : decode cX7_gamesBy 3 = .ok (.istore 5, 2) := by decide +kernel
theorem dX7_gamesBy_5 : decode cX7_gamesBy 5 = .ok (.iload 5, 2) := by decide +kernel
theorem dX7_gamesBy_7 : decode cX7_gamesBy 7 = .ok (.aload_n 0, 1) := by decide +kernel
theorem dX7_gamesBy_8 : decode cX7_gamesBy 8 = .ok (.getfield 45, 3) := by decide +kernel
theorem dX7_gamesBy_11 : decode cX7_gamesBy 11 = .ok (.iload_n 1, 1) := by decide +kernel
theorem dX7_gamesBy_12 : decode cX7_gamesBy 12 = .ok (.iaload, 1) := by decide +kernel
theorem dX7_gamesBy_13 : decode cX7_gamesBy 13 = .ok (.if_icmp .ge 52, 3) := by decide +kernel
theorem dX7_gamesBy_16 : decode cX7_gamesBy 16 = .ok (.aload_n 0, 1) := by decide +kernel
theorem dX7_gamesBy_17 : decode cX7_gamesBy 17 = .ok (.getfield 42, 3) := by decide +kernel
theorem dX7_gamesBy_20 : decode cX7_gamesBy 20 = .ok (.iload_n 1, 1) := by decide +kernel
theorem dX7_gamesBy_21 : decode cX7_gamesBy 21 = .ok (.sipush 1600, 3) := by decide +kernel
theorem dX7_gamesBy_24 : decode cX7_gamesBy 24 = .ok (.imul, 1) := by decide +kernel
theorem dX7_gamesBy_25 : decode cX7_gamesBy 25 = .ok (.iload 5, 2) := by decide +kernel
theorem dX7_gamesBy_27 : decode cX7_gamesBy 27 = .ok (.iadd, 1) := by decide +kernel
theorem dX7_gamesBy_28 : decode cX7_gamesBy 28 = .ok (.iaload, 1) := by decide +kernel
theorem dX7_gamesBy_29 : decode cX7_gamesBy 29 = .ok (.istore 6, 2) := by decide +kernel
theorem dX7_gamesBy_31 : decode cX7_gamesBy 31 = .ok (.iload 6, 2) := by decide +kernel
theorem dX7_gamesBy_33 : decode cX7_gamesBy 33 = .ok (.invokestatic 365, 3) := by decide +kernel
theorem dX7_gamesBy_36 : decode cX7_gamesBy 36 = .ok (.bipush 36, 2) := by decide +kernel
theorem dX7_gamesBy_38 : decode cX7_gamesBy 38 = .ok (.imul, 1) := by decide +kernel
theorem dX7_gamesBy_39 : decode cX7_gamesBy 39 = .ok (.iload 6, 2) := by decide +kernel
theorem dX7_gamesBy_41 : decode cX7_gamesBy 41 = .ok (.invokestatic 368, 3) := by decide +kernel
theorem dX7_gamesBy_44 : decode cX7_gamesBy 44 = .ok (.iadd, 1) := by decide +kernel
theorem dX7_gamesBy_45 : decode cX7_gamesBy 45 = .ok (.iload_n 2, 1) := by decide +kernel
theorem dX7_gamesBy_46 : decode cX7_gamesBy 46 = .ok (.if_icmp .ne 13, 3) := by decide +kernel
theorem dX7_gamesBy_49 : decode cX7_gamesBy 49 = .ok (.lload_n 3, 1) := by decide +kernel
theorem dX7_gamesBy_50 : decode cX7_gamesBy 50 = .ok (.aload_n 0, 1) := by decide +kernel
theorem dX7_gamesBy_51 : decode cX7_gamesBy 51 = .ok (.iload_n 1, 1) := by decide +kernel
theorem dX7_gamesBy_52 : decode cX7_gamesBy 52 = .ok (.iload 6, 2) := by decide +kernel
theorem dX7_gamesBy_54 : decode cX7_gamesBy 54 = .ok (.invokevirtual 371, 3) := by decide +kernel
theorem dX7_gamesBy_57 : decode cX7_gamesBy 57 = .ok (.ladd, 1) := by decide +kernel
theorem dX7_gamesBy_58 : decode cX7_gamesBy 58 = .ok (.lstore_n 3, 1) := by decide +kernel
theorem dX7_gamesBy_59 : decode cX7_gamesBy 59 = .ok (.iinc 5 1, 3) := by decide +kernel
theorem dX7_gamesBy_62 : decode cX7_gamesBy 62 = .ok (.goto (-57), 3) := by decide +kernel
theorem dX7_gamesBy_65 : decode cX7_gamesBy 65 = .ok (.lload_n 3, 1) := by decide +kernel
theorem dX7_gamesBy_66 : decode cX7_gamesBy 66 = .ok (.lreturn, 1) := by decide +kernel
theorem dX7_gamesWithMove_0 : decode cX7_gamesWithMove 0 = .ok (.aload_n 0, 1) := by decide +kernel
theorem dX7_gamesWithMove_1 : decode cX7_gamesWithMove 1 = .ok (.iload_n 1, 1) := by decide +kernel
theorem dX7_gamesWithMove_2 : decode cX7_gamesWithMove 2 = .ok (.iload_n 2, 1) := by decide +kernel
theorem dX7_gamesWithMove_3 : decode cX7_gamesWithMove 3 = .ok (.invokevirtual 381, 3) := by decide +kernel
theorem dX7_gamesWithMove_6 : decode cX7_gamesWithMove 6 = .ok (.ifCond .eq 7, 3) := by decide +kernel
theorem dX7_gamesWithMove_9 : decode cX7_gamesWithMove 9 = .ok (.lconst 0, 1) := by decide +kernel
theorem dX7_gamesWithMove_10 : decode cX7_gamesWithMove 10 = .ok (.goto 14, 3) := by decide +kernel
theorem dX7_gamesWithMove_13 : decode cX7_gamesWithMove 13 = .ok (.aload_n 0, 1) := by decide +kernel
theorem dX7_gamesWithMove_14 : decode cX7_gamesWithMove 14 = .ok (.iload_n 1, 1) := by decide +kernel
theorem dX7_gamesWithMove_15 : decode cX7_gamesWithMove 15 = .ok (.aload_n 0, 1) := by decide +kernel
theorem dX7_gamesWithMove_16 : decode cX7_gamesWithMove 16 = .ok (.iload_n 1, 1) := by decide +kernel
theorem dX7_gamesWithMove_17 : decode cX7_gamesWithMove 17 = .ok (.iload_n 2, 1) := by decide +kernel
theorem dX7_gamesWithMove_18 : decode cX7_gamesWithMove 18 = .ok (.invokevirtual 378, 3) := by decide +kernel
theorem dX7_gamesWithMove_21 : decode cX7_gamesWithMove 21 = .ok (.invokevirtual 384, 3) := by decide +kernel
theorem dX7_gamesWithMove_24 : decode cX7_gamesWithMove 24 = .ok (.lreturn, 1) := by decide +kernel
theorem dX7_gamesWithPiece_0 : decode cX7_gamesWithPiece 0 = .ok (.aload_n 0, 1) := by decide +kernel
theorem dX7_gamesWithPiece_1 : decode cX7_gamesWithPiece 1 = .ok (.aload_n 0, 1) := by decide +kernel
theorem dX7_gamesWithPiece_2 : decode cX7_gamesWithPiece 2 = .ok (.iload_n 1, 1) := by decide +kernel
theorem dX7_gamesWithPiece_3 : decode cX7_gamesWithPiece 3 = .ok (.iload_n 2, 1) := by decide +kernel
theorem dX7_gamesWithPiece_4 : decode cX7_gamesWithPiece 4 = .ok (.invokevirtual 346, 3) := by decide +kernel
theorem dX7_gamesWithPiece_7 : decode cX7_gamesWithPiece 7 = .ok (.iload_n 3, 1) := by decide +kernel
theorem dX7_gamesWithPiece_8 : decode cX7_gamesWithPiece 8 = .ok (.iconst 0, 1) := by decide +kernel
theorem dX7_gamesWithPiece_9 : decode cX7_gamesWithPiece 9 = .ok (.iconst 1, 1) := by decide +kernel
theorem dX7_gamesWithPiece_10 : decode cX7_gamesWithPiece 10 = .ok (.invokestatic 182, 3) := by decide +kernel
theorem dX7_gamesWithPiece_13 : decode cX7_gamesWithPiece 13 = .ok (.ifCond .eq 13, 3) := by decide +kernel
theorem dX7_gamesWithPiece_16 : decode cX7_gamesWithPiece 16 = .ok (.iload 4, 2) := by decide +kernel
theorem dX7_gamesWithPiece_18 : decode cX7_gamesWithPiece 18 = .ok (.iconst 0, 1) := by decide +kernel
theorem dX7_gamesWithPiece_19 : decode cX7_gamesWithPiece 19 = .ok (.iconst 4, 1) := by decide +kernel
theorem dX7_gamesWithPiece_20 : decode cX7_gamesWithPiece 20 = .ok (.invokestatic 182, 3) := by decide +kernel
theorem dX7_gamesWithPiece_23 : decode cX7_gamesWithPiece 23 = .ok (.ifCond .ne 7, 3) := by decide +kernel
theorem dX7_gamesWithPiece_26 : decode cX7_gamesWithPiece 26 = .ok (.iconst 1, 1) := by decide +kernel
theorem dX7_gamesWithPiece_27 : decode cX7_gamesWithPiece 27 = .ok (.goto 4, 3) := by decide +kernel
theorem dX7_gamesWithPiece_30 : decode cX7_gamesWithPiece 30 = .ok (.iconst 0, 1) := by decide +kernel
theorem dX7_gamesWithPiece_31 : decode cX7_gamesWithPiece 31 = .ok (.iconst 0, 1) := by decide +kernel
theorem dX7_gamesWithPiece_32 : decode cX7_gamesWithPiece 32 = .ok (.invokevirtual 186, 3) := by decide +kernel
theorem dX7_gamesWithPiece_35 : decode cX7_gamesWithPiece 35 = .ok (.ifCond .eq 5, 3) := by decide +kernel
theorem dX7_gamesWithPiece_38 : decode cX7_gamesWithPiece 38 = .ok (.lconst 0, 1) := by decide +kernel
theorem dX7_gamesWithPiece_39 : decode cX7_gamesWithPiece 39 = .ok (.lreturn, 1) := by decide +kernel
theorem dX7_gamesWithPiece_40 : decode cX7_gamesWithPiece 40 = .ok (.lconst 0, 1) := by decide +kernel
theorem dX7_gamesWithPiece_41 : decode cX7_gamesWithPiece 41 = .ok (.lstore 5, 2) := by decide +kernel
theorem dX7_gamesWithPiece_43 : decode cX7_gamesWithPiece 43 = .ok (.iconst 0, 1) := by decide +kernel
theorem dX7_gamesWithPiece_44 : decode cX7_gamesWithPiece 44 = .ok (.istore 7, 2) := by decide +kernel
theorem dX7_gamesWithPiece_46 : decode cX7_gamesWithPiece 46 = .ok (.iload 7, 2) := by decide +kernel
theorem dX7_gamesWithPiece_48 : decode cX7_gamesWithPiece 48 = .ok (.aload_n 0, 1) := by decide +kernel
theorem dX7_gamesWithPiece_49 : decode cX7_gamesWithPiece 49 = .ok (.getfield 39, 3) := by decide +kernel
theorem dX7_gamesWithPiece_52 : decode cX7_gamesWithPiece 52 = .ok (.aload_n 0, 1) := by decide +kernel
theorem dX7_gamesWithPiece_53 : decode cX7_gamesWithPiece 53 = .ok (.getfield 9, 3) := by decide +kernel
theorem dX7_gamesWithPiece_56 : decode cX7_gamesWithPiece 56 = .ok (.iconst 2, 1) := by decide +kernel
theorem dX7_gamesWithPiece_57 : decode cX7_gamesWithPiece 57 = .ok (.iaload, 1) := by decide +kernel
theorem dX7_gamesWithPiece_58 : decode cX7_gamesWithPiece 58 = .ok (.iaload, 1) := by decide +kernel
theorem dX7_gamesWithPiece_59 : decode cX7_gamesWithPiece 59 = .ok (.if_icmp .ge 52, 3) := by decide +kernel
theorem dX7_gamesWithPiece_62 : decode cX7_gamesWithPiece 62 = .ok (.aload_n 0, 1) := by decide +kernel
theorem dX7_gamesWithPiece_63 : decode cX7_gamesWithPiece 63 = .ok (.iload 7, 2) := by decide +kernel
theorem dX7_gamesWithPiece_65 : decode cX7_gamesWithPiece 65 = .ok (.aload_n 0, 1) := by decide +kernel
theorem dX7_gamesWithPiece_66 : decode cX7_gamesWithPiece 66 = .ok (.iload_n 1, 1) := by decide +kernel
theorem dX7_gamesWithPiece_67 : decode cX7_gamesWithPiece 67 = .ok (.iload_n 2, 1) := by decide +kernel
theorem dX7_gamesWithPiece_68 : decode cX7_gamesWithPiece 68 = .ok (.invokevirtual 349, 3) := by decide +kernel
theorem dX7_gamesWithPiece_71 : decode cX7_gamesWithPiece 71 = .ok (.invokevirtual 352, 3) := by decide +kernel
theorem dX7_gamesWithPiece_74 : decode cX7_gamesWithPiece 74 = .ok (.iload_n 3, 1) := by decide +kernel
theorem dX7_gamesWithPiece_75 : decode cX7_gamesWithPiece 75 = .ok (.iload 4, 2) := by decide +kernel
theorem dX7_gamesWithPiece_77 : decode cX7_gamesWithPiece 77 = .ok (.invokestatic 130, 3) := by decide +kernel
theorem dX7_gamesWithPiece_80 : decode cX7_gamesWithPiece 80 = .ok (.if_icmp .ne 25, 3) := by decide +kernel
theorem dX7_gamesWithPiece_83 : decode cX7_gamesWithPiece 83 = .ok (.lload 5, 2) := by decide +kernel
theorem dX7_gamesWithPiece_85 : decode cX7_gamesWithPiece 85 = .ok (.aload_n 0, 1) := by decide +kernel
theorem dX7_gamesWithPiece_86 : decode cX7_gamesWithPiece 86 = .ok (.getfield 51, 3) := by decide +kernel
theorem dX7_gamesWithPiece_89 : decode cX7_gamesWithPiece 89 = .ok (.aload_n 0, 1) := by decide +kernel
theorem dX7_gamesWithPiece_90 : decode cX7_gamesWithPiece 90 = .ok (.getfield 9, 3) := by decide +kernel
theorem dX7_gamesWithPiece_93 : decode cX7_gamesWithPiece 93 = .ok (.iconst 2, 1) := by decide +kernel
theorem dX7_gamesWithPiece_94 : decode cX7_gamesWithPiece 94 = .ok (.iaload, 1) := by decide +kernel
theorem dX7_gamesWithPiece_95 : decode cX7_gamesWithPiece 95 = .ok (.bipush 40, 2) := by decide +kernel
theorem dX7_gamesWithPiece_97 : decode cX7_gamesWithPiece 97 = .ok (.imul, 1) := by decide +kernel
theorem dX7_gamesWithPiece_98 : decode cX7_gamesWithPiece 98 = .ok (.iload 7, 2) := by decide +kernel
theorem dX7_gamesWithPiece_100 : decode cX7_gamesWithPiece 100 = .ok (.iadd, 1) := by decide +kernel
theorem dX7_gamesWithPiece_101 : decode cX7_gamesWithPiece 101 = .ok (.laload, 1) := by decide +kernel
theorem dX7_gamesWithPiece_102 : decode cX7_gamesWithPiece 102 = .ok (.ladd, 1) := by decide +kernel
theorem dX7_gamesWithPiece_103 : decode cX7_gamesWithPiece 103 = .ok (.lstore 5, 2) := by decide +kernel
theorem dX7_gamesWithPiece_105 : decode cX7_gamesWithPiece 105 = .ok (.iinc 7 1, 3) := by decide +kernel
theorem dX7_gamesWithPiece_108 : decode cX7_gamesWithPiece 108 = .ok (.goto (-62), 3) := by decide +kernel
theorem dX7_gamesWithPiece_111 : decode cX7_gamesWithPiece 111 = .ok (.lload 5, 2) := by decide +kernel
theorem dX7_gamesWithPiece_113 : decode cX7_gamesWithPiece 113 = .ok (.lreturn, 1) := by decide +kernel
theorem dX7_mostDoubtfulNote_0 : decode cX7_mostDoubtfulNote 0 = .ok (.aload_n 0, 1) := by decide +kernel
theorem dX7_mostDoubtfulNote_1 : decode cX7_mostDoubtfulNote 1 = .ok (.iconst 0, 1) := by decide +kernel
theorem dX7_mostDoubtfulNote_2 : decode cX7_mostDoubtfulNote 2 = .ok (.putfield 86, 3) := by decide +kernel
theorem dX7_mostDoubtfulNote_5 : decode cX7_mostDoubtfulNote 5 = .ok (.iconst (-1), 1) := by decide +kernel
theorem dX7_mostDoubtfulNote_6 : decode cX7_mostDoubtfulNote 6 = .ok (.istore_n 1, 1) := by decide +kernel
theorem dX7_mostDoubtfulNote_7 : decode cX7_mostDoubtfulNote 7 = .ok (.iconst 1, 1) := by decide +kernel
theorem dX7_mostDoubtfulNote_8 : decode cX7_mostDoubtfulNote 8 = .ok (.istore_n 2, 1) := by decide +kernel
theorem dX7_mostDoubtfulNote_9 : decode cX7_mostDoubtfulNote 9 = .ok (.iconst 0, 1) := by decide +kernel
theorem dX7_mostDoubtfulNote_10 : decode cX7_mostDoubtfulNote 10 = .ok (.istore_n 3, 1) := by decide +kernel
theorem dX7_mostDoubtfulNote_11 : decode cX7_mostDoubtfulNote 11 = .ok (.iload_n 3, 1) := by decide +kernel
theorem dX7_mostDoubtfulNote_12 : decode cX7_mostDoubtfulNote 12 = .ok (.aload_n 0, 1) := by decide +kernel
theorem dX7_mostDoubtfulNote_13 : decode cX7_mostDoubtfulNote 13 = .ok (.getfield 9, 3) := by decide +kernel
theorem dX7_mostDoubtfulNote_16 : decode cX7_mostDoubtfulNote 16 = .ok (.iconst 2, 1) := by decide +kernel
theorem dX7_mostDoubtfulNote_17 : decode cX7_mostDoubtfulNote 17 = .ok (.iaload, 1) := by decide +kernel
theorem dX7_mostDoubtfulNote_18 : decode cX7_mostDoubtfulNote 18 = .ok (.if_icmp .ge 30, 3) := by decide +kernel
theorem dX7_mostDoubtfulNote_21 : decode cX7_mostDoubtfulNote 21 = .ok (.aload_n 0, 1) := by decide +kernel
theorem dX7_mostDoubtfulNote_22 : decode cX7_mostDoubtfulNote 22 = .ok (.iload_n 3, 1) := by decide +kernel
theorem dX7_mostDoubtfulNote_23 : decode cX7_mostDoubtfulNote 23 = .ok (.invokevirtual 375, 3) := by decide +kernel
theorem dX7_mostDoubtfulNote_26 : decode cX7_mostDoubtfulNote 26 = .ok (.istore 4, 2) := by decide +kernel
theorem dX7_mostDoubtfulNote_28 : decode cX7_mostDoubtfulNote 28 = .ok (.iload 4, 2) := by decide +kernel
theorem dX7_mostDoubtfulNote_30 : decode cX7_mostDoubtfulNote 30 = .ok (.iload_n 2, 1) := by decide +kernel
theorem dX7_mostDoubtfulNote_31 : decode cX7_mostDoubtfulNote 31 = .ok (.if_icmp .gt 6, 3) := by decide +kernel
theorem dX7_mostDoubtfulNote_34 : decode cX7_mostDoubtfulNote 34 = .ok (.goto 8, 3) := by decide +kernel
theorem dX7_mostDoubtfulNote_37 : decode cX7_mostDoubtfulNote 37 = .ok (.iload_n 3, 1) := by decide +kernel
theorem dX7_mostDoubtfulNote_38 : decode cX7_mostDoubtfulNote 38 = .ok (.istore_n 1, 1) := by decide +kernel
theorem dX7_mostDoubtfulNote_39 : decode cX7_mostDoubtfulNote 39 = .ok (.iload 4, 2) := by decide +kernel
theorem dX7_mostDoubtfulNote_41 : decode cX7_mostDoubtfulNote 41 = .ok (.istore_n 2, 1) := by decide +kernel
theorem dX7_mostDoubtfulNote_42 : decode cX7_mostDoubtfulNote 42 = .ok (.iinc 3 1, 3) := by decide +kernel
theorem dX7_mostDoubtfulNote_45 : decode cX7_mostDoubtfulNote 45 = .ok (.goto (-34), 3) := by decide +kernel
theorem dX7_mostDoubtfulNote_48 : decode cX7_mostDoubtfulNote 48 = .ok (.iload_n 1, 1) := by decide +kernel
theorem dX7_mostDoubtfulNote_49 : decode cX7_mostDoubtfulNote 49 = .ok (.ireturn, 1) := by decide +kernel
theorem dX7_gamesIfNoted_0 : decode cX7_gamesIfNoted 0 = .ok (.aload_n 0, 1) := by decide +kernel
theorem dX7_gamesIfNoted_1 : decode cX7_gamesIfNoted 1 = .ok (.aload_n 0, 1) := by decide +kernel
theorem dX7_gamesIfNoted_2 : decode cX7_gamesIfNoted 2 = .ok (.iload_n 1, 1) := by decide +kernel
theorem dX7_gamesIfNoted_3 : decode cX7_gamesIfNoted 3 = .ok (.iload_n 2, 1) := by decide +kernel
theorem dX7_gamesIfNoted_4 : decode cX7_gamesIfNoted 4 = .ok (.iload_n 3, 1) := by decide +kernel
theorem dX7_gamesIfNoted_5 : decode cX7_gamesIfNoted 5 = .ok (.iload 4, 2) := by decide +kernel
theorem dX7_gamesIfNoted_7 : decode cX7_gamesIfNoted 7 = .ok (.invokevirtual 333, 3) := by decide +kernel
theorem dX7_gamesIfNoted_10 : decode cX7_gamesIfNoted 10 = .ok (.iconst 0, 1) := by decide +kernel
theorem dX7_gamesIfNoted_11 : decode cX7_gamesIfNoted 11 = .ok (.iconst 0, 1) := by decide +kernel
theorem dX7_gamesIfNoted_12 : decode cX7_gamesIfNoted 12 = .ok (.invokevirtual 186, 3) := by decide +kernel
theorem dX7_gamesIfNoted_15 : decode cX7_gamesIfNoted 15 = .ok (.ifCond .eq 5, 3) := by decide +kernel
theorem dX7_gamesIfNoted_18 : decode cX7_gamesIfNoted 18 = .ok (.lconst 0, 1) := by decide +kernel
theorem dX7_gamesIfNoted_19 : decode cX7_gamesIfNoted 19 = .ok (.lreturn, 1) := by decide +kernel
theorem dX7_gamesIfNoted_20 : decode cX7_gamesIfNoted 20 = .ok (.aload_n 0, 1) := by decide +kernel
theorem dX7_gamesIfNoted_21 : decode cX7_gamesIfNoted 21 = .ok (.getfield 9, 3) := by decide +kernel
theorem dX7_gamesIfNoted_24 : decode cX7_gamesIfNoted 24 = .ok (.iconst 2, 1) := by decide +kernel
theorem dX7_gamesIfNoted_25 : decode cX7_gamesIfNoted 25 = .ok (.iaload, 1) := by decide +kernel
theorem dX7_gamesIfNoted_26 : decode cX7_gamesIfNoted 26 = .ok (.bipush 10, 2) := by decide +kernel
theorem dX7_gamesIfNoted_28 : decode cX7_gamesIfNoted 28 = .ok (.if_icmp .ne 7, 3) := by decide +kernel
theorem dX7_gamesIfNoted_31 : decode cX7_gamesIfNoted 31 = .ok (.ldc2_w 387, 3) := by decide +kernel
theorem dX7_gamesIfNoted_34 : decode cX7_gamesIfNoted 34 = .ok (.lreturn, 1) := by decide +kernel
theorem dX7_gamesIfNoted_35 : decode cX7_gamesIfNoted 35 = .ok (.aload_n 0, 1) := by decide +kernel
theorem dX7_gamesIfNoted_36 : decode cX7_gamesIfNoted 36 = .ok (.aload_n 0, 1) := by decide +kernel
theorem dX7_gamesIfNoted_37 : decode cX7_gamesIfNoted 37 = .ok (.getfield 9, 3) := by decide +kernel
theorem dX7_gamesIfNoted_40 : decode cX7_gamesIfNoted 40 = .ok (.iconst 2, 1) := by decide +kernel
theorem dX7_gamesIfNoted_41 : decode cX7_gamesIfNoted 41 = .ok (.iaload, 1) := by decide +kernel
theorem dX7_gamesIfNoted_42 : decode cX7_gamesIfNoted 42 = .ok (.iload_n 1, 1) := by decide +kernel
theorem dX7_gamesIfNoted_43 : decode cX7_gamesIfNoted 43 = .ok (.iload_n 2, 1) := by decide +kernel
theorem dX7_gamesIfNoted_44 : decode cX7_gamesIfNoted 44 = .ok (.iload_n 3, 1) := by decide +kernel
theorem dX7_gamesIfNoted_45 : decode cX7_gamesIfNoted 45 = .ok (.iload 4, 2) := by decide +kernel
theorem dX7_gamesIfNoted_47 : decode cX7_gamesIfNoted 47 = .ok (.iload 5, 2) := by decide +kernel
theorem dX7_gamesIfNoted_49 : decode cX7_gamesIfNoted 49 = .ok (.iload 6, 2) := by decide +kernel
theorem dX7_gamesIfNoted_51 : decode cX7_gamesIfNoted 51 = .ok (.invokevirtual 276, 3) := by decide +kernel
theorem dX7_gamesIfNoted_54 : decode cX7_gamesIfNoted 54 = .ok (.aload_n 0, 1) := by decide +kernel
theorem dX7_gamesIfNoted_55 : decode cX7_gamesIfNoted 55 = .ok (.aload_n 0, 1) := by decide +kernel
theorem dX7_gamesIfNoted_56 : decode cX7_gamesIfNoted 56 = .ok (.getfield 9, 3) := by decide +kernel
theorem dX7_gamesIfNoted_59 : decode cX7_gamesIfNoted 59 = .ok (.iconst 2, 1) := by decide +kernel
theorem dX7_gamesIfNoted_60 : decode cX7_gamesIfNoted 60 = .ok (.iaload, 1) := by decide +kernel
theorem dX7_gamesIfNoted_61 : decode cX7_gamesIfNoted 61 = .ok (.invokevirtual 167, 3) := by decide +kernel
theorem dX7_gamesIfNoted_64 : decode cX7_gamesIfNoted 64 = .ok (.ifCond .ne 7, 3) := by decide +kernel
theorem dX7_gamesIfNoted_67 : decode cX7_gamesIfNoted 67 = .ok (.ldc2_w 387, 3) := by decide +kernel
theorem dX7_gamesIfNoted_70 : decode cX7_gamesIfNoted 70 = .ok (.lreturn, 1) := by decide +kernel
theorem dX7_gamesIfNoted_71 : decode cX7_gamesIfNoted 71 = .ok (.lconst 0, 1) := by decide +kernel
theorem dX7_gamesIfNoted_72 : decode cX7_gamesIfNoted 72 = .ok (.lstore 7, 2) := by decide +kernel
theorem dX7_gamesIfNoted_74 : decode cX7_gamesIfNoted 74 = .ok (.iconst 0, 1) := by decide +kernel
theorem dX7_gamesIfNoted_75 : decode cX7_gamesIfNoted 75 = .ok (.istore 9, 2) := by decide +kernel
theorem dX7_gamesIfNoted_77 : decode cX7_gamesIfNoted 77 = .ok (.iload 9, 2) := by decide +kernel
theorem dX7_gamesIfNoted_79 : decode cX7_gamesIfNoted 79 = .ok (.aload_n 0, 1) := by decide +kernel
theorem dX7_gamesIfNoted_80 : decode cX7_gamesIfNoted 80 = .ok (.getfield 39, 3) := by decide +kernel
theorem dX7_gamesIfNoted_83 : decode cX7_gamesIfNoted 83 = .ok (.aload_n 0, 1) := by decide +kernel
theorem dX7_gamesIfNoted_84 : decode cX7_gamesIfNoted 84 = .ok (.getfield 9, 3) := by decide +kernel
theorem dX7_gamesIfNoted_87 : decode cX7_gamesIfNoted 87 = .ok (.iconst 2, 1) := by decide +kernel
theorem dX7_gamesIfNoted_88 : decode cX7_gamesIfNoted 88 = .ok (.iaload, 1) := by decide +kernel
theorem dX7_gamesIfNoted_89 : decode cX7_gamesIfNoted 89 = .ok (.iconst 1, 1) := by decide +kernel
theorem dX7_gamesIfNoted_90 : decode cX7_gamesIfNoted 90 = .ok (.iadd, 1) := by decide +kernel
theorem dX7_gamesIfNoted_91 : decode cX7_gamesIfNoted 91 = .ok (.iaload, 1) := by decide +kernel
theorem dX7_gamesIfNoted_92 : decode cX7_gamesIfNoted 92 = .ok (.if_icmp .ge 33, 3) := by decide +kernel
theorem dX7_gamesIfNoted_95 : decode cX7_gamesIfNoted 95 = .ok (.lload 7, 2) := by decide +kernel
theorem dX7_gamesIfNoted_97 : decode cX7_gamesIfNoted 97 = .ok (.aload_n 0, 1) := by decide +kernel
theorem dX7_gamesIfNoted_98 : decode cX7_gamesIfNoted 98 = .ok (.getfield 51, 3) := by decide +kernel
theorem dX7_gamesIfNoted_101 : decode cX7_gamesIfNoted 101 = .ok (.aload_n 0, 1) := by decide +kernel
theorem dX7_gamesIfNoted_102 : decode cX7_gamesIfNoted 102 = .ok (.getfield 9, 3) := by decide +kernel
theorem dX7_gamesIfNoted_105 : decode cX7_gamesIfNoted 105 = .ok (.iconst 2, 1) := by decide +kernel
theorem dX7_gamesIfNoted_106 : decode cX7_gamesIfNoted 106 = .ok (.iaload, 1) := by decide +kernel
theorem dX7_gamesIfNoted_107 : decode cX7_gamesIfNoted 107 = .ok (.iconst 1, 1) := by decide +kernel
theorem dX7_gamesIfNoted_108 : decode cX7_gamesIfNoted 108 = .ok (.iadd, 1) := by decide +kernel
theorem dX7_gamesIfNoted_109 : decode cX7_gamesIfNoted 109 = .ok (.bipush 40, 2) := by decide +kernel
theorem dX7_gamesIfNoted_111 : decode cX7_gamesIfNoted 111 = .ok (.imul, 1) := by decide +kernel
theorem dX7_gamesIfNoted_112 : decode cX7_gamesIfNoted 112 = .ok (.iload 9, 2) := by decide +kernel
theorem dX7_gamesIfNoted_114 : decode cX7_gamesIfNoted 114 = .ok (.iadd, 1) := by decide +kernel
theorem dX7_gamesIfNoted_115 : decode cX7_gamesIfNoted 115 = .ok (.laload, 1) := by decide +kernel
theorem dX7_gamesIfNoted_116 : decode cX7_gamesIfNoted 116 = .ok (.ladd, 1) := by decide +kernel
theorem dX7_gamesIfNoted_117 : decode cX7_gamesIfNoted 117 = .ok (.lstore 7, 2) := by decide +kernel
theorem dX7_gamesIfNoted_119 : decode cX7_gamesIfNoted 119 = .ok (.iinc 9 1, 3) := by decide +kernel
theorem dX7_gamesIfNoted_122 : decode cX7_gamesIfNoted 122 = .ok (.goto (-45), 3) := by decide +kernel
theorem dX7_gamesIfNoted_125 : decode cX7_gamesIfNoted 125 = .ok (.lload 7, 2) := by decide +kernel
theorem dX7_gamesIfNoted_127 : decode cX7_gamesIfNoted 127 = .ok (.lreturn, 1) := by decide +kernel
theorem dX7_kings_0 : decode cX7_kings 0 = .ok (.iconst 0, 1) := by decide +kernel
theorem dX7_kings_1 : decode cX7_kings 1 = .ok (.istore_n 3, 1) := by decide +kernel
theorem dX7_kings_2 : decode cX7_kings 2 = .ok (.iconst 0, 1) := by decide +kernel
theorem dX7_kings_3 : decode cX7_kings 3 = .ok (.istore 4, 2) := by decide +kernel
theorem dX7_kings_5 : decode cX7_kings 5 = .ok (.iload 4, 2) := by decide +kernel
theorem dX7_kings_7 : decode cX7_kings 7 = .ok (.aload_n 0, 1) := by decide +kernel
theorem dX7_kings_8 : decode cX7_kings 8 = .ok (.invokevirtual 120, 3) := by decide +kernel
theorem dX7_kings_11 : decode cX7_kings 11 = .ok (.if_icmp .ge 27, 3) := by decide +kernel
theorem dX7_kings_14 : decode cX7_kings 14 = .ok (.aload_n 0, 1) := by decide +kernel
theorem dX7_kings_15 : decode cX7_kings 15 = .ok (.iload_n 1, 1) := by decide +kernel
theorem dX7_kings_16 : decode cX7_kings 16 = .ok (.iload 4, 2) := by decide +kernel
theorem dX7_kings_18 : decode cX7_kings 18 = .ok (.invokevirtual 352, 3) := by decide +kernel
theorem dX7_kings_21 : decode cX7_kings 21 = .ok (.iload_n 2, 1) := by decide +kernel
theorem dX7_kings_22 : decode cX7_kings 22 = .ok (.iconst 0, 1) := by decide +kernel
theorem dX7_kings_23 : decode cX7_kings 23 = .ok (.invokestatic 130, 3) := by decide +kernel
theorem dX7_kings_26 : decode cX7_kings 26 = .ok (.if_icmp .ne 6, 3) := by decide +kernel
theorem dX7_kings_29 : decode cX7_kings 29 = .ok (.iinc 3 1, 3) := by decide +kernel
theorem dX7_kings_32 : decode cX7_kings 32 = .ok (.iinc 4 1, 3) := by decide +kernel
theorem dX7_kings_35 : decode cX7_kings 35 = .ok (.goto (-30), 3) := by decide +kernel
theorem dX7_kings_38 : decode cX7_kings 38 = .ok (.iload_n 3, 1) := by decide +kernel
theorem dX7_kings_39 : decode cX7_kings 39 = .ok (.ireturn, 1) := by decide +kernel
theorem dX7_isOdd_0 : decode cX7_isOdd 0 = .ok (.aload_n 0, 1) := by decide +kernel
theorem dX7_isOdd_1 : decode cX7_isOdd 1 = .ok (.iload_n 1, 1) := by decide +kernel
theorem dX7_isOdd_2 : decode cX7_isOdd 2 = .ok (.iconst 0, 1) := by decide +kernel
theorem dX7_isOdd_3 : decode cX7_isOdd 3 = .ok (.invokevirtual 389, 3) := by decide +kernel
theorem dX7_isOdd_6 : decode cX7_isOdd 6 = .ok (.iconst 1, 1) := by decide +kernel
theorem dX7_isOdd_7 : decode cX7_isOdd 7 = .ok (.if_icmp .ne 13, 3) := by decide +kernel
theorem dX7_isOdd_10 : decode cX7_isOdd 10 = .ok (.aload_n 0, 1) := by decide +kernel
theorem dX7_isOdd_11 : decode cX7_isOdd 11 = .ok (.iload_n 1, 1) := by decide +kernel
theorem dX7_isOdd_12 : decode cX7_isOdd 12 = .ok (.iconst 1, 1) := by decide +kernel
theorem dX7_isOdd_13 : decode cX7_isOdd 13 = .ok (.invokevirtual 389, 3) := by decide +kernel
theorem dX7_isOdd_16 : decode cX7_isOdd 16 = .ok (.iconst 1, 1) := by decide +kernel
theorem dX7_isOdd_17 : decode cX7_isOdd 17 = .ok (.if_icmp .eq 5, 3) := by decide +kernel
theorem dX7_isOdd_20 : decode cX7_isOdd 20 = .ok (.iconst 1, 1) := by decide +kernel
theorem dX7_isOdd_21 : decode cX7_isOdd 21 = .ok (.ireturn, 1) := by decide +kernel
theorem dX7_isOdd_22 : decode cX7_isOdd 22 = .ok (.aload_n 0, 1) := by decide +kernel
theorem dX7_isOdd_23 : decode cX7_isOdd 23 = .ok (.getfield 9, 3) := by decide +kernel
theorem dX7_isOdd_26 : decode cX7_isOdd 26 = .ok (.iconst 2, 1) := by decide +kernel
theorem dX7_isOdd_27 : decode cX7_isOdd 27 = .ok (.iaload, 1) := by decide +kernel
theorem dX7_isOdd_28 : decode cX7_isOdd 28 = .ok (.iload_n 1, 1) := by decide +kernel
theorem dX7_isOdd_29 : decode cX7_isOdd 29 = .ok (.invokestatic 134, 3) := by decide +kernel
theorem dX7_isOdd_32 : decode cX7_isOdd 32 = .ok (.istore_n 2, 1) := by decide +kernel
theorem dX7_isOdd_33 : decode cX7_isOdd 33 = .ok (.iconst 1, 1) := by decide +kernel
theorem dX7_isOdd_34 : decode cX7_isOdd 34 = .ok (.aload_n 0, 1) := by decide +kernel
theorem dX7_isOdd_35 : decode cX7_isOdd 35 = .ok (.getfield 9, 3) := by decide +kernel
theorem dX7_isOdd_38 : decode cX7_isOdd 38 = .ok (.iconst 2, 1) := by decide +kernel
theorem dX7_isOdd_39 : decode cX7_isOdd 39 = .ok (.iaload, 1) := by decide +kernel
theorem dX7_isOdd_40 : decode cX7_isOdd 40 = .ok (.iconst 2, 1) := by decide +kernel
theorem dX7_isOdd_41 : decode cX7_isOdd 41 = .ok (.irem, 1) := by decide +kernel
theorem dX7_isOdd_42 : decode cX7_isOdd 42 = .ok (.isub, 1) := by decide +kernel
theorem dX7_isOdd_43 : decode cX7_isOdd 43 = .ok (.istore_n 3, 1) := by decide +kernel
theorem dX7_isOdd_44 : decode cX7_isOdd 44 = .ok (.aload_n 0, 1) := by decide +kernel
theorem dX7_isOdd_45 : decode cX7_isOdd 45 = .ok (.getfield 9, 3) := by decide +kernel
theorem dX7_isOdd_48 : decode cX7_isOdd 48 = .ok (.iconst 2, 1) := by decide +kernel
theorem dX7_isOdd_49 : decode cX7_isOdd 49 = .ok (.iaload, 1) := by decide +kernel
theorem dX7_isOdd_50 : decode cX7_isOdd 50 = .ok (.ifCond .le 32, 3) := by decide +kernel
theorem dX7_isOdd_53 : decode cX7_isOdd 53 = .ok (.aload_n 0, 1) := by decide +kernel
theorem dX7_isOdd_54 : decode cX7_isOdd 54 = .ok (.aload_n 0, 1) := by decide +kernel
theorem dX7_isOdd_55 : decode cX7_isOdd 55 = .ok (.getfield 36, 3) := by decide +kernel
theorem dX7_isOdd_58 : decode cX7_isOdd 58 = .ok (.iload_n 2, 1) := by decide +kernel
theorem dX7_isOdd_59 : decode cX7_isOdd 59 = .ok (.iconst 1, 1) := by decide +kernel
theorem dX7_isOdd_60 : decode cX7_isOdd 60 = .ok (.iload_n 3, 1) := by decide +kernel
theorem dX7_isOdd_61 : decode cX7_isOdd 61 = .ok (.isub, 1) := by decide +kernel
theorem dX7_isOdd_62 : decode cX7_isOdd 62 = .ok (.aload_n 0, 1) := by decide +kernel
theorem dX7_isOdd_63 : decode cX7_isOdd 63 = .ok (.aload_n 0, 1) := by decide +kernel
theorem dX7_isOdd_64 : decode cX7_isOdd 64 = .ok (.getfield 36, 3) := by decide +kernel
theorem dX7_isOdd_67 : decode cX7_isOdd 67 = .ok (.iload_n 2, 1) := by decide +kernel
theorem dX7_isOdd_68 : decode cX7_isOdd 68 = .ok (.iload_n 3, 1) := by decide +kernel
theorem dX7_isOdd_69 : decode cX7_isOdd 69 = .ok (.invokevirtual 137, 3) := by decide +kernel
theorem dX7_isOdd_72 : decode cX7_isOdd 72 = .ok (.invokevirtual 141, 3) := by decide +kernel
theorem dX7_isOdd_75 : decode cX7_isOdd 75 = .ok (.ifCond .eq 7, 3) := by decide +kernel
theorem dX7_isOdd_78 : decode cX7_isOdd 78 = .ok (.iconst 1, 1) := by decide +kernel
theorem dX7_isOdd_79 : decode cX7_isOdd 79 = .ok (.goto 4, 3) := by decide +kernel
theorem dX7_isOdd_82 : decode cX7_isOdd 82 = .ok (.iconst 0, 1) := by decide +kernel
theorem dX7_isOdd_83 : decode cX7_isOdd 83 = .ok (.ireturn, 1) := by decide +kernel
theorem dX7_inconsistencies_0 : decode cX7_inconsistencies 0 = .ok (.aload_n 0, 1) := by decide +kernel
theorem dX7_inconsistencies_1 : decode cX7_inconsistencies 1 = .ok (.iconst 0, 1) := by decide +kernel
theorem dX7_inconsistencies_2 : decode cX7_inconsistencies 2 = .ok (.putfield 86, 3) := by decide +kernel
theorem dX7_inconsistencies_5 : decode cX7_inconsistencies 5 = .ok (.aload_n 0, 1) := by decide +kernel
theorem dX7_inconsistencies_6 : decode cX7_inconsistencies 6 = .ok (.invokevirtual 361, 3) := by decide +kernel
theorem dX7_inconsistencies_9 : decode cX7_inconsistencies 9 = .ok (.lstore_n 1, 1) := by decide +kernel
theorem dX7_inconsistencies_10 : decode cX7_inconsistencies 10 = .ok (.iconst 0, 1) := by decide +kernel
theorem dX7_inconsistencies_11 : decode cX7_inconsistencies 11 = .ok (.istore_n 3, 1) := by decide +kernel
theorem dX7_inconsistencies_12 : decode cX7_inconsistencies 12 = .ok (.iconst 0, 1) := by decide +kernel
theorem dX7_inconsistencies_13 : decode cX7_inconsistencies 13 = .ok (.istore 4, 2) := by decide +kernel
theorem dX7_inconsistencies_15 : decode cX7_inconsistencies 15 = .ok (.iload 4, 2) := by decide +kernel
theorem dX7_inconsistencies_17 : decode cX7_inconsistencies 17 = .ok (.aload_n 0, 1) := by decide +kernel
theorem dX7_inconsistencies_18 : decode cX7_inconsistencies 18 = .ok (.getfield 9, 3) := by decide +kernel
theorem dX7_inconsistencies_21 : decode cX7_inconsistencies 21 = .ok (.iconst 2, 1) := by decide +kernel
theorem dX7_inconsistencies_22 : decode cX7_inconsistencies 22 = .ok (.iaload, 1) := by decide +kernel
theorem dX7_inconsistencies_23 : decode cX7_inconsistencies 23 = .ok (.if_icmp .ge 68, 3) := by decide +kernel
theorem dX7_inconsistencies_26 : decode cX7_inconsistencies 26 = .ok (.lconst 0, 1) := by decide +kernel
theorem dX7_inconsistencies_27 : decode cX7_inconsistencies 27 = .ok (.lstore 5, 2) := by decide +kernel
theorem dX7_inconsistencies_29 : decode cX7_inconsistencies 29 = .ok (.iconst 0, 1) := by decide +kernel
theorem dX7_inconsistencies_30 : decode cX7_inconsistencies 30 = .ok (.istore 7, 2) := by decide +kernel
theorem dX7_inconsistencies_32 : decode cX7_inconsistencies 32 = .ok (.iload 7, 2) := by decide +kernel
theorem dX7_inconsistencies_34 : decode cX7_inconsistencies 34 = .ok (.aload_n 0, 1) := by decide +kernel
theorem dX7_inconsistencies_35 : decode cX7_inconsistencies 35 = .ok (.getfield 45, 3) := by decide +kernel
theorem dX7_inconsistencies_38 : decode cX7_inconsistencies 38 = .ok (.iload 4, 2) := by decide +kernel
theorem dX7_inconsistencies_40 : decode cX7_inconsistencies 40 = .ok (.iaload, 1) := by decide +kernel
theorem dX7_inconsistencies_41 : decode cX7_inconsistencies 41 = .ok (.if_icmp .ge 34, 3) := by decide +kernel
theorem dX7_inconsistencies_44 : decode cX7_inconsistencies 44 = .ok (.lload 5, 2) := by decide +kernel
theorem dX7_inconsistencies_46 : decode cX7_inconsistencies 46 = .ok (.aload_n 0, 1) := by decide +kernel
theorem dX7_inconsistencies_47 : decode cX7_inconsistencies 47 = .ok (.iload 4, 2) := by decide +kernel
theorem dX7_inconsistencies_49 : decode cX7_inconsistencies 49 = .ok (.aload_n 0, 1) := by decide +kernel
theorem dX7_inconsistencies_50 : decode cX7_inconsistencies 50 = .ok (.getfield 42, 3) := by decide +kernel
theorem dX7_inconsistencies_53 : decode cX7_inconsistencies 53 = .ok (.iload 4, 2) := by decide +kernel
theorem dX7_inconsistencies_55 : decode cX7_inconsistencies 55 = .ok (.sipush 1600, 3) := by decide +kernel
theorem dX7_inconsistencies_58 : decode cX7_inconsistencies 58 = .ok (.imul, 1) := by decide +kernel
theorem dX7_inconsistencies_59 : decode cX7_inconsistencies 59 = .ok (.iload 7, 2) := by decide +kernel
theorem dX7_inconsistencies_61 : decode cX7_inconsistencies 61 = .ok (.iadd, 1) := by decide +kernel
theorem dX7_inconsistencies_62 : decode cX7_inconsistencies 62 = .ok (.iaload, 1) := by decide +kernel
theorem dX7_inconsistencies_63 : decode cX7_inconsistencies 63 = .ok (.invokevirtual 371, 3) := by decide +kernel
theorem dX7_inconsistencies_66 : decode cX7_inconsistencies 66 = .ok (.ladd, 1) := by decide +kernel
theorem dX7_inconsistencies_67 : decode cX7_inconsistencies 67 = .ok (.lstore 5, 2) := by decide +kernel
theorem dX7_inconsistencies_69 : decode cX7_inconsistencies 69 = .ok (.iinc 7 1, 3) := by decide +kernel
theorem dX7_inconsistencies_72 : decode cX7_inconsistencies 72 = .ok (.goto (-40), 3) := by decide +kernel
theorem dX7_inconsistencies_75 : decode cX7_inconsistencies 75 = .ok (.lload 5, 2) := by decide +kernel
theorem dX7_inconsistencies_77 : decode cX7_inconsistencies 77 = .ok (.lload_n 1, 1) := by decide +kernel
theorem dX7_inconsistencies_78 : decode cX7_inconsistencies 78 = .ok (.lcmp, 1) := by decide +kernel
theorem dX7_inconsistencies_79 : decode cX7_inconsistencies 79 = .ok (.ifCond .eq 6, 3) := by decide +kernel
theorem dX7_inconsistencies_82 : decode cX7_inconsistencies 82 = .ok (.iinc 3 1, 3) := by decide +kernel
theorem dX7_inconsistencies_85 : decode cX7_inconsistencies 85 = .ok (.iinc 4 1, 3) := by decide +kernel
theorem dX7_inconsistencies_88 : decode cX7_inconsistencies 88 = .ok (.goto (-73), 3) := by decide +kernel
theorem dX7_inconsistencies_91 : decode cX7_inconsistencies 91 = .ok (.iconst 0, 1) := by decide +kernel
theorem dX7_inconsistencies_92 : decode cX7_inconsistencies 92 = .ok (.istore 4, 2) := by decide +kernel
theorem dX7_inconsistencies_94 : decode cX7_inconsistencies 94 = .ok (.iload 4, 2) := by decide +kernel
theorem dX7_inconsistencies_96 : decode cX7_inconsistencies 96 = .ok (.aload_n 0, 1) := by decide +kernel
theorem dX7_inconsistencies_97 : decode cX7_inconsistencies 97 = .ok (.getfield 39, 3) := by decide +kernel
theorem dX7_inconsistencies_100 : decode cX7_inconsistencies 100 = .ok (.aload_n 0, 1) := by decide +kernel
theorem dX7_inconsistencies_101 : decode cX7_inconsistencies 101 = .ok (.getfield 9, 3) := by decide +kernel
theorem dX7_inconsistencies_104 : decode cX7_inconsistencies 104 = .ok (.iconst 2, 1) := by decide +kernel
theorem dX7_inconsistencies_105 : decode cX7_inconsistencies 105 = .ok (.iaload, 1) := by decide +kernel
theorem dX7_inconsistencies_106 : decode cX7_inconsistencies 106 = .ok (.iaload, 1) := by decide +kernel
theorem dX7_inconsistencies_107 : decode cX7_inconsistencies 107 = .ok (.if_icmp .ge 21, 3) := by decide +kernel
theorem dX7_inconsistencies_110 : decode cX7_inconsistencies 110 = .ok (.aload_n 0, 1) := by decide +kernel
theorem dX7_inconsistencies_111 : decode cX7_inconsistencies 111 = .ok (.iload 4, 2) := by decide +kernel
theorem dX7_inconsistencies_113 : decode cX7_inconsistencies 113 = .ok (.invokevirtual 392, 3) := by decide +kernel
theorem dX7_inconsistencies_116 : decode cX7_inconsistencies 116 = .ok (.ifCond .eq 6, 3) := by decide +kernel
theorem dX7_inconsistencies_119 : decode cX7_inconsistencies 119 = .ok (.iinc 3 1, 3) := by decide +kernel
theorem dX7_inconsistencies_122 : decode cX7_inconsistencies 122 = .ok (.iinc 4 1, 3) := by decide +kernel
theorem dX7_inconsistencies_125 : decode cX7_inconsistencies 125 = .ok (.goto (-31), 3) := by decide +kernel
theorem dX7_inconsistencies_128 : decode cX7_inconsistencies 128 = .ok (.iload_n 3, 1) := by decide +kernel
theorem dX7_inconsistencies_129 : decode cX7_inconsistencies 129 = .ok (.ireturn, 1) := by decide +kernel
theorem dX7_meanGames_0 : decode cX7_meanGames 0 = .ok (.aload_n 0, 1) := by decide +kernel
theorem dX7_meanGames_1 : decode cX7_meanGames 1 = .ok (.iconst 0, 1) := by decide +kernel
theorem dX7_meanGames_2 : decode cX7_meanGames 2 = .ok (.putfield 86, 3) := by decide +kernel
theorem dX7_meanGames_5 : decode cX7_meanGames 5 = .ok (.aload_n 0, 1) := by decide +kernel
theorem dX7_meanGames_6 : decode cX7_meanGames 6 = .ok (.invokevirtual 361, 3) := by decide +kernel
theorem dX7_meanGames_9 : decode cX7_meanGames 9 = .ok (.l2d, 1) := by decide +kernel
theorem dX7_meanGames_10 : decode cX7_meanGames 10 = .ok (.aload_n 0, 1) := by decide +kernel
theorem dX7_meanGames_11 : decode cX7_meanGames 11 = .ok (.getfield 39, 3) := by decide +kernel
theorem dX7_meanGames_14 : decode cX7_meanGames 14 = .ok (.aload_n 0, 1) := by decide +kernel
theorem dX7_meanGames_15 : decode cX7_meanGames 15 = .ok (.getfield 9, 3) := by decide +kernel
theorem dX7_meanGames_18 : decode cX7_meanGames 18 = .ok (.iconst 2, 1) := by decide +kernel
theorem dX7_meanGames_19 : decode cX7_meanGames 19 = .ok (.iaload, 1) := by decide +kernel
theorem dX7_meanGames_20 : decode cX7_meanGames 20 = .ok (.iaload, 1) := by decide +kernel
theorem dX7_meanGames_21 : decode cX7_meanGames 21 = .ok (.i2d, 1) := by decide +kernel
theorem dX7_meanGames_22 : decode cX7_meanGames 22 = .ok (.ddiv, 1) := by decide +kernel
theorem dX7_meanGames_23 : decode cX7_meanGames 23 = .ok (.dreturn, 1) := by decide +kernel
theorem dX7_certainShare_0 : decode cX7_certainShare 0 = .ok (.aload_n 0, 1) := by decide +kernel
theorem dX7_certainShare_1 : decode cX7_certainShare 1 = .ok (.iconst 0, 1) := by decide +kernel
theorem dX7_certainShare_2 : decode cX7_certainShare 2 = .ok (.putfield 86, 3) := by decide +kernel
theorem dX7_certainShare_5 : decode cX7_certainShare 5 = .ok (.aload_n 0, 1) := by decide +kernel
theorem dX7_certainShare_6 : decode cX7_certainShare 6 = .ok (.invokevirtual 358, 3) := by decide +kernel
theorem dX7_certainShare_9 : decode cX7_certainShare 9 = .ok (.i2f, 1) := by decide +kernel
theorem dX7_certainShare_10 : decode cX7_certainShare 10 = .ok (.aload_n 0, 1) := by decide +kernel
theorem dX7_certainShare_11 : decode cX7_certainShare 11 = .ok (.invokevirtual 120, 3) := by decide +kernel
theorem dX7_certainShare_14 : decode cX7_certainShare 14 = .ok (.i2f, 1) := by decide +kernel
theorem dX7_certainShare_15 : decode cX7_certainShare 15 = .ok (.fdiv, 1) := by decide +kernel
theorem dX7_certainShare_16 : decode cX7_certainShare 16 = .ok (.freturn, 1) := by decide +kernel
theorem dX7_out_0 : decode cX7_out 0 = .ok (.aload_n 0, 1) := by decide +kernel
theorem dX7_out_1 : decode cX7_out 1 = .ok (.getfield 29, 3) := by decide +kernel
theorem dX7_out_4 : decode cX7_out 4 = .ok (.aload_n 0, 1) := by decide +kernel
theorem dX7_out_5 : decode cX7_out 5 = .ok (.getfield 395, 3) := by decide +kernel
theorem dX7_out_8 : decode cX7_out 8 = .ok (.iload_n 1, 1) := by decide +kernel
theorem dX7_out_9 : decode cX7_out 9 = .ok (.iastore, 1) := by decide +kernel
theorem dX7_out_10 : decode cX7_out 10 = .ok (.aload_n 0, 1) := by decide +kernel
theorem dX7_out_11 : decode cX7_out 11 = .ok (.dup, 1) := by decide +kernel
theorem dX7_out_12 : decode cX7_out 12 = .ok (.getfield 395, 3) := by decide +kernel
theorem dX7_out_15 : decode cX7_out 15 = .ok (.iconst 1, 1) := by decide +kernel
theorem dX7_out_16 : decode cX7_out 16 = .ok (.iadd, 1) := by decide +kernel
theorem dX7_out_17 : decode cX7_out 17 = .ok (.putfield 395, 3) := by decide +kernel
theorem dX7_out_20 : decode cX7_out 20 = .ok (.return_, 1) := by decide +kernel
theorem dX7_letter_0 : decode cX7_letter 0 = .ok (.iload_n 0, 1) := by decide +kernel
theorem dX7_letter_1 : decode cX7_letter 1 = .ok (.ifCond .ne 6, 3) := by decide +kernel
theorem dX7_letter_4 : decode cX7_letter 4 = .ok (.bipush 46, 2) := by decide +kernel
theorem dX7_letter_6 : decode cX7_letter 6 = .ok (.ireturn, 1) := by decide +kernel
theorem dX7_letter_7 : decode cX7_letter 7 = .ok (.iload_n 0, 1) := by decide +kernel
theorem dX7_letter_8 : decode cX7_letter 8 = .ok (.invokestatic 113, 3) := by decide +kernel
theorem dX7_letter_11 : decode cX7_letter 11 = .ok (.istore_n 1, 1) := by decide +kernel
theorem dX7_letter_12 : decode cX7_letter 12 = .ok (.iload_n 1, 1) := by decide +kernel
theorem dX7_letter_13 : decode cX7_letter 13 = .ok (.ifCond .ne 8, 3) := by decide +kernel
theorem dX7_letter_16 : decode cX7_letter 16 = .ok (.bipush 75, 2) := by decide +kernel
theorem dX7_letter_18 : decode cX7_letter 18 = .ok (.goto 35, 3) := by decide +kernel
theorem dX7_letter_21 : decode cX7_letter 21 = .ok (.iload_n 1, 1) := by decide +kernel
theorem dX7_letter_22 : decode cX7_letter 22 = .ok (.iconst 1, 1) := by decide +kernel
theorem dX7_letter_23 : decode cX7_letter 23 = .ok (.if_icmp .ne 8, 3) := by decide +kernel
theorem dX7_letter_26 : decode cX7_letter 26 = .ok (.bipush 81, 2) := by decide +kernel
theorem dX7_letter_28 : decode cX7_letter 28 = .ok (.goto 25, 3) := by decide +kernel
theorem dX7_letter_31 : decode cX7_letter 31 = .ok (.iload_n 1, 1) := by decide +kernel
theorem dX7_letter_32 : decode cX7_letter 32 = .ok (.iconst 2, 1) := by decide +kernel
theorem dX7_letter_33 : decode cX7_letter 33 = .ok (.if_icmp .ne 8, 3) := by decide +kernel
theorem dX7_letter_36 : decode cX7_letter 36 = .ok (.bipush 82, 2) := by decide +kernel
theorem dX7_letter_38 : decode cX7_letter 38 = .ok (.goto 15, 3) := by decide +kernel
theorem dX7_letter_41 : decode cX7_letter 41 = .ok (.iload_n 1, 1) := by decide +kernel
theorem dX7_letter_42 : decode cX7_letter 42 = .ok (.iconst 3, 1) := by decide +kernel
theorem dX7_letter_43 : decode cX7_letter 43 = .ok (.if_icmp .ne 8, 3) := by decide +kernel
theorem dX7_letter_46 : decode cX7_letter 46 = .ok (.bipush 66, 2) := by decide +kernel
theorem dX7_letter_48 : decode cX7_letter 48 = .ok (.goto 5, 3) := by decide +kernel
theorem dX7_letter_51 : decode cX7_letter 51 = .ok (.bipush 78, 2) := by decide +kernel
theorem dX7_letter_53 : decode cX7_letter 53 = .ok (.istore_n 2, 1) := by decide +kernel
theorem dX7_letter_54 : decode cX7_letter 54 = .ok (.iload_n 0, 1) := by decide +kernel
theorem dX7_letter_55 : decode cX7_letter 55 = .ok (.invokestatic 99, 3) := by decide +kernel
theorem dX7_letter_58 : decode cX7_letter 58 = .ok (.ifCond .ne 7, 3) := by decide +kernel
theorem dX7_letter_61 : decode cX7_letter 61 = .ok (.iload_n 2, 1) := by decide +kernel
theorem dX7_letter_62 : decode cX7_letter 62 = .ok (.goto 7, 3) := by decide +kernel
theorem dX7_letter_65 : decode cX7_letter 65 = .ok (.iload_n 2, 1) := by decide +kernel
theorem dX7_letter_66 : decode cX7_letter 66 = .ok (.bipush 32, 2) := by decide +kernel
theorem dX7_letter_68 : decode cX7_letter 68 = .ok (.iadd, 1) := by decide +kernel
theorem dX7_letter_69 : decode cX7_letter 69 = .ok (.ireturn, 1) := by decide +kernel
theorem dX7_writePosition_0 : decode cX7_writePosition 0 = .ok (.aload_n 0, 1) := by decide +kernel
theorem dX7_writePosition_1 : decode cX7_writePosition 1 = .ok (.aload_n 0, 1) := by decide +kernel
theorem dX7_writePosition_2 : decode cX7_writePosition 2 = .ok (.iload_n 1, 1) := by decide +kernel
theorem dX7_writePosition_3 : decode cX7_writePosition 3 = .ok (.invokevirtual 343, 3) := by decide +kernel
theorem dX7_writePosition_6 : decode cX7_writePosition 6 = .ok (.iconst 0, 1) := by decide +kernel
theorem dX7_writePosition_7 : decode cX7_writePosition 7 = .ok (.iconst 0, 1) := by decide +kernel
theorem dX7_writePosition_8 : decode cX7_writePosition 8 = .ok (.invokevirtual 186, 3) := by decide +kernel
theorem dX7_writePosition_11 : decode cX7_writePosition 11 = .ok (.ifCond .eq 5, 3) := by decide +kernel
theorem dX7_writePosition_14 : decode cX7_writePosition 14 = .ok (.iconst 0, 1) := by decide +kernel
theorem dX7_writePosition_15 : decode cX7_writePosition 15 = .ok (.ireturn, 1) := by decide +kernel
theorem dX7_writePosition_16 : decode cX7_writePosition 16 = .ok (.aload_n 0, 1) := by decide +kernel
theorem dX7_writePosition_17 : decode cX7_writePosition 17 = .ok (.iconst 0, 1) := by decide +kernel
theorem dX7_writePosition_18 : decode cX7_writePosition 18 = .ok (.putfield 395, 3) := by decide +kernel
theorem dX7_writePosition_21 : decode cX7_writePosition 21 = .ok (.aload_n 0, 1) := by decide +kernel
theorem dX7_writePosition_22 : decode cX7_writePosition 22 = .ok (.getfield 9, 3) := by decide +kernel
theorem dX7_writePosition_25 : decode cX7_writePosition 25 = .ok (.iconst 1, 1) := by decide +kernel
theorem dX7_writePosition_26 : decode cX7_writePosition 26 = .ok (.iaload, 1) := by decide +kernel
theorem dX7_writePosition_27 : decode cX7_writePosition 27 = .ok (.iconst 1, 1) := by decide +kernel
theorem dX7_writePosition_28 : decode cX7_writePosition 28 = .ok (.isub, 1) := by decide +kernel
theorem dX7_writePosition_29 : decode cX7_writePosition 29 = .ok (.istore_n 2, 1) := by decide +kernel
theorem dX7_writePosition_30 : decode cX7_writePosition 30 = .ok (.iload_n 2, 1) := by decide +kernel
theorem dX7_writePosition_31 : decode cX7_writePosition 31 = .ok (.ifCond .lt 55, 3) := by decide +kernel
theorem dX7_writePosition_34 : decode cX7_writePosition 34 = .ok (.iconst 0, 1) := by decide +kernel
theorem dX7_writePosition_35 : decode cX7_writePosition 35 = .ok (.istore_n 3, 1) := by decide +kernel
theorem dX7_writePosition_36 : decode cX7_writePosition 36 = .ok (.iload_n 3, 1) := by decide +kernel
theorem dX7_writePosition_37 : decode cX7_writePosition 37 = .ok (.aload_n 0, 1) := by decide +kernel
theorem dX7_writePosition_38 : decode cX7_writePosition 38 = .ok (.getfield 9, 3) := by decide +kernel
theorem dX7_writePosition_41 : decode cX7_writePosition 41 = .ok (.iconst 0, 1) := by decide +kernel
theorem dX7_writePosition_42 : decode cX7_writePosition 42 = .ok (.iaload, 1) := by decide +kernel
theorem dX7_writePosition_43 : decode cX7_writePosition 43 = .ok (.if_icmp .ge 27, 3) := by decide +kernel
theorem dX7_writePosition_46 : decode cX7_writePosition 46 = .ok (.aload_n 0, 1) := by decide +kernel
theorem dX7_writePosition_47 : decode cX7_writePosition 47 = .ok (.aload_n 0, 1) := by decide +kernel
theorem dX7_writePosition_48 : decode cX7_writePosition 48 = .ok (.iload_n 1, 1) := by decide +kernel
theorem dX7_writePosition_49 : decode cX7_writePosition 49 = .ok (.aload_n 0, 1) := by decide +kernel
theorem dX7_writePosition_50 : decode cX7_writePosition 50 = .ok (.iload_n 3, 1) := by decide +kernel
theorem dX7_writePosition_51 : decode cX7_writePosition 51 = .ok (.iload_n 2, 1) := by decide +kernel
theorem dX7_writePosition_52 : decode cX7_writePosition 52 = .ok (.invokevirtual 349, 3) := by decide +kernel
theorem dX7_writePosition_55 : decode cX7_writePosition 55 = .ok (.invokevirtual 352, 3) := by decide +kernel
theorem dX7_writePosition_58 : decode cX7_writePosition 58 = .ok (.invokestatic 398, 3) := by decide +kernel
theorem dX7_writePosition_61 : decode cX7_writePosition 61 = .ok (.invokevirtual 401, 3) := by decide +kernel
theorem dX7_writePosition_64 : decode cX7_writePosition 64 = .ok (.iinc 3 1, 3) := by decide +kernel
theorem dX7_writePosition_67 : decode cX7_writePosition 67 = .ok (.goto (-31), 3) := by decide +kernel
theorem dX7_writePosition_70 : decode cX7_writePosition 70 = .ok (.iload_n 2, 1) := by decide +kernel
theorem dX7_writePosition_71 : decode cX7_writePosition 71 = .ok (.ifCond .le 9, 3) := by decide +kernel
theorem dX7_writePosition_74 : decode cX7_writePosition 74 = .ok (.aload_n 0, 1) := by decide +kernel
theorem dX7_writePosition_75 : decode cX7_writePosition 75 = .ok (.bipush 10, 2) := by decide +kernel
theorem dX7_writePosition_77 : decode cX7_writePosition 77 = .ok (.invokevirtual 401, 3) := by decide +kernel
theorem dX7_writePosition_80 : decode cX7_writePosition 80 = .ok (.iinc 2 (-1), 3) := by decide +kernel
theorem dX7_writePosition_83 : decode cX7_writePosition 83 = .ok (.goto (-53), 3) := by decide +kernel
theorem dX7_writePosition_86 : decode cX7_writePosition 86 = .ok (.aload_n 0, 1) := by decide +kernel
theorem dX7_writePosition_87 : decode cX7_writePosition 87 = .ok (.getfield 395, 3) := by decide +kernel
theorem dX7_writePosition_90 : decode cX7_writePosition 90 = .ok (.ireturn, 1) := by decide +kernel
theorem dX7_outputByte_0 : decode cX7_outputByte 0 = .ok (.aload_n 0, 1) := by decide +kernel
theorem dX7_outputByte_1 : decode cX7_outputByte 1 = .ok (.iconst 0, 1) := by decide +kernel
theorem dX7_outputByte_2 : decode cX7_outputByte 2 = .ok (.putfield 86, 3) := by decide +kernel
theorem dX7_outputByte_5 : decode cX7_outputByte 5 = .ok (.iload_n 1, 1) := by decide +kernel
theorem dX7_outputByte_6 : decode cX7_outputByte 6 = .ok (.iconst 0, 1) := by decide +kernel
theorem dX7_outputByte_7 : decode cX7_outputByte 7 = .ok (.aload_n 0, 1) := by decide +kernel
theorem dX7_outputByte_8 : decode cX7_outputByte 8 = .ok (.getfield 395, 3) := by decide +kernel
theorem dX7_outputByte_11 : decode cX7_outputByte 11 = .ok (.iconst 1, 1) := by decide +kernel
theorem dX7_outputByte_12 : decode cX7_outputByte 12 = .ok (.isub, 1) := by decide +kernel
theorem dX7_outputByte_13 : decode cX7_outputByte 13 = .ok (.invokestatic 182, 3) := by decide +kernel
theorem dX7_outputByte_16 : decode cX7_outputByte 16 = .ok (.ifCond .eq 12, 3) := by decide +kernel
theorem dX7_outputByte_19 : decode cX7_outputByte 19 = .ok (.aload_n 0, 1) := by decide +kernel
theorem dX7_outputByte_20 : decode cX7_outputByte 20 = .ok (.getfield 29, 3) := by decide +kernel
theorem dX7_outputByte_23 : decode cX7_outputByte 23 = .ok (.iload_n 1, 1) := by decide +kernel
theorem dX7_outputByte_24 : decode cX7_outputByte 24 = .ok (.iaload, 1) := by decide +kernel
theorem dX7_outputByte_25 : decode cX7_outputByte 25 = .ok (.goto 4, 3) := by decide +kernel
theorem dX7_outputByte_28 : decode cX7_outputByte 28 = .ok (.iconst (-1), 1) := by decide +kernel
theorem dX7_outputByte_29 : decode cX7_outputByte 29 = .ok (.ireturn, 1) := by decide +kernel
theorem dJ6_signum_0f7a4_0 : decode cJ6_signum_0f7a4 0 = .ok (.iload_n 0, 1) := by decide +kernel
theorem dJ6_signum_0f7a4_1 : decode cJ6_signum_0f7a4 1 = .ok (.bipush 31, 2) := by decide +kernel
theorem dJ6_signum_0f7a4_3 : decode cJ6_signum_0f7a4 3 = .ok (.ishr, 1) := by decide +kernel
theorem dJ6_signum_0f7a4_4 : decode cJ6_signum_0f7a4 4 = .ok (.iload_n 0, 1) := by decide +kernel
theorem dJ6_signum_0f7a4_5 : decode cJ6_signum_0f7a4 5 = .ok (.ineg, 1) := by decide +kernel
theorem dJ6_signum_0f7a4_6 : decode cJ6_signum_0f7a4 6 = .ok (.bipush 31, 2) := by decide +kernel
theorem dJ6_signum_0f7a4_8 : decode cJ6_signum_0f7a4 8 = .ok (.iushr, 1) := by decide +kernel
theorem dJ6_signum_0f7a4_9 : decode cJ6_signum_0f7a4 9 = .ok (.ior, 1) := by decide +kernel
theorem dJ6_signum_0f7a4_10 : decode cJ6_signum_0f7a4 10 = .ok (.ireturn, 1) := by decide +kernel
theorem dJ0_length_8abf5_0 : decode cJ0_length_8abf5 0 = .ok (.aload_n 0, 1) := by decide +kernel
theorem dJ0_length_8abf5_1 : decode cJ0_length_8abf5 1 = .ok (.getfield 9, 3) := by decide +kernel
theorem dJ0_length_8abf5_4 : decode cJ0_length_8abf5 4 = .ok (.arraylength, 1) := by decide +kernel
theorem dJ0_length_8abf5_5 : decode cJ0_length_8abf5 5 = .ok (.aload_n 0, 1) := by decide +kernel
theorem dJ0_length_8abf5_6 : decode cJ0_length_8abf5 6 = .ok (.invokevirtual 335, 3) := by decide +kernel
theorem dJ0_length_8abf5_9 : decode cJ0_length_8abf5 9 = .ok (.ishr, 1) := by decide +kernel
theorem dJ0_length_8abf5_10 : decode cJ0_length_8abf5 10 = .ok (.ireturn, 1) := by decide +kernel
theorem dJ0_charAt_5068e_0 : decode cJ0_charAt_5068e 0 = .ok (.aload_n 0, 1) := by decide +kernel
theorem dJ0_charAt_5068e_1 : decode cJ0_charAt_5068e 1 = .ok (.invokevirtual 492, 3) := by decide +kernel
theorem dJ0_charAt_5068e_4 : decode cJ0_charAt_5068e 4 = .ok (.ifCond .eq 12, 3) := by decide +kernel
theorem dJ0_charAt_5068e_7 : decode cJ0_charAt_5068e 7 = .ok (.aload_n 0, 1) := by decide +kernel
theorem dJ0_charAt_5068e_8 : decode cJ0_charAt_5068e 8 = .ok (.getfield 9, 3) := by decide +kernel
theorem dJ0_charAt_5068e_11 : decode cJ0_charAt_5068e 11 = .ok (.iload_n 1, 1) := by decide +kernel
theorem dJ0_charAt_5068e_12 : decode cJ0_charAt_5068e 12 = .ok (.invokestatic 495, 3) := by decide +kernel
theorem dJ0_charAt_5068e_15 : decode cJ0_charAt_5068e 15 = .ok (.ireturn, 1) := by decide +kernel
theorem dJ0_charAt_5068e_16 : decode cJ0_charAt_5068e 16 = .ok (.aload_n 0, 1) := by decide +kernel
theorem dJ0_charAt_5068e_17 : decode cJ0_charAt_5068e 17 = .ok (.getfield 9, 3) := by decide +kernel
theorem dJ0_charAt_5068e_20 : decode cJ0_charAt_5068e 20 = .ok (.iload_n 1, 1) := by decide +kernel
theorem dJ0_charAt_5068e_21 : decode cJ0_charAt_5068e 21 = .ok (.invokestatic 498, 3) := by decide +kernel
theorem dJ0_charAt_5068e_24 : decode cJ0_charAt_5068e 24 = .ok (.ireturn, 1) := by decide +kernel
theorem dJ0_coder_7d493_0 : decode cJ0_coder_7d493 0 = .ok (.getstatic 38, 3) := by decide +kernel
theorem dJ0_coder_7d493_3 : decode cJ0_coder_7d493 3 = .ok (.ifCond .eq 10, 3) := by decide +kernel
theorem dJ0_coder_7d493_6 : decode cJ0_coder_7d493 6 = .ok (.aload_n 0, 1) := by decide +kernel
theorem dJ0_coder_7d493_7 : decode cJ0_coder_7d493 7 = .ok (.getfield 15, 3) := by decide +kernel
theorem dJ0_coder_7d493_10 : decode cJ0_coder_7d493 10 = .ok (.goto 4, 3) := by decide +kernel
theorem dJ0_coder_7d493_13 : decode cJ0_coder_7d493 13 = .ok (.iconst 1, 1) := by decide +kernel
theorem dJ0_coder_7d493_14 : decode cJ0_coder_7d493 14 = .ok (.ireturn, 1) := by decide +kernel
theorem dJ0_isLatin1_aae02_0 : decode cJ0_isLatin1_aae02 0 = .ok (.getstatic 38, 3) := by decide +kernel
theorem dJ0_isLatin1_aae02_3 : decode cJ0_isLatin1_aae02 3 = .ok (.ifCond .eq 14, 3) := by decide +kernel
theorem dJ0_isLatin1_aae02_6 : decode cJ0_isLatin1_aae02 6 = .ok (.aload_n 0, 1) := by decide +kernel
theorem dJ0_isLatin1_aae02_7 : decode cJ0_isLatin1_aae02 7 = .ok (.getfield 15, 3) := by decide +kernel
theorem dJ0_isLatin1_aae02_10 : decode cJ0_isLatin1_aae02 10 = .ok (.ifCond .ne 7, 3) := by decide +kernel
theorem dJ0_isLatin1_aae02_13 : decode cJ0_isLatin1_aae02 13 = .ok (.iconst 1, 1) := by decide +kernel
theorem dJ0_isLatin1_aae02_14 : decode cJ0_isLatin1_aae02 14 = .ok (.goto 4, 3) := by decide +kernel
theorem dJ0_isLatin1_aae02_17 : decode cJ0_isLatin1_aae02 17 = .ok (.iconst 0, 1) := by decide +kernel
theorem dJ0_isLatin1_aae02_18 : decode cJ0_isLatin1_aae02 18 = .ok (.ireturn, 1) := by decide +kernel
theorem dJ0_checkIndex_df160_0 : decode cJ0_checkIndex_df160 0 = .ok (.iload_n 0, 1) := by decide +kernel
theorem dJ0_checkIndex_df160_1 : decode cJ0_checkIndex_df160 1 = .ok (.iload_n 1, 1) := by decide +kernel
theorem dJ0_checkIndex_df160_2 : decode cJ0_checkIndex_df160 2 = .ok (.getstatic 1053, 3) := by decide +kernel
theorem dJ0_checkIndex_df160_5 : decode cJ0_checkIndex_df160 5 = .ok (.invokestatic 1059, 3) := by decide +kernel
theorem dJ0_checkIndex_df160_8 : decode cJ0_checkIndex_df160 8 = .ok (.pop, 1) := by decide +kernel
theorem dJ0_checkIndex_df160_9 : decode cJ0_checkIndex_df160 9 = .ok (.return_, 1) := by decide +kernel
theorem dJ1_charAt_3b067_0 : decode cJ1_charAt_3b067 0 = .ok (.iload_n 1, 1) := by decide +kernel
theorem dJ1_charAt_3b067_1 : decode cJ1_charAt_3b067 1 = .ok (.aload_n 0, 1) := by decide +kernel
theorem dJ1_charAt_3b067_2 : decode cJ1_charAt_3b067 2 = .ok (.arraylength, 1) := by decide +kernel
theorem dJ1_charAt_3b067_3 : decode cJ1_charAt_3b067 3 = .ok (.invokestatic 9, 3) := by decide +kernel
theorem dJ1_charAt_3b067_6 : decode cJ1_charAt_3b067 6 = .ok (.aload_n 0, 1) := by decide +kernel
theorem dJ1_charAt_3b067_7 : decode cJ1_charAt_3b067 7 = .ok (.iload_n 1, 1) := by decide +kernel
theorem dJ1_charAt_3b067_8 : decode cJ1_charAt_3b067 8 = .ok (.baload, 1) := by decide +kernel
theorem dJ1_charAt_3b067_9 : decode cJ1_charAt_3b067 9 = .ok (.sipush 255, 3) := by decide +kernel
theorem dJ1_charAt_3b067_12 : decode cJ1_charAt_3b067 12 = .ok (.iand, 1) := by decide +kernel
theorem dJ1_charAt_3b067_13 : decode cJ1_charAt_3b067 13 = .ok (.i2c, 1) := by decide +kernel
theorem dJ1_charAt_3b067_14 : decode cJ1_charAt_3b067 14 = .ok (.ireturn, 1) := by decide +kernel
theorem dJ7_rangeCheck_23922_0 : decode cJ7_rangeCheck_23922 0 = .ok (.iload_n 1, 1) := by decide +kernel
theorem dJ7_rangeCheck_23922_1 : decode cJ7_rangeCheck_23922 1 = .ok (.iload_n 2, 1) := by decide +kernel
theorem dJ7_rangeCheck_23922_2 : decode cJ7_rangeCheck_23922 2 = .ok (.if_icmp .le 44, 3) := by decide +kernel
theorem dJ7_rangeCheck_23922_5 : decode cJ7_rangeCheck_23922 5 = .ok (.new 43, 3) := by decide +kernel
theorem dJ7_rangeCheck_23922_8 : decode cJ7_rangeCheck_23922 8 = .ok (.dup, 1) := by decide +kernel
theorem dJ7_rangeCheck_23922_9 : decode cJ7_rangeCheck_23922 9 = .ok (.new 45, 3) := by decide +kernel
theorem dJ7_rangeCheck_23922_12 : decode cJ7_rangeCheck_23922 12 = .ok (.dup, 1) := by decide +kernel
theorem dJ7_rangeCheck_23922_13 : decode cJ7_rangeCheck_23922 13 = .ok (.invokespecial 47, 3) := by decide +kernel
theorem dJ7_rangeCheck_23922_16 : decode cJ7_rangeCheck_23922 16 = .ok (.ldc 48, 2) := by decide +kernel
theorem dJ7_rangeCheck_23922_18 : decode cJ7_rangeCheck_23922 18 = .ok (.invokevirtual 50, 3) := by decide +kernel
theorem dJ7_rangeCheck_23922_21 : decode cJ7_rangeCheck_23922 21 = .ok (.iload_n 1, 1) := by decide +kernel
theorem dJ7_rangeCheck_23922_22 : decode cJ7_rangeCheck_23922 22 = .ok (.invokevirtual 54, 3) := by decide +kernel
theorem dJ7_rangeCheck_23922_25 : decode cJ7_rangeCheck_23922 25 = .ok (.ldc 57, 2) := by decide +kernel
theorem dJ7_rangeCheck_23922_27 : decode cJ7_rangeCheck_23922 27 = .ok (.invokevirtual 50, 3) := by decide +kernel
theorem dJ7_rangeCheck_23922_30 : decode cJ7_rangeCheck_23922 30 = .ok (.iload_n 2, 1) := by decide +kernel
theorem dJ7_rangeCheck_23922_31 : decode cJ7_rangeCheck_23922 31 = .ok (.invokevirtual 54, 3) := by decide +kernel
theorem dJ7_rangeCheck_23922_34 : decode cJ7_rangeCheck_23922 34 = .ok (.ldc 59, 2) := by decide +kernel
theorem dJ7_rangeCheck_23922_36 : decode cJ7_rangeCheck_23922 36 = .ok (.invokevirtual 50, 3) := by decide +kernel
theorem dJ7_rangeCheck_23922_39 : decode cJ7_rangeCheck_23922 39 = .ok (.invokevirtual 61, 3) := by decide +kernel
theorem dJ7_rangeCheck_23922_42 : decode cJ7_rangeCheck_23922 42 = .ok (.invokespecial 65, 3) := by decide +kernel
theorem dJ7_rangeCheck_23922_45 : decode cJ7_rangeCheck_23922 45 = .ok (.athrow, 1) := by decide +kernel
theorem dJ7_rangeCheck_23922_46 : decode cJ7_rangeCheck_23922 46 = .ok (.iload_n 1, 1) := by decide +kernel
theorem dJ7_rangeCheck_23922_47 : decode cJ7_rangeCheck_23922 47 = .ok (.ifCond .ge 12, 3) := by decide +kernel
theorem dJ7_rangeCheck_23922_50 : decode cJ7_rangeCheck_23922 50 = .ok (.new 68, 3) := by decide +kernel
theorem dJ7_rangeCheck_23922_53 : decode cJ7_rangeCheck_23922 53 = .ok (.dup, 1) := by decide +kernel
theorem dJ7_rangeCheck_23922_54 : decode cJ7_rangeCheck_23922 54 = .ok (.iload_n 1, 1) := by decide +kernel
theorem dJ7_rangeCheck_23922_55 : decode cJ7_rangeCheck_23922 55 = .ok (.invokespecial 70, 3) := by decide +kernel
theorem dJ7_rangeCheck_23922_58 : decode cJ7_rangeCheck_23922 58 = .ok (.athrow, 1) := by decide +kernel
theorem dJ7_rangeCheck_23922_59 : decode cJ7_rangeCheck_23922 59 = .ok (.iload_n 2, 1) := by decide +kernel
theorem dJ7_rangeCheck_23922_60 : decode cJ7_rangeCheck_23922 60 = .ok (.iload_n 0, 1) := by decide +kernel
theorem dJ7_rangeCheck_23922_61 : decode cJ7_rangeCheck_23922 61 = .ok (.if_icmp .le 12, 3) := by decide +kernel
theorem dJ7_rangeCheck_23922_64 : decode cJ7_rangeCheck_23922 64 = .ok (.new 68, 3) := by decide +kernel
theorem dJ7_rangeCheck_23922_67 : decode cJ7_rangeCheck_23922 67 = .ok (.dup, 1) := by decide +kernel
theorem dJ7_rangeCheck_23922_68 : decode cJ7_rangeCheck_23922 68 = .ok (.iload_n 2, 1) := by decide +kernel
theorem dJ7_rangeCheck_23922_69 : decode cJ7_rangeCheck_23922 69 = .ok (.invokespecial 70, 3) := by decide +kernel
theorem dJ7_rangeCheck_23922_72 : decode cJ7_rangeCheck_23922 72 = .ok (.athrow, 1) := by decide +kernel
theorem dJ7_rangeCheck_23922_73 : decode cJ7_rangeCheck_23922 73 = .ok (.return_, 1) := by decide +kernel
theorem dJ7_fill_d0a16_0 : decode cJ7_fill_d0a16 0 = .ok (.iconst 0, 1) := by decide +kernel
theorem dJ7_fill_d0a16_1 : decode cJ7_fill_d0a16 1 = .ok (.istore_n 3, 1) := by decide +kernel
theorem dJ7_fill_d0a16_2 : decode cJ7_fill_d0a16 2 = .ok (.aload_n 0, 1) := by decide +kernel
theorem dJ7_fill_d0a16_3 : decode cJ7_fill_d0a16 3 = .ok (.arraylength, 1) := by decide +kernel
theorem dJ7_fill_d0a16_4 : decode cJ7_fill_d0a16 4 = .ok (.istore 4, 2) := by decide +kernel
theorem dJ7_fill_d0a16_6 : decode cJ7_fill_d0a16 6 = .ok (.iload_n 3, 1) := by decide +kernel
theorem dJ7_fill_d0a16_7 : decode cJ7_fill_d0a16 7 = .ok (.iload 4, 2) := by decide +kernel
theorem dJ7_fill_d0a16_9 : decode cJ7_fill_d0a16 9 = .ok (.if_icmp .ge 13, 3) := by decide +kernel
theorem dJ7_fill_d0a16_12 : decode cJ7_fill_d0a16 12 = .ok (.aload_n 0, 1) := by decide +kernel
theorem dJ7_fill_d0a16_13 : decode cJ7_fill_d0a16 13 = .ok (.iload_n 3, 1) := by decide +kernel
theorem dJ7_fill_d0a16_14 : decode cJ7_fill_d0a16 14 = .ok (.lload_n 1, 1) := by decide +kernel
theorem dJ7_fill_d0a16_15 : decode cJ7_fill_d0a16 15 = .ok (.lastore, 1) := by decide +kernel
theorem dJ7_fill_d0a16_16 : decode cJ7_fill_d0a16 16 = .ok (.iinc 3 1, 3) := by decide +kernel
theorem dJ7_fill_d0a16_19 : decode cJ7_fill_d0a16 19 = .ok (.goto (-13), 3) := by decide +kernel
theorem dJ7_fill_d0a16_22 : decode cJ7_fill_d0a16 22 = .ok (.return_, 1) := by decide +kernel
theorem dJ7_fill_bad5a_0 : decode cJ7_fill_bad5a 0 = .ok (.aload_n 0, 1) := by decide +kernel
theorem dJ7_fill_bad5a_1 : decode cJ7_fill_bad5a 1 = .ok (.arraylength, 1) := by decide +kernel
theorem dJ7_fill_bad5a_2 : decode cJ7_fill_bad5a 2 = .ok (.iload_n 1, 1) := by decide +kernel
theorem dJ7_fill_bad5a_3 : decode cJ7_fill_bad5a 3 = .ok (.iload_n 2, 1) := by decide +kernel
theorem dJ7_fill_bad5a_4 : decode cJ7_fill_bad5a 4 = .ok (.invokestatic 13, 3) := by decide +kernel
theorem dJ7_fill_bad5a_7 : decode cJ7_fill_bad5a 7 = .ok (.iload_n 1, 1) := by decide +kernel
theorem dJ7_fill_bad5a_8 : decode cJ7_fill_bad5a 8 = .ok (.istore 5, 2) := by decide +kernel
theorem dJ7_fill_bad5a_10 : decode cJ7_fill_bad5a 10 = .ok (.iload 5, 2) := by decide +kernel
theorem dJ7_fill_bad5a_12 : decode cJ7_fill_bad5a 12 = .ok (.iload_n 2, 1) := by decide +kernel
theorem dJ7_fill_bad5a_13 : decode cJ7_fill_bad5a 13 = .ok (.if_icmp .ge 14, 3) := by decide +kernel
theorem dJ7_fill_bad5a_16 : decode cJ7_fill_bad5a 16 = .ok (.aload_n 0, 1) := by decide +kernel
theorem dJ7_fill_bad5a_17 : decode cJ7_fill_bad5a 17 = .ok (.iload 5, 2) := by decide +kernel
theorem dJ7_fill_bad5a_19 : decode cJ7_fill_bad5a 19 = .ok (.lload_n 3, 1) := by decide +kernel
theorem dJ7_fill_bad5a_20 : decode cJ7_fill_bad5a 20 = .ok (.lastore, 1) := by decide +kernel
theorem dJ7_fill_bad5a_21 : decode cJ7_fill_bad5a 21 = .ok (.iinc 5 1, 3) := by decide +kernel
theorem dJ7_fill_bad5a_24 : decode cJ7_fill_bad5a 24 = .ok (.goto (-14), 3) := by decide +kernel
theorem dJ7_fill_bad5a_27 : decode cJ7_fill_bad5a 27 = .ok (.return_, 1) := by decide +kernel
theorem dJ7_fill_53178_0 : decode cJ7_fill_53178 0 = .ok (.iconst 0, 1) := by decide +kernel
theorem dJ7_fill_53178_1 : decode cJ7_fill_53178 1 = .ok (.istore_n 2, 1) := by decide +kernel
theorem dJ7_fill_53178_2 : decode cJ7_fill_53178 2 = .ok (.aload_n 0, 1) := by decide +kernel
theorem dJ7_fill_53178_3 : decode cJ7_fill_53178 3 = .ok (.arraylength, 1) := by decide +kernel
theorem dJ7_fill_53178_4 : decode cJ7_fill_53178 4 = .ok (.istore_n 3, 1) := by decide +kernel
theorem dJ7_fill_53178_5 : decode cJ7_fill_53178 5 = .ok (.iload_n 2, 1) := by decide +kernel
theorem dJ7_fill_53178_6 : decode cJ7_fill_53178 6 = .ok (.iload_n 3, 1) := by decide +kernel
theorem dJ7_fill_53178_7 : decode cJ7_fill_53178 7 = .ok (.if_icmp .ge 13, 3) := by decide +kernel
theorem dJ7_fill_53178_10 : decode cJ7_fill_53178 10 = .ok (.aload_n 0, 1) := by decide +kernel
theorem dJ7_fill_53178_11 : decode cJ7_fill_53178 11 = .ok (.iload_n 2, 1) := by decide +kernel
theorem dJ7_fill_53178_12 : decode cJ7_fill_53178 12 = .ok (.iload_n 1, 1) := by decide +kernel
theorem dJ7_fill_53178_13 : decode cJ7_fill_53178 13 = .ok (.iastore, 1) := by decide +kernel
theorem dJ7_fill_53178_14 : decode cJ7_fill_53178 14 = .ok (.iinc 2 1, 3) := by decide +kernel
theorem dJ7_fill_53178_17 : decode cJ7_fill_53178 17 = .ok (.goto (-12), 3) := by decide +kernel
theorem dJ7_fill_53178_20 : decode cJ7_fill_53178 20 = .ok (.return_, 1) := by decide +kernel
theorem dJ7_copyOf_59c91_0 : decode cJ7_copyOf_59c91 0 = .ok (.iload_n 1, 1) := by decide +kernel
theorem dJ7_copyOf_59c91_1 : decode cJ7_copyOf_59c91 1 = .ok (.aload_n 0, 1) := by decide +kernel
theorem dJ7_copyOf_59c91_2 : decode cJ7_copyOf_59c91 2 = .ok (.arraylength, 1) := by decide +kernel
theorem dJ7_copyOf_59c91_3 : decode cJ7_copyOf_59c91 3 = .ok (.if_icmp .ne 11, 3) := by decide +kernel
theorem dJ7_copyOf_59c91_6 : decode cJ7_copyOf_59c91 6 = .ok (.aload_n 0, 1) := by decide +kernel
theorem dJ7_copyOf_59c91_7 : decode cJ7_copyOf_59c91 7 = .ok (.invokevirtual 316, 3) := by decide +kernel
theorem dJ7_copyOf_59c91_10 : decode cJ7_copyOf_59c91 10 = .ok (.checkcast 317, 3) := by decide +kernel
theorem dJ7_copyOf_59c91_13 : decode cJ7_copyOf_59c91 13 = .ok (.areturn, 1) := by decide +kernel
theorem dJ7_copyOf_59c91_14 : decode cJ7_copyOf_59c91 14 = .ok (.iload_n 1, 1) := by decide +kernel
theorem dJ7_copyOf_59c91_15 : decode cJ7_copyOf_59c91 15 = .ok (.newarray .int, 2) := by decide +kernel
theorem dJ7_copyOf_59c91_17 : decode cJ7_copyOf_59c91 17 = .ok (.astore_n 2, 1) := by decide +kernel
theorem dJ7_copyOf_59c91_18 : decode cJ7_copyOf_59c91 18 = .ok (.aload_n 0, 1) := by decide +kernel
theorem dJ7_copyOf_59c91_19 : decode cJ7_copyOf_59c91 19 = .ok (.iconst 0, 1) := by decide +kernel
theorem dJ7_copyOf_59c91_20 : decode cJ7_copyOf_59c91 20 = .ok (.aload_n 2, 1) := by decide +kernel
theorem dJ7_copyOf_59c91_21 : decode cJ7_copyOf_59c91 21 = .ok (.iconst 0, 1) := by decide +kernel
theorem dJ7_copyOf_59c91_22 : decode cJ7_copyOf_59c91 22 = .ok (.aload_n 0, 1) := by decide +kernel
theorem dJ7_copyOf_59c91_23 : decode cJ7_copyOf_59c91 23 = .ok (.arraylength, 1) := by decide +kernel
theorem dJ7_copyOf_59c91_24 : decode cJ7_copyOf_59c91 24 = .ok (.iload_n 1, 1) := by decide +kernel
theorem dJ7_copyOf_59c91_25 : decode cJ7_copyOf_59c91 25 = .ok (.invokestatic 304, 3) := by decide +kernel
theorem dJ7_copyOf_59c91_28 : decode cJ7_copyOf_59c91 28 = .ok (.invokestatic 150, 3) := by decide +kernel
theorem dJ7_copyOf_59c91_31 : decode cJ7_copyOf_59c91 31 = .ok (.aload_n 2, 1) := by decide +kernel
theorem dJ7_copyOf_59c91_32 : decode cJ7_copyOf_59c91 32 = .ok (.areturn, 1) := by decide +kernel
theorem dJ3_checkIndex_8e157_0 : decode cJ3_checkIndex_8e157 0 = .ok (.iload_n 0, 1) := by decide +kernel
theorem dJ3_checkIndex_8e157_1 : decode cJ3_checkIndex_8e157 1 = .ok (.ifCond .lt 8, 3) := by decide +kernel
theorem dJ3_checkIndex_8e157_4 : decode cJ3_checkIndex_8e157 4 = .ok (.iload_n 0, 1) := by decide +kernel
theorem dJ3_checkIndex_8e157_5 : decode cJ3_checkIndex_8e157 5 = .ok (.iload_n 1, 1) := by decide +kernel
theorem dJ3_checkIndex_8e157_6 : decode cJ3_checkIndex_8e157 6 = .ok (.if_icmp .lt 10, 3) := by decide +kernel
theorem dJ3_checkIndex_8e157_9 : decode cJ3_checkIndex_8e157 9 = .ok (.aload_n 2, 1) := by decide +kernel
theorem dJ3_checkIndex_8e157_10 : decode cJ3_checkIndex_8e157 10 = .ok (.iload_n 0, 1) := by decide +kernel
theorem dJ3_checkIndex_8e157_11 : decode cJ3_checkIndex_8e157 11 = .ok (.iload_n 1, 1) := by decide +kernel
theorem dJ3_checkIndex_8e157_12 : decode cJ3_checkIndex_8e157 12 = .ok (.invokestatic 95, 3) := by decide +kernel
theorem dJ3_checkIndex_8e157_15 : decode cJ3_checkIndex_8e157 15 = .ok (.athrow, 1) := by decide +kernel
theorem dJ3_checkIndex_8e157_16 : decode cJ3_checkIndex_8e157 16 = .ok (.iload_n 0, 1) := by decide +kernel
theorem dJ3_checkIndex_8e157_17 : decode cJ3_checkIndex_8e157 17 = .ok (.ireturn, 1) := by decide +kernel
theorem dL_truncateInput_0 : decode cL_truncateInput 0 = .ok (.aload_n 2, 1) := by decide +kernel
theorem dL_truncateInput_1 : decode cL_truncateInput 1 = .ok (.iconst 0, 1) := by decide +kernel
theorem dL_truncateInput_2 : decode cL_truncateInput 2 = .ok (.aload_n 0, 1) := by decide +kernel
theorem dL_truncateInput_3 : decode cL_truncateInput 3 = .ok (.iload_n 1, 1) := by decide +kernel
theorem dL_truncateInput_4 : decode cL_truncateInput 4 = .ok (.invokevirtual 7, 3) := by decide +kernel
theorem dL_truncateInput_7 : decode cL_truncateInput 7 = .ok (.i2l, 1) := by decide +kernel
theorem dL_truncateInput_8 : decode cL_truncateInput 8 = .ok (.lastore, 1) := by decide +kernel
theorem dL_truncateInput_9 : decode cL_truncateInput 9 = .ok (.goto 6, 3) := by decide +kernel
theorem dL_truncateInput_12 : decode cL_truncateInput 12 = .ok (.astore_n 3, 1) := by decide +kernel
theorem dL_truncateInput_13 : decode cL_truncateInput 13 = .ok (.iconst 1, 1) := by decide +kernel
theorem dL_truncateInput_14 : decode cL_truncateInput 14 = .ok (.ireturn, 1) := by decide +kernel
theorem dL_truncateInput_15 : decode cL_truncateInput 15 = .ok (.iconst 0, 1) := by decide +kernel
theorem dL_truncateInput_16 : decode cL_truncateInput 16 = .ok (.ireturn, 1) := by decide +kernel
theorem dL_addNote_0 : decode cL_addNote 0 = .ok (.aload 7, 2) := by decide +kernel
theorem dL_addNote_2 : decode cL_addNote 2 = .ok (.iconst 0, 1) := by decide +kernel
theorem dL_addNote_3 : decode cL_addNote 3 = .ok (.aload_n 0, 1) := by decide +kernel
theorem dL_addNote_4 : decode cL_addNote 4 = .ok (.iload_n 1, 1) := by decide +kernel
theorem dL_addNote_5 : decode cL_addNote 5 = .ok (.iload_n 2, 1) := by decide +kernel
theorem dL_addNote_6 : decode cL_addNote 6 = .ok (.iload_n 3, 1) := by decide +kernel
theorem dL_addNote_7 : decode cL_addNote 7 = .ok (.iload 4, 2) := by decide +kernel
theorem dL_addNote_9 : decode cL_addNote 9 = .ok (.iload 5, 2) := by decide +kernel
theorem dL_addNote_11 : decode cL_addNote 11 = .ok (.iload 6, 2) := by decide +kernel
theorem dL_addNote_13 : decode cL_addNote 13 = .ok (.invokevirtual 15, 3) := by decide +kernel
theorem dL_addNote_16 : decode cL_addNote 16 = .ok (.i2l, 1) := by decide +kernel
theorem dL_addNote_17 : decode cL_addNote 17 = .ok (.lastore, 1) := by decide +kernel
theorem dL_addNote_18 : decode cL_addNote 18 = .ok (.goto 11, 3) := by decide +kernel
theorem dL_addNote_21 : decode cL_addNote 21 = .ok (.astore 8, 2) := by decide +kernel
theorem dL_addNote_23 : decode cL_addNote 23 = .ok (.iconst 1, 1) := by decide +kernel
theorem dL_addNote_24 : decode cL_addNote 24 = .ok (.ireturn, 1) := by decide +kernel
theorem dL_addNote_25 : decode cL_addNote 25 = .ok (.astore 8, 2) := by decide +kernel
theorem dL_addNote_27 : decode cL_addNote 27 = .ok (.iconst 2, 1) := by decide +kernel
theorem dL_addNote_28 : decode cL_addNote 28 = .ok (.ireturn, 1) := by decide +kernel
theorem dL_addNote_29 : decode cL_addNote 29 = .ok (.iconst 0, 1) := by decide +kernel
theorem dL_addNote_30 : decode cL_addNote 30 = .ok (.ireturn, 1) := by decide +kernel
theorem dL_clarify_0 : decode cL_clarify 0 = .ok (.aload 4, 2) := by decide +kernel
theorem dL_clarify_2 : decode cL_clarify 2 = .ok (.iconst 0, 1) := by decide +kernel
theorem dL_clarify_3 : decode cL_clarify 3 = .ok (.aload_n 0, 1) := by decide +kernel
theorem dL_clarify_4 : decode cL_clarify 4 = .ok (.iload_n 1, 1) := by decide +kernel
theorem dL_clarify_5 : decode cL_clarify 5 = .ok (.iload_n 2, 1) := by decide +kernel
theorem dL_clarify_6 : decode cL_clarify 6 = .ok (.iload_n 3, 1) := by decide +kernel
theorem dL_clarify_7 : decode cL_clarify 7 = .ok (.invokevirtual 21, 3) := by decide +kernel
theorem dL_clarify_10 : decode cL_clarify 10 = .ok (.i2l, 1) := by decide +kernel
theorem dL_clarify_11 : decode cL_clarify 11 = .ok (.lastore, 1) := by decide +kernel
theorem dL_clarify_12 : decode cL_clarify 12 = .ok (.goto 15, 3) := by decide +kernel
theorem dL_clarify_15 : decode cL_clarify 15 = .ok (.astore 5, 2) := by decide +kernel
theorem dL_clarify_17 : decode cL_clarify 17 = .ok (.iconst 1, 1) := by decide +kernel
theorem dL_clarify_18 : decode cL_clarify 18 = .ok (.ireturn, 1) := by decide +kernel
theorem dL_clarify_19 : decode cL_clarify 19 = .ok (.astore 5, 2) := by decide +kernel
theorem dL_clarify_21 : decode cL_clarify 21 = .ok (.iconst 2, 1) := by decide +kernel
theorem dL_clarify_22 : decode cL_clarify 22 = .ok (.ireturn, 1) := by decide +kernel

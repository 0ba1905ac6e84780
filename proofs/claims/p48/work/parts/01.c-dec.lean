theorem dX0_init_0 : decode cX0_init 0 = .ok (.aload_n 0, 1) := by decide +kernel
theorem dX0_init_1 : decode cX0_init 1 = .ok (.invokespecial 3, 3) := by decide +kernel
theorem dX0_init_4 : decode cX0_init 4 = .ok (.aload_n 0, 1) := by decide +kernel
theorem dX0_init_5 : decode cX0_init 5 = .ok (.iconst 0, 1) := by decide +kernel
theorem dX0_init_6 : decode cX0_init 6 = .ok (.putfield 9, 3) := by decide +kernel
theorem dX0_init_9 : decode cX0_init 9 = .ok (.aload_n 0, 1) := by decide +kernel
theorem dX0_init_10 : decode cX0_init 10 = .ok (.iconst 0, 1) := by decide +kernel
theorem dX0_init_11 : decode cX0_init 11 = .ok (.putfield 15, 3) := by decide +kernel
theorem dX0_init_14 : decode cX0_init 14 = .ok (.aload_n 0, 1) := by decide +kernel
theorem dX0_init_15 : decode cX0_init 15 = .ok (.sipush 315, 3) := by decide +kernel
theorem dX0_init_18 : decode cX0_init 18 = .ok (.newarray .int, 2) := by decide +kernel
theorem dX0_init_20 : decode cX0_init 20 = .ok (.putfield 18, 3) := by decide +kernel
theorem dX0_init_23 : decode cX0_init 23 = .ok (.aload_n 0, 1) := by decide +kernel
theorem dX0_init_24 : decode cX0_init 24 = .ok (.iconst 0, 1) := by decide +kernel
theorem dX0_init_25 : decode cX0_init 25 = .ok (.putfield 22, 3) := by decide +kernel
theorem dX0_init_28 : decode cX0_init 28 = .ok (.aload_n 0, 1) := by decide +kernel
theorem dX0_init_29 : decode cX0_init 29 = .ok (.bipush 88, 2) := by decide +kernel
theorem dX0_init_31 : decode cX0_init 31 = .ok (.newarray .int, 2) := by decide +kernel
theorem dX0_init_33 : decode cX0_init 33 = .ok (.putfield 25, 3) := by decide +kernel
theorem dX0_init_36 : decode cX0_init 36 = .ok (.aload_n 0, 1) := by decide +kernel
theorem dX0_init_37 : decode cX0_init 37 = .ok (.bipush 18, 2) := by decide +kernel
theorem dX0_init_39 : decode cX0_init 39 = .ok (.putfield 28, 3) := by decide +kernel
theorem dX0_init_42 : decode cX0_init 42 = .ok (.aload_n 0, 1) := by decide +kernel
theorem dX0_init_43 : decode cX0_init 43 = .ok (.bipush 18, 2) := by decide +kernel
theorem dX0_init_45 : decode cX0_init 45 = .ok (.putfield 31, 3) := by decide +kernel
theorem dX0_init_48 : decode cX0_init 48 = .ok (.return_, 1) := by decide +kernel
theorem dX0_resize_0 : decode cX0_resize 0 = .ok (.aload_n 0, 1) := by decide +kernel
theorem dX0_resize_1 : decode cX0_resize 1 = .ok (.iload_n 1, 1) := by decide +kernel
theorem dX0_resize_2 : decode cX0_resize 2 = .ok (.putfield 9, 3) := by decide +kernel
theorem dX0_resize_5 : decode cX0_resize 5 = .ok (.aload_n 0, 1) := by decide +kernel
theorem dX0_resize_6 : decode cX0_resize 6 = .ok (.iload_n 2, 1) := by decide +kernel
theorem dX0_resize_7 : decode cX0_resize 7 = .ok (.putfield 15, 3) := by decide +kernel
theorem dX0_resize_10 : decode cX0_resize 10 = .ok (.aload_n 0, 1) := by decide +kernel
theorem dX0_resize_11 : decode cX0_resize 11 = .ok (.getfield 25, 3) := by decide +kernel
theorem dX0_resize_14 : decode cX0_resize 14 = .ok (.bipush 15, 2) := by decide +kernel
theorem dX0_resize_16 : decode cX0_resize 16 = .ok (.invokestatic 34, 3) := by decide +kernel
theorem dX0_resize_19 : decode cX0_resize 19 = .ok (.iconst 0, 1) := by decide +kernel
theorem dX0_resize_20 : decode cX0_resize 20 = .ok (.istore_n 3, 1) := by decide +kernel
theorem dX0_resize_21 : decode cX0_resize 21 = .ok (.iload_n 3, 1) := by decide +kernel
theorem dX0_resize_22 : decode cX0_resize 22 = .ok (.aload_n 0, 1) := by decide +kernel
theorem dX0_resize_23 : decode cX0_resize 23 = .ok (.getfield 15, 3) := by decide +kernel
theorem dX0_resize_26 : decode cX0_resize 26 = .ok (.if_icmp .ge 35, 3) := by decide +kernel
theorem dX0_resize_29 : decode cX0_resize 29 = .ok (.iconst 0, 1) := by decide +kernel
theorem dX0_resize_30 : decode cX0_resize 30 = .ok (.istore 4, 2) := by decide +kernel
theorem dX0_resize_32 : decode cX0_resize 32 = .ok (.iload 4, 2) := by decide +kernel
theorem dX0_resize_34 : decode cX0_resize 34 = .ok (.aload_n 0, 1) := by decide +kernel
theorem dX0_resize_35 : decode cX0_resize 35 = .ok (.getfield 9, 3) := by decide +kernel
theorem dX0_resize_38 : decode cX0_resize 38 = .ok (.if_icmp .ge 17, 3) := by decide +kernel
theorem dX0_resize_41 : decode cX0_resize 41 = .ok (.aload_n 0, 1) := by decide +kernel
theorem dX0_resize_42 : decode cX0_resize 42 = .ok (.iload 4, 2) := by decide +kernel
theorem dX0_resize_44 : decode cX0_resize 44 = .ok (.iload_n 3, 1) := by decide +kernel
theorem dX0_resize_45 : decode cX0_resize 45 = .ok (.iconst 0, 1) := by decide +kernel
theorem dX0_resize_46 : decode cX0_resize 46 = .ok (.invokevirtual 40, 3) := by decide +kernel
theorem dX0_resize_49 : decode cX0_resize 49 = .ok (.iinc 4 1, 3) := by decide +kernel
theorem dX0_resize_52 : decode cX0_resize 52 = .ok (.goto (-20), 3) := by decide +kernel
theorem dX0_resize_55 : decode cX0_resize 55 = .ok (.iinc 3 1, 3) := by decide +kernel
theorem dX0_resize_58 : decode cX0_resize 58 = .ok (.goto (-37), 3) := by decide +kernel
theorem dX0_resize_61 : decode cX0_resize 61 = .ok (.return_, 1) := by decide +kernel
theorem dX0_squareCount_0 : decode cX0_squareCount 0 = .ok (.aload_n 0, 1) := by decide +kernel
theorem dX0_squareCount_1 : decode cX0_squareCount 1 = .ok (.getfield 9, 3) := by decide +kernel
theorem dX0_squareCount_4 : decode cX0_squareCount 4 = .ok (.aload_n 0, 1) := by decide +kernel
theorem dX0_squareCount_5 : decode cX0_squareCount 5 = .ok (.getfield 15, 3) := by decide +kernel
theorem dX0_squareCount_8 : decode cX0_squareCount 8 = .ok (.imul, 1) := by decide +kernel
theorem dX0_squareCount_9 : decode cX0_squareCount 9 = .ok (.ireturn, 1) := by decide +kernel
theorem dX0_squareOf_0 : decode cX0_squareOf 0 = .ok (.iload_n 2, 1) := by decide +kernel
theorem dX0_squareOf_1 : decode cX0_squareOf 1 = .ok (.aload_n 0, 1) := by decide +kernel
theorem dX0_squareOf_2 : decode cX0_squareOf 2 = .ok (.getfield 9, 3) := by decide +kernel
theorem dX0_squareOf_5 : decode cX0_squareOf 5 = .ok (.imul, 1) := by decide +kernel
theorem dX0_squareOf_6 : decode cX0_squareOf 6 = .ok (.iload_n 1, 1) := by decide +kernel
theorem dX0_squareOf_7 : decode cX0_squareOf 7 = .ok (.iadd, 1) := by decide +kernel
theorem dX0_squareOf_8 : decode cX0_squareOf 8 = .ok (.ireturn, 1) := by decide +kernel
theorem dX0_placeOf_0 : decode cX0_placeOf 0 = .ok (.bipush 18, 2) := by decide +kernel
theorem dX0_placeOf_2 : decode cX0_placeOf 2 = .ok (.iload_n 2, 1) := by decide +kernel
theorem dX0_placeOf_3 : decode cX0_placeOf 3 = .ok (.bipush 8, 2) := by decide +kernel
theorem dX0_placeOf_5 : decode cX0_placeOf 5 = .ok (.imul, 1) := by decide +kernel
theorem dX0_placeOf_6 : decode cX0_placeOf 6 = .ok (.iadd, 1) := by decide +kernel
theorem dX0_placeOf_7 : decode cX0_placeOf 7 = .ok (.iload_n 1, 1) := by decide +kernel
theorem dX0_placeOf_8 : decode cX0_placeOf 8 = .ok (.iadd, 1) := by decide +kernel
theorem dX0_placeOf_9 : decode cX0_placeOf 9 = .ok (.ireturn, 1) := by decide +kernel
theorem dX0_at_0 : decode cX0_at 0 = .ok (.aload_n 0, 1) := by decide +kernel
theorem dX0_at_1 : decode cX0_at 1 = .ok (.aload_n 0, 1) := by decide +kernel
theorem dX0_at_2 : decode cX0_at 2 = .ok (.iload_n 1, 1) := by decide +kernel
theorem dX0_at_3 : decode cX0_at 3 = .ok (.iload_n 2, 1) := by decide +kernel
theorem dX0_at_4 : decode cX0_at 4 = .ok (.invokevirtual 44, 3) := by decide +kernel
theorem dX0_at_7 : decode cX0_at 7 = .ok (.invokevirtual 48, 3) := by decide +kernel
theorem dX0_at_10 : decode cX0_at 10 = .ok (.ireturn, 1) := by decide +kernel
theorem dX0_on_0 : decode cX0_on 0 = .ok (.iload_n 1, 1) := by decide +kernel
theorem dX0_on_1 : decode cX0_on 1 = .ok (.ifCond .lt 21, 3) := by decide +kernel
theorem dX0_on_4 : decode cX0_on 4 = .ok (.iload_n 1, 1) := by decide +kernel
theorem dX0_on_5 : decode cX0_on 5 = .ok (.aload_n 0, 1) := by decide +kernel
theorem dX0_on_6 : decode cX0_on 6 = .ok (.getfield 25, 3) := by decide +kernel
theorem dX0_on_9 : decode cX0_on 9 = .ok (.arraylength, 1) := by decide +kernel
theorem dX0_on_10 : decode cX0_on 10 = .ok (.if_icmp .ge 12, 3) := by decide +kernel
theorem dX0_on_13 : decode cX0_on 13 = .ok (.aload_n 0, 1) := by decide +kernel
theorem dX0_on_14 : decode cX0_on 14 = .ok (.getfield 25, 3) := by decide +kernel
theorem dX0_on_17 : decode cX0_on 17 = .ok (.iload_n 1, 1) := by decide +kernel
theorem dX0_on_18 : decode cX0_on 18 = .ok (.iaload, 1) := by decide +kernel
theorem dX0_on_19 : decode cX0_on 19 = .ok (.goto 5, 3) := by decide +kernel
theorem dX0_on_22 : decode cX0_on 22 = .ok (.bipush 15, 2) := by decide +kernel
theorem dX0_on_24 : decode cX0_on 24 = .ok (.ireturn, 1) := by decide +kernel
theorem dX0_set_0 : decode cX0_set 0 = .ok (.iload_n 1, 1) := by decide +kernel
theorem dX0_set_1 : decode cX0_set 1 = .ok (.ifCond .lt 19, 3) := by decide +kernel
theorem dX0_set_4 : decode cX0_set 4 = .ok (.iload_n 1, 1) := by decide +kernel
theorem dX0_set_5 : decode cX0_set 5 = .ok (.aload_n 0, 1) := by decide +kernel
theorem dX0_set_6 : decode cX0_set 6 = .ok (.getfield 25, 3) := by decide +kernel
theorem dX0_set_9 : decode cX0_set 9 = .ok (.arraylength, 1) := by decide +kernel
theorem dX0_set_10 : decode cX0_set 10 = .ok (.if_icmp .ge 10, 3) := by decide +kernel
theorem dX0_set_13 : decode cX0_set 13 = .ok (.aload_n 0, 1) := by decide +kernel
theorem dX0_set_14 : decode cX0_set 14 = .ok (.getfield 25, 3) := by decide +kernel
theorem dX0_set_17 : decode cX0_set 17 = .ok (.iload_n 1, 1) := by decide +kernel
theorem dX0_set_18 : decode cX0_set 18 = .ok (.iload_n 2, 1) := by decide +kernel
theorem dX0_set_19 : decode cX0_set 19 = .ok (.iastore, 1) := by decide +kernel
theorem dX0_set_20 : decode cX0_set 20 = .ok (.return_, 1) := by decide +kernel
theorem dX0_put_0 : decode cX0_put 0 = .ok (.aload_n 0, 1) := by decide +kernel
theorem dX0_put_1 : decode cX0_put 1 = .ok (.iload_n 1, 1) := by decide +kernel
theorem dX0_put_2 : decode cX0_put 2 = .ok (.iload_n 2, 1) := by decide +kernel
theorem dX0_put_3 : decode cX0_put 3 = .ok (.invokevirtual 44, 3) := by decide +kernel
theorem dX0_put_6 : decode cX0_put 6 = .ok (.istore 4, 2) := by decide +kernel
theorem dX0_put_8 : decode cX0_put 8 = .ok (.aload_n 0, 1) := by decide +kernel
theorem dX0_put_9 : decode cX0_put 9 = .ok (.iload 4, 2) := by decide +kernel
theorem dX0_put_11 : decode cX0_put 11 = .ok (.iload_n 3, 1) := by decide +kernel
theorem dX0_put_12 : decode cX0_put 12 = .ok (.invokevirtual 52, 3) := by decide +kernel
theorem dX0_put_15 : decode cX0_put 15 = .ok (.iload_n 3, 1) := by decide +kernel
theorem dX0_put_16 : decode cX0_put 16 = .ok (.iconst 1, 1) := by decide +kernel
theorem dX0_put_17 : decode cX0_put 17 = .ok (.if_icmp .ne 12, 3) := by decide +kernel
theorem dX0_put_20 : decode cX0_put 20 = .ok (.aload_n 0, 1) := by decide +kernel
theorem dX0_put_21 : decode cX0_put 21 = .ok (.iload 4, 2) := by decide +kernel
theorem dX0_put_23 : decode cX0_put 23 = .ok (.putfield 28, 3) := by decide +kernel
theorem dX0_put_26 : decode cX0_put 26 = .ok (.goto 15, 3) := by decide +kernel
theorem dX0_put_29 : decode cX0_put 29 = .ok (.iload_n 3, 1) := by decide +kernel
theorem dX0_put_30 : decode cX0_put 30 = .ok (.bipush 9, 2) := by decide +kernel
theorem dX0_put_32 : decode cX0_put 32 = .ok (.if_icmp .ne 9, 3) := by decide +kernel
theorem dX0_put_35 : decode cX0_put 35 = .ok (.aload_n 0, 1) := by decide +kernel
theorem dX0_put_36 : decode cX0_put 36 = .ok (.iload 4, 2) := by decide +kernel
theorem dX0_put_38 : decode cX0_put 38 = .ok (.putfield 31, 3) := by decide +kernel
theorem dX0_put_41 : decode cX0_put 41 = .ok (.return_, 1) := by decide +kernel
theorem dX0_count_0 : decode cX0_count 0 = .ok (.iconst 0, 1) := by decide +kernel
theorem dX0_count_1 : decode cX0_count 1 = .ok (.istore_n 2, 1) := by decide +kernel
theorem dX0_count_2 : decode cX0_count 2 = .ok (.iconst 0, 1) := by decide +kernel
theorem dX0_count_3 : decode cX0_count 3 = .ok (.istore_n 3, 1) := by decide +kernel
theorem dX0_count_4 : decode cX0_count 4 = .ok (.iload_n 3, 1) := by decide +kernel
theorem dX0_count_5 : decode cX0_count 5 = .ok (.aload_n 0, 1) := by decide +kernel
theorem dX0_count_6 : decode cX0_count 6 = .ok (.getfield 25, 3) := by decide +kernel
theorem dX0_count_9 : decode cX0_count 9 = .ok (.arraylength, 1) := by decide +kernel
theorem dX0_count_10 : decode cX0_count 10 = .ok (.if_icmp .ge 22, 3) := by decide +kernel
theorem dX0_count_13 : decode cX0_count 13 = .ok (.aload_n 0, 1) := by decide +kernel
theorem dX0_count_14 : decode cX0_count 14 = .ok (.getfield 25, 3) := by decide +kernel
theorem dX0_count_17 : decode cX0_count 17 = .ok (.iload_n 3, 1) := by decide +kernel
theorem dX0_count_18 : decode cX0_count 18 = .ok (.iaload, 1) := by decide +kernel
theorem dX0_count_19 : decode cX0_count 19 = .ok (.iload_n 1, 1) := by decide +kernel
theorem dX0_count_20 : decode cX0_count 20 = .ok (.if_icmp .ne 6, 3) := by decide +kernel
theorem dX0_count_23 : decode cX0_count 23 = .ok (.iinc 2 1, 3) := by decide +kernel
theorem dX0_count_26 : decode cX0_count 26 = .ok (.iinc 3 1, 3) := by decide +kernel
theorem dX0_count_29 : decode cX0_count 29 = .ok (.goto (-25), 3) := by decide +kernel
theorem dX0_count_32 : decode cX0_count 32 = .ok (.iload_n 2, 1) := by decide +kernel
theorem dX0_count_33 : decode cX0_count 33 = .ok (.ireturn, 1) := by decide +kernel
theorem dX0_kingPlace_0 : decode cX0_kingPlace 0 = .ok (.iload_n 1, 1) := by decide +kernel
theorem dX0_kingPlace_1 : decode cX0_kingPlace 1 = .ok (.ifCond .ne 10, 3) := by decide +kernel
theorem dX0_kingPlace_4 : decode cX0_kingPlace 4 = .ok (.aload_n 0, 1) := by decide +kernel
theorem dX0_kingPlace_5 : decode cX0_kingPlace 5 = .ok (.getfield 28, 3) := by decide +kernel
theorem dX0_kingPlace_8 : decode cX0_kingPlace 8 = .ok (.goto 7, 3) := by decide +kernel
theorem dX0_kingPlace_11 : decode cX0_kingPlace 11 = .ok (.aload_n 0, 1) := by decide +kernel
theorem dX0_kingPlace_12 : decode cX0_kingPlace 12 = .ok (.getfield 31, 3) := by decide +kernel
theorem dX0_kingPlace_15 : decode cX0_kingPlace 15 = .ok (.ireturn, 1) := by decide +kernel
theorem dX0_isReached_0 : decode cX0_isReached 0 = .ok (.iload_n 2, 1) := by decide +kernel
theorem dX0_isReached_1 : decode cX0_isReached 1 = .ok (.ifCond .ne 7, 3) := by decide +kernel
theorem dX0_isReached_4 : decode cX0_isReached 4 = .ok (.iconst 1, 1) := by decide +kernel
theorem dX0_isReached_5 : decode cX0_isReached 5 = .ok (.goto 5, 3) := by decide +kernel
theorem dX0_isReached_8 : decode cX0_isReached 8 = .ok (.bipush 9, 2) := by decide +kernel
theorem dX0_isReached_10 : decode cX0_isReached 10 = .ok (.istore_n 3, 1) := by decide +kernel
theorem dX0_isReached_11 : decode cX0_isReached 11 = .ok (.iconst 0, 1) := by decide +kernel
theorem dX0_isReached_12 : decode cX0_isReached 12 = .ok (.istore 4, 2) := by decide +kernel
theorem dX0_isReached_14 : decode cX0_isReached 14 = .ok (.iload 4, 2) := by decide +kernel
theorem dX0_isReached_16 : decode cX0_isReached 16 = .ok (.getstatic 56, 3) := by decide +kernel
theorem dX0_isReached_19 : decode cX0_isReached 19 = .ok (.arraylength, 1) := by decide +kernel
theorem dX0_isReached_20 : decode cX0_isReached 20 = .ok (.if_icmp .ge 105, 3) := by decide +kernel
theorem dX0_isReached_23 : decode cX0_isReached 23 = .ok (.iload_n 1, 1) := by decide +kernel
theorem dX0_isReached_24 : decode cX0_isReached 24 = .ok (.getstatic 56, 3) := by decide +kernel
theorem dX0_isReached_27 : decode cX0_isReached 27 = .ok (.iload 4, 2) := by decide +kernel
theorem dX0_isReached_29 : decode cX0_isReached 29 = .ok (.iaload, 1) := by decide +kernel
theorem dX0_isReached_30 : decode cX0_isReached 30 = .ok (.iadd, 1) := by decide +kernel
theorem dX0_isReached_31 : decode cX0_isReached 31 = .ok (.istore 5, 2) := by decide +kernel
theorem dX0_isReached_33 : decode cX0_isReached 33 = .ok (.aload_n 0, 1) := by decide +kernel
theorem dX0_isReached_34 : decode cX0_isReached 34 = .ok (.iload 5, 2) := by decide +kernel
theorem dX0_isReached_36 : decode cX0_isReached 36 = .ok (.invokevirtual 48, 3) := by decide +kernel
theorem dX0_isReached_39 : decode cX0_isReached 39 = .ok (.istore 6, 2) := by decide +kernel
theorem dX0_isReached_41 : decode cX0_isReached 41 = .ok (.iload 6, 2) := by decide +kernel
theorem dX0_isReached_43 : decode cX0_isReached 43 = .ok (.iload_n 3, 1) := by decide +kernel
theorem dX0_isReached_44 : decode cX0_isReached 44 = .ok (.if_icmp .ne 5, 3) := by decide +kernel
theorem dX0_isReached_47 : decode cX0_isReached 47 = .ok (.iconst 1, 1) := by decide +kernel
theorem dX0_isReached_48 : decode cX0_isReached 48 = .ok (.ireturn, 1) := by decide +kernel
theorem dX0_isReached_49 : decode cX0_isReached 49 = .ok (.iconst 1, 1) := by decide +kernel
theorem dX0_isReached_50 : decode cX0_isReached 50 = .ok (.istore 7, 2) := by decide +kernel
theorem dX0_isReached_52 : decode cX0_isReached 52 = .ok (.iload 7, 2) := by decide +kernel
theorem dX0_isReached_54 : decode cX0_isReached 54 = .ok (.bipush 6, 2) := by decide +kernel
theorem dX0_isReached_56 : decode cX0_isReached 56 = .ok (.if_icmp .ge 33, 3) := by decide +kernel
theorem dX0_isReached_59 : decode cX0_isReached 59 = .ok (.iload 6, 2) := by decide +kernel
theorem dX0_isReached_61 : decode cX0_isReached 61 = .ok (.ifCond .ne 28, 3) := by decide +kernel
theorem dX0_isReached_64 : decode cX0_isReached 64 = .ok (.iload 5, 2) := by decide +kernel
theorem dX0_isReached_66 : decode cX0_isReached 66 = .ok (.getstatic 56, 3) := by decide +kernel
theorem dX0_isReached_69 : decode cX0_isReached 69 = .ok (.iload 4, 2) := by decide +kernel
theorem dX0_isReached_71 : decode cX0_isReached 71 = .ok (.iaload, 1) := by decide +kernel
theorem dX0_isReached_72 : decode cX0_isReached 72 = .ok (.iadd, 1) := by decide +kernel
theorem dX0_isReached_73 : decode cX0_isReached 73 = .ok (.istore 5, 2) := by decide +kernel
theorem dX0_isReached_75 : decode cX0_isReached 75 = .ok (.aload_n 0, 1) := by decide +kernel
theorem dX0_isReached_76 : decode cX0_isReached 76 = .ok (.iload 5, 2) := by decide +kernel
theorem dX0_isReached_78 : decode cX0_isReached 78 = .ok (.invokevirtual 48, 3) := by decide +kernel
theorem dX0_isReached_81 : decode cX0_isReached 81 = .ok (.istore 6, 2) := by decide +kernel
theorem dX0_isReached_83 : decode cX0_isReached 83 = .ok (.iinc 7 1, 3) := by decide +kernel
theorem dX0_isReached_86 : decode cX0_isReached 86 = .ok (.goto (-34), 3) := by decide +kernel
theorem dX0_isReached_89 : decode cX0_isReached 89 = .ok (.iload 6, 2) := by decide +kernel
theorem dX0_isReached_91 : decode cX0_isReached 91 = .ok (.iload_n 3, 1) := by decide +kernel
theorem dX0_isReached_92 : decode cX0_isReached 92 = .ok (.isub, 1) := by decide +kernel
theorem dX0_isReached_93 : decode cX0_isReached 93 = .ok (.istore 7, 2) := by decide +kernel
theorem dX0_isReached_95 : decode cX0_isReached 95 = .ok (.iload 7, 2) := by decide +kernel
theorem dX0_isReached_97 : decode cX0_isReached 97 = .ok (.iconst 1, 1) := by decide +kernel
theorem dX0_isReached_98 : decode cX0_isReached 98 = .ok (.if_icmp .eq 19, 3) := by decide +kernel
theorem dX0_isReached_101 : decode cX0_isReached 101 = .ok (.iload 7, 2) := by decide +kernel
theorem dX0_isReached_103 : decode cX0_isReached 103 = .ok (.iload 4, 2) := by decide +kernel
theorem dX0_isReached_105 : decode cX0_isReached 105 = .ok (.iconst 4, 1) := by decide +kernel
theorem dX0_isReached_106 : decode cX0_isReached 106 = .ok (.if_icmp .ge 7, 3) := by decide +kernel
theorem dX0_isReached_109 : decode cX0_isReached 109 = .ok (.iconst 2, 1) := by decide +kernel
theorem dX0_isReached_110 : decode cX0_isReached 110 = .ok (.goto 4, 3) := by decide +kernel
theorem dX0_isReached_113 : decode cX0_isReached 113 = .ok (.iconst 3, 1) := by decide +kernel
theorem dX0_isReached_114 : decode cX0_isReached 114 = .ok (.if_icmp .ne 5, 3) := by decide +kernel
theorem dX0_isReached_117 : decode cX0_isReached 117 = .ok (.iconst 1, 1) := by decide +kernel
theorem dX0_isReached_118 : decode cX0_isReached 118 = .ok (.ireturn, 1) := by decide +kernel
theorem dX0_isReached_119 : decode cX0_isReached 119 = .ok (.iinc 4 1, 3) := by decide +kernel
theorem dX0_isReached_122 : decode cX0_isReached 122 = .ok (.goto (-108), 3) := by decide +kernel
theorem dX0_isReached_125 : decode cX0_isReached 125 = .ok (.iconst 0, 1) := by decide +kernel
theorem dX0_isReached_126 : decode cX0_isReached 126 = .ok (.istore 4, 2) := by decide +kernel
theorem dX0_isReached_128 : decode cX0_isReached 128 = .ok (.iload 4, 2) := by decide +kernel
theorem dX0_isReached_130 : decode cX0_isReached 130 = .ok (.getstatic 59, 3) := by decide +kernel
theorem dX0_isReached_133 : decode cX0_isReached 133 = .ok (.arraylength, 1) := by decide +kernel
theorem dX0_isReached_134 : decode cX0_isReached 134 = .ok (.if_icmp .ge 29, 3) := by decide +kernel
theorem dX0_isReached_137 : decode cX0_isReached 137 = .ok (.aload_n 0, 1) := by decide +kernel
theorem dX0_isReached_138 : decode cX0_isReached 138 = .ok (.iload_n 1, 1) := by decide +kernel
theorem dX0_isReached_139 : decode cX0_isReached 139 = .ok (.getstatic 59, 3) := by decide +kernel
theorem dX0_isReached_142 : decode cX0_isReached 142 = .ok (.iload 4, 2) := by decide +kernel
theorem dX0_isReached_144 : decode cX0_isReached 144 = .ok (.iaload, 1) := by decide +kernel
theorem dX0_isReached_145 : decode cX0_isReached 145 = .ok (.iadd, 1) := by decide +kernel
theorem dX0_isReached_146 : decode cX0_isReached 146 = .ok (.invokevirtual 48, 3) := by decide +kernel
theorem dX0_isReached_149 : decode cX0_isReached 149 = .ok (.iload_n 3, 1) := by decide +kernel
theorem dX0_isReached_150 : decode cX0_isReached 150 = .ok (.isub, 1) := by decide +kernel
theorem dX0_isReached_151 : decode cX0_isReached 151 = .ok (.iconst 4, 1) := by decide +kernel
theorem dX0_isReached_152 : decode cX0_isReached 152 = .ok (.if_icmp .ne 5, 3) := by decide +kernel
theorem dX0_isReached_155 : decode cX0_isReached 155 = .ok (.iconst 1, 1) := by decide +kernel
theorem dX0_isReached_156 : decode cX0_isReached 156 = .ok (.ireturn, 1) := by decide +kernel
theorem dX0_isReached_157 : decode cX0_isReached 157 = .ok (.iinc 4 1, 3) := by decide +kernel
theorem dX0_isReached_160 : decode cX0_isReached 160 = .ok (.goto (-32), 3) := by decide +kernel
theorem dX0_isReached_163 : decode cX0_isReached 163 = .ok (.iconst 0, 1) := by decide +kernel
theorem dX0_isReached_164 : decode cX0_isReached 164 = .ok (.ireturn, 1) := by decide +kernel
theorem dX0_findMoves_0 : decode cX0_findMoves 0 = .ok (.aload_n 0, 1) := by decide +kernel
theorem dX0_findMoves_1 : decode cX0_findMoves 1 = .ok (.iconst 0, 1) := by decide +kernel
theorem dX0_findMoves_2 : decode cX0_findMoves 2 = .ok (.putfield 22, 3) := by decide +kernel
theorem dX0_findMoves_5 : decode cX0_findMoves 5 = .ok (.iconst 0, 1) := by decide +kernel
theorem dX0_findMoves_6 : decode cX0_findMoves 6 = .ok (.istore_n 3, 1) := by decide +kernel
theorem dX0_findMoves_7 : decode cX0_findMoves 7 = .ok (.iload_n 3, 1) := by decide +kernel
theorem dX0_findMoves_8 : decode cX0_findMoves 8 = .ok (.aload_n 0, 1) := by decide +kernel
theorem dX0_findMoves_9 : decode cX0_findMoves 9 = .ok (.getfield 15, 3) := by decide +kernel
theorem dX0_findMoves_12 : decode cX0_findMoves 12 = .ok (.if_icmp .ge 68, 3) := by decide +kernel
theorem dX0_findMoves_15 : decode cX0_findMoves 15 = .ok (.iconst 0, 1) := by decide +kernel
theorem dX0_findMoves_16 : decode cX0_findMoves 16 = .ok (.istore 4, 2) := by decide +kernel
theorem dX0_findMoves_18 : decode cX0_findMoves 18 = .ok (.iload 4, 2) := by decide +kernel
theorem dX0_findMoves_20 : decode cX0_findMoves 20 = .ok (.aload_n 0, 1) := by decide +kernel
theorem dX0_findMoves_21 : decode cX0_findMoves 21 = .ok (.getfield 9, 3) := by decide +kernel
theorem dX0_findMoves_24 : decode cX0_findMoves 24 = .ok (.if_icmp .ge 50, 3) := by decide +kernel
theorem dX0_findMoves_27 : decode cX0_findMoves 27 = .ok (.aload_n 0, 1) := by decide +kernel
theorem dX0_findMoves_28 : decode cX0_findMoves 28 = .ok (.iload 4, 2) := by decide +kernel
theorem dX0_findMoves_30 : decode cX0_findMoves 30 = .ok (.iload_n 3, 1) := by decide +kernel
theorem dX0_findMoves_31 : decode cX0_findMoves 31 = .ok (.invokevirtual 62, 3) := by decide +kernel
theorem dX0_findMoves_34 : decode cX0_findMoves 34 = .ok (.istore 5, 2) := by decide +kernel
theorem dX0_findMoves_36 : decode cX0_findMoves 36 = .ok (.iload 5, 2) := by decide +kernel
theorem dX0_findMoves_38 : decode cX0_findMoves 38 = .ok (.invokestatic 65, 3) := by decide +kernel
theorem dX0_findMoves_41 : decode cX0_findMoves 41 = .ok (.iload_n 2, 1) := by decide +kernel
theorem dX0_findMoves_42 : decode cX0_findMoves 42 = .ok (.if_icmp .ne 26, 3) := by decide +kernel
theorem dX0_findMoves_45 : decode cX0_findMoves 45 = .ok (.aload_n 1, 1) := by decide +kernel
theorem dX0_findMoves_46 : decode cX0_findMoves 46 = .ok (.iload 5, 2) := by decide +kernel
theorem dX0_findMoves_48 : decode cX0_findMoves 48 = .ok (.invokestatic 68, 3) := by decide +kernel
theorem dX0_findMoves_51 : decode cX0_findMoves 51 = .ok (.iload 4, 2) := by decide +kernel
theorem dX0_findMoves_53 : decode cX0_findMoves 53 = .ok (.iload_n 3, 1) := by decide +kernel
theorem dX0_findMoves_54 : decode cX0_findMoves 54 = .ok (.invokevirtual 71, 3) := by decide +kernel
theorem dX0_findMoves_57 : decode cX0_findMoves 57 = .ok (.ifCond .eq 11, 3) := by decide +kernel
theorem dX0_findMoves_60 : decode cX0_findMoves 60 = .ok (.aload_n 0, 1) := by decide +kernel
theorem dX0_findMoves_61 : decode cX0_findMoves 61 = .ok (.iload 4, 2) := by decide +kernel
theorem dX0_findMoves_63 : decode cX0_findMoves 63 = .ok (.iload_n 3, 1) := by decide +kernel
theorem dX0_findMoves_64 : decode cX0_findMoves 64 = .ok (.aload_n 1, 1) := by decide +kernel
theorem dX0_findMoves_65 : decode cX0_findMoves 65 = .ok (.invokevirtual 77, 3) := by decide +kernel
theorem dX0_findMoves_68 : decode cX0_findMoves 68 = .ok (.iinc 4 1, 3) := by decide +kernel
theorem dX0_findMoves_71 : decode cX0_findMoves 71 = .ok (.goto (-53), 3) := by decide +kernel
theorem dX0_findMoves_74 : decode cX0_findMoves 74 = .ok (.iinc 3 1, 3) := by decide +kernel
theorem dX0_findMoves_77 : decode cX0_findMoves 77 = .ok (.goto (-70), 3) := by decide +kernel
theorem dX0_findMoves_80 : decode cX0_findMoves 80 = .ok (.aload_n 0, 1) := by decide +kernel
theorem dX0_findMoves_81 : decode cX0_findMoves 81 = .ok (.getfield 22, 3) := by decide +kernel
theorem dX0_findMoves_84 : decode cX0_findMoves 84 = .ok (.ireturn, 1) := by decide +kernel
theorem dX0_findMovesFrom_0 : decode cX0_findMovesFrom 0 = .ok (.aload_n 0, 1) := by decide +kernel
theorem dX0_findMovesFrom_1 : decode cX0_findMovesFrom 1 = .ok (.iload_n 1, 1) := by decide +kernel
theorem dX0_findMovesFrom_2 : decode cX0_findMovesFrom 2 = .ok (.iload_n 2, 1) := by decide +kernel
theorem dX0_findMovesFrom_3 : decode cX0_findMovesFrom 3 = .ok (.invokevirtual 44, 3) := by decide +kernel
theorem dX0_findMovesFrom_6 : decode cX0_findMovesFrom 6 = .ok (.istore 4, 2) := by decide +kernel
theorem dX0_findMovesFrom_8 : decode cX0_findMovesFrom 8 = .ok (.aload_n 0, 1) := by decide +kernel
theorem dX0_findMovesFrom_9 : decode cX0_findMovesFrom 9 = .ok (.iload 4, 2) := by decide +kernel
theorem dX0_findMovesFrom_11 : decode cX0_findMovesFrom 11 = .ok (.invokevirtual 48, 3) := by decide +kernel
theorem dX0_findMovesFrom_14 : decode cX0_findMovesFrom 14 = .ok (.invokestatic 65, 3) := by decide +kernel
theorem dX0_findMovesFrom_17 : decode cX0_findMovesFrom 17 = .ok (.istore 5, 2) := by decide +kernel
theorem dX0_findMovesFrom_19 : decode cX0_findMovesFrom 19 = .ok (.aload_n 0, 1) := by decide +kernel
theorem dX0_findMovesFrom_20 : decode cX0_findMovesFrom 20 = .ok (.iload 4, 2) := by decide +kernel
theorem dX0_findMovesFrom_22 : decode cX0_findMovesFrom 22 = .ok (.invokevirtual 81, 3) := by decide +kernel
theorem dX0_findMovesFrom_25 : decode cX0_findMovesFrom 25 = .ok (.lstore 6, 2) := by decide +kernel
theorem dX0_findMovesFrom_27 : decode cX0_findMovesFrom 27 = .ok (.iconst 0, 1) := by decide +kernel
theorem dX0_findMovesFrom_28 : decode cX0_findMovesFrom 28 = .ok (.istore 8, 2) := by decide +kernel
theorem dX0_findMovesFrom_30 : decode cX0_findMovesFrom 30 = .ok (.iload 8, 2) := by decide +kernel
theorem dX0_findMovesFrom_32 : decode cX0_findMovesFrom 32 = .ok (.aload_n 0, 1) := by decide +kernel
theorem dX0_findMovesFrom_33 : decode cX0_findMovesFrom 33 = .ok (.getfield 15, 3) := by decide +kernel
theorem dX0_findMovesFrom_36 : decode cX0_findMovesFrom 36 = .ok (.if_icmp .ge 181, 3) := by decide +kernel
theorem dX0_findMovesFrom_39 : decode cX0_findMovesFrom 39 = .ok (.iconst 0, 1) := by decide +kernel
theorem dX0_findMovesFrom_40 : decode cX0_findMovesFrom 40 = .ok (.istore 9, 2) := by decide +kernel
theorem dX0_findMovesFrom_42 : decode cX0_findMovesFrom 42 = .ok (.iload 9, 2) := by decide +kernel
theorem dX0_findMovesFrom_44 : decode cX0_findMovesFrom 44 = .ok (.aload_n 0, 1) := by decide +kernel
theorem dX0_findMovesFrom_45 : decode cX0_findMovesFrom 45 = .ok (.getfield 9, 3) := by decide +kernel
theorem dX0_findMovesFrom_48 : decode cX0_findMovesFrom 48 = .ok (.if_icmp .ge 163, 3) := by decide +kernel
theorem dX0_findMovesFrom_51 : decode cX0_findMovesFrom 51 = .ok (.aload_n 0, 1) := by decide +kernel
theorem dX0_findMovesFrom_52 : decode cX0_findMovesFrom 52 = .ok (.iload 9, 2) := by decide +kernel
theorem dX0_findMovesFrom_54 : decode cX0_findMovesFrom 54 = .ok (.iload 8, 2) := by decide +kernel
theorem dX0_findMovesFrom_56 : decode cX0_findMovesFrom 56 = .ok (.invokevirtual 44, 3) := by decide +kernel
theorem dX0_findMovesFrom_59 : decode cX0_findMovesFrom 59 = .ok (.istore 10, 2) := by decide +kernel
theorem dX0_findMovesFrom_61 : decode cX0_findMovesFrom 61 = .ok (.lload 6, 2) := by decide +kernel
theorem dX0_findMovesFrom_63 : decode cX0_findMovesFrom 63 = .ok (.iload 10, 2) := by decide +kernel
theorem dX0_findMovesFrom_65 : decode cX0_findMovesFrom 65 = .ok (.invokestatic 85, 3) := by decide +kernel
theorem dX0_findMovesFrom_68 : decode cX0_findMovesFrom 68 = .ok (.land, 1) := by decide +kernel
theorem dX0_findMovesFrom_69 : decode cX0_findMovesFrom 69 = .ok (.lconst 0, 1) := by decide +kernel
theorem dX0_findMovesFrom_70 : decode cX0_findMovesFrom 70 = .ok (.lcmp, 1) := by decide +kernel
theorem dX0_findMovesFrom_71 : decode cX0_findMovesFrom 71 = .ok (.ifCond .ne 6, 3) := by decide +kernel
theorem dX0_findMovesFrom_74 : decode cX0_findMovesFrom 74 = .ok (.goto 131, 3) := by decide +kernel
theorem dX0_findMovesFrom_77 : decode cX0_findMovesFrom 77 = .ok (.aload_n 0, 1) := by decide +kernel
theorem dX0_findMovesFrom_78 : decode cX0_findMovesFrom 78 = .ok (.iload 10, 2) := by decide +kernel
theorem dX0_findMovesFrom_80 : decode cX0_findMovesFrom 80 = .ok (.invokevirtual 48, 3) := by decide +kernel
theorem dX0_findMovesFrom_83 : decode cX0_findMovesFrom 83 = .ok (.istore 11, 2) := by decide +kernel
theorem dX0_findMovesFrom_85 : decode cX0_findMovesFrom 85 = .ok (.iload 11, 2) := by decide +kernel
theorem dX0_findMovesFrom_87 : decode cX0_findMovesFrom 87 = .ok (.ifCond .ne 7, 3) := by decide +kernel
theorem dX0_findMovesFrom_90 : decode cX0_findMovesFrom 90 = .ok (.iconst 1, 1) := by decide +kernel
theorem dX0_findMovesFrom_91 : decode cX0_findMovesFrom 91 = .ok (.goto 4, 3) := by decide +kernel
theorem dX0_findMovesFrom_94 : decode cX0_findMovesFrom 94 = .ok (.iconst 0, 1) := by decide +kernel
theorem dX0_findMovesFrom_95 : decode cX0_findMovesFrom 95 = .ok (.istore 12, 2) := by decide +kernel
theorem dX0_findMovesFrom_97 : decode cX0_findMovesFrom 97 = .ok (.iload 12, 2) := by decide +kernel
theorem dX0_findMovesFrom_99 : decode cX0_findMovesFrom 99 = .ok (.ifCond .ne 24, 3) := by decide +kernel
theorem dX0_findMovesFrom_102 : decode cX0_findMovesFrom 102 = .ok (.iload 11, 2) := by decide +kernel
theorem dX0_findMovesFrom_104 : decode cX0_findMovesFrom 104 = .ok (.invokestatic 65, 3) := by decide +kernel
theorem dX0_findMovesFrom_107 : decode cX0_findMovesFrom 107 = .ok (.iload 5, 2) := by decide +kernel
theorem dX0_findMovesFrom_109 : decode cX0_findMovesFrom 109 = .ok (.if_icmp .eq 96, 3) := by decide +kernel
theorem dX0_findMovesFrom_112 : decode cX0_findMovesFrom 112 = .ok (.iload 11, 2) := by decide +kernel
theorem dX0_findMovesFrom_114 : decode cX0_findMovesFrom 114 = .ok (.invokestatic 68, 3) := by decide +kernel
theorem dX0_findMovesFrom_117 : decode cX0_findMovesFrom 117 = .ok (.ifCond .ne 6, 3) := by decide +kernel
theorem dX0_findMovesFrom_120 : decode cX0_findMovesFrom 120 = .ok (.goto 85, 3) := by decide +kernel
theorem dX0_findMovesFrom_123 : decode cX0_findMovesFrom 123 = .ok (.aload_n 3, 1) := by decide +kernel
theorem dX0_findMovesFrom_124 : decode cX0_findMovesFrom 124 = .ok (.iload 9, 2) := by decide +kernel
theorem dX0_findMovesFrom_126 : decode cX0_findMovesFrom 126 = .ok (.iload 8, 2) := by decide +kernel
theorem dX0_findMovesFrom_128 : decode cX0_findMovesFrom 128 = .ok (.iload 12, 2) := by decide +kernel
theorem dX0_findMovesFrom_130 : decode cX0_findMovesFrom 130 = .ok (.ifCond .ne 7, 3) := by decide +kernel
theorem dX0_findMovesFrom_133 : decode cX0_findMovesFrom 133 = .ok (.iconst 1, 1) := by decide +kernel
theorem dX0_findMovesFrom_134 : decode cX0_findMovesFrom 134 = .ok (.goto 4, 3) := by decide +kernel
theorem dX0_findMovesFrom_137 : decode cX0_findMovesFrom 137 = .ok (.iconst 0, 1) := by decide +kernel
theorem dX0_findMovesFrom_138 : decode cX0_findMovesFrom 138 = .ok (.invokevirtual 88, 3) := by decide +kernel
theorem dX0_findMovesFrom_141 : decode cX0_findMovesFrom 141 = .ok (.ifCond .eq 64, 3) := by decide +kernel
theorem dX0_findMovesFrom_144 : decode cX0_findMovesFrom 144 = .ok (.aload_n 0, 1) := by decide +kernel
theorem dX0_findMovesFrom_145 : decode cX0_findMovesFrom 145 = .ok (.iload 4, 2) := by decide +kernel
theorem dX0_findMovesFrom_147 : decode cX0_findMovesFrom 147 = .ok (.iload 10, 2) := by decide +kernel
theorem dX0_findMovesFrom_149 : decode cX0_findMovesFrom 149 = .ok (.aload_n 3, 1) := by decide +kernel
theorem dX0_findMovesFrom_150 : decode cX0_findMovesFrom 150 = .ok (.getfield 92, 3) := by decide +kernel
theorem dX0_findMovesFrom_153 : decode cX0_findMovesFrom 153 = .ok (.invokevirtual 96, 3) := by decide +kernel
theorem dX0_findMovesFrom_156 : decode cX0_findMovesFrom 156 = .ok (.ifCond .eq 49, 3) := by decide +kernel
theorem dX0_findMovesFrom_159 : decode cX0_findMovesFrom 159 = .ok (.aload_n 0, 1) := by decide +kernel
theorem dX0_findMovesFrom_160 : decode cX0_findMovesFrom 160 = .ok (.getfield 22, 3) := by decide +kernel
theorem dX0_findMovesFrom_163 : decode cX0_findMovesFrom 163 = .ok (.aload_n 0, 1) := by decide +kernel
theorem dX0_findMovesFrom_164 : decode cX0_findMovesFrom 164 = .ok (.getfield 18, 3) := by decide +kernel
theorem dX0_findMovesFrom_167 : decode cX0_findMovesFrom 167 = .ok (.arraylength, 1) := by decide +kernel
theorem dX0_findMovesFrom_168 : decode cX0_findMovesFrom 168 = .ok (.if_icmp .ge 37, 3) := by decide +kernel
theorem dX0_findMovesFrom_171 : decode cX0_findMovesFrom 171 = .ok (.aload_n 0, 1) := by decide +kernel
theorem dX0_findMovesFrom_172 : decode cX0_findMovesFrom 172 = .ok (.getfield 18, 3) := by decide +kernel
theorem dX0_findMovesFrom_175 : decode cX0_findMovesFrom 175 = .ok (.aload_n 0, 1) := by decide +kernel
theorem dX0_findMovesFrom_176 : decode cX0_findMovesFrom 176 = .ok (.dup, 1) := by decide +kernel
theorem dX0_findMovesFrom_177 : decode cX0_findMovesFrom 177 = .ok (.getfield 22, 3) := by decide +kernel
theorem dX0_findMovesFrom_180 : decode cX0_findMovesFrom 180 = .ok (.dup_x1, 1) := by decide +kernel
theorem dX0_findMovesFrom_181 : decode cX0_findMovesFrom 181 = .ok (.iconst 1, 1) := by decide +kernel
theorem dX0_findMovesFrom_182 : decode cX0_findMovesFrom 182 = .ok (.iadd, 1) := by decide +kernel
theorem dX0_findMovesFrom_183 : decode cX0_findMovesFrom 183 = .ok (.putfield 22, 3) := by decide +kernel
theorem dX0_findMovesFrom_186 : decode cX0_findMovesFrom 186 = .ok (.aload_n 0, 1) := by decide +kernel
theorem dX0_findMovesFrom_187 : decode cX0_findMovesFrom 187 = .ok (.iload_n 1, 1) := by decide +kernel
theorem dX0_findMovesFrom_188 : decode cX0_findMovesFrom 188 = .ok (.iload_n 2, 1) := by decide +kernel
theorem dX0_findMovesFrom_189 : decode cX0_findMovesFrom 189 = .ok (.invokevirtual 99, 3) := by decide +kernel
theorem dX0_findMovesFrom_192 : decode cX0_findMovesFrom 192 = .ok (.bipush 6, 2) := by decide +kernel
theorem dX0_findMovesFrom_194 : decode cX0_findMovesFrom 194 = .ok (.ishl, 1) := by decide +kernel
theorem dX0_findMovesFrom_195 : decode cX0_findMovesFrom 195 = .ok (.aload_n 0, 1) := by decide +kernel
theorem dX0_findMovesFrom_196 : decode cX0_findMovesFrom 196 = .ok (.iload 9, 2) := by decide +kernel
theorem dX0_findMovesFrom_198 : decode cX0_findMovesFrom 198 = .ok (.iload 8, 2) := by decide +kernel
theorem dX0_findMovesFrom_200 : decode cX0_findMovesFrom 200 = .ok (.invokevirtual 99, 3) := by decide +kernel
theorem dX0_findMovesFrom_203 : decode cX0_findMovesFrom 203 = .ok (.ior, 1) := by decide +kernel
theorem dX0_findMovesFrom_204 : decode cX0_findMovesFrom 204 = .ok (.iastore, 1) := by decide +kernel
theorem dX0_findMovesFrom_205 : decode cX0_findMovesFrom 205 = .ok (.iinc 9 1, 3) := by decide +kernel
theorem dX0_findMovesFrom_208 : decode cX0_findMovesFrom 208 = .ok (.goto (-166), 3) := by decide +kernel
theorem dX0_findMovesFrom_211 : decode cX0_findMovesFrom 211 = .ok (.iinc 8 1, 3) := by decide +kernel
theorem dX0_findMovesFrom_214 : decode cX0_findMovesFrom 214 = .ok (.goto (-184), 3) := by decide +kernel
theorem dX0_findMovesFrom_217 : decode cX0_findMovesFrom 217 = .ok (.return_, 1) := by decide +kernel
theorem dX0_bitOf_0 : decode cX0_bitOf 0 = .ok (.lconst 1, 1) := by decide +kernel
theorem dX0_bitOf_1 : decode cX0_bitOf 1 = .ok (.iload_n 0, 1) := by decide +kernel
theorem dX0_bitOf_2 : decode cX0_bitOf 2 = .ok (.bipush 18, 2) := by decide +kernel
theorem dX0_bitOf_4 : decode cX0_bitOf 4 = .ok (.isub, 1) := by decide +kernel
theorem dX0_bitOf_5 : decode cX0_bitOf 5 = .ok (.lshl, 1) := by decide +kernel
theorem dX0_bitOf_6 : decode cX0_bitOf 6 = .ok (.lreturn, 1) := by decide +kernel
theorem dX0_rangeOf_0 : decode cX0_rangeOf 0 = .ok (.aload_n 0, 1) := by decide +kernel
theorem dX0_rangeOf_1 : decode cX0_rangeOf 1 = .ok (.iload_n 1, 1) := by decide +kernel
theorem dX0_rangeOf_2 : decode cX0_rangeOf 2 = .ok (.invokevirtual 48, 3) := by decide +kernel
theorem dX0_rangeOf_5 : decode cX0_rangeOf 5 = .ok (.invokestatic 68, 3) := by decide +kernel
theorem dX0_rangeOf_8 : decode cX0_rangeOf 8 = .ok (.istore_n 2, 1) := by decide +kernel
theorem dX0_rangeOf_9 : decode cX0_rangeOf 9 = .ok (.lconst 0, 1) := by decide +kernel
theorem dX0_rangeOf_10 : decode cX0_rangeOf 10 = .ok (.lstore_n 3, 1) := by decide +kernel
theorem dX0_rangeOf_11 : decode cX0_rangeOf 11 = .ok (.iload_n 2, 1) := by decide +kernel
theorem dX0_rangeOf_12 : decode cX0_rangeOf 12 = .ok (.iconst 4, 1) := by decide +kernel
theorem dX0_rangeOf_13 : decode cX0_rangeOf 13 = .ok (.if_icmp .ne 52, 3) := by decide +kernel
theorem dX0_rangeOf_16 : decode cX0_rangeOf 16 = .ok (.iconst 0, 1) := by decide +kernel
theorem dX0_rangeOf_17 : decode cX0_rangeOf 17 = .ok (.istore 5, 2) := by decide +kernel
theorem dX0_rangeOf_19 : decode cX0_rangeOf 19 = .ok (.iload 5, 2) := by decide +kernel
theorem dX0_rangeOf_21 : decode cX0_rangeOf 21 = .ok (.getstatic 59, 3) := by decide +kernel
theorem dX0_rangeOf_24 : decode cX0_rangeOf 24 = .ok (.arraylength, 1) := by decide +kernel
theorem dX0_rangeOf_25 : decode cX0_rangeOf 25 = .ok (.if_icmp .ge 38, 3) := by decide +kernel
theorem dX0_rangeOf_28 : decode cX0_rangeOf 28 = .ok (.iload_n 1, 1) := by decide +kernel
theorem dX0_rangeOf_29 : decode cX0_rangeOf 29 = .ok (.getstatic 59, 3) := by decide +kernel
theorem dX0_rangeOf_32 : decode cX0_rangeOf 32 = .ok (.iload 5, 2) := by decide +kernel
theorem dX0_rangeOf_34 : decode cX0_rangeOf 34 = .ok (.iaload, 1) := by decide +kernel
theorem dX0_rangeOf_35 : decode cX0_rangeOf 35 = .ok (.iadd, 1) := by decide +kernel
theorem dX0_rangeOf_36 : decode cX0_rangeOf 36 = .ok (.istore 6, 2) := by decide +kernel
theorem dX0_rangeOf_38 : decode cX0_rangeOf 38 = .ok (.aload_n 0, 1) := by decide +kernel
theorem dX0_rangeOf_39 : decode cX0_rangeOf 39 = .ok (.iload 6, 2) := by decide +kernel
theorem dX0_rangeOf_41 : decode cX0_rangeOf 41 = .ok (.invokevirtual 48, 3) := by decide +kernel
theorem dX0_rangeOf_44 : decode cX0_rangeOf 44 = .ok (.bipush 15, 2) := by decide +kernel
theorem dX0_rangeOf_46 : decode cX0_rangeOf 46 = .ok (.if_icmp .eq 11, 3) := by decide +kernel
theorem dX0_rangeOf_49 : decode cX0_rangeOf 49 = .ok (.lload_n 3, 1) := by decide +kernel
theorem dX0_rangeOf_50 : decode cX0_rangeOf 50 = .ok (.iload 6, 2) := by decide +kernel
theorem dX0_rangeOf_52 : decode cX0_rangeOf 52 = .ok (.invokestatic 85, 3) := by decide +kernel
theorem dX0_rangeOf_55 : decode cX0_rangeOf 55 = .ok (.lor, 1) := by decide +kernel
theorem dX0_rangeOf_56 : decode cX0_rangeOf 56 = .ok (.lstore_n 3, 1) := by decide +kernel
theorem dX0_rangeOf_57 : decode cX0_rangeOf 57 = .ok (.iinc 5 1, 3) := by decide +kernel
theorem dX0_rangeOf_60 : decode cX0_rangeOf 60 = .ok (.goto (-41), 3) := by decide +kernel
theorem dX0_rangeOf_63 : decode cX0_rangeOf 63 = .ok (.lload_n 3, 1) := by decide +kernel
theorem dX0_rangeOf_64 : decode cX0_rangeOf 64 = .ok (.lreturn, 1) := by decide +kernel
theorem dX0_rangeOf_65 : decode cX0_rangeOf 65 = .ok (.iload_n 2, 1) := by decide +kernel
theorem dX0_rangeOf_66 : decode cX0_rangeOf 66 = .ok (.iconst 3, 1) := by decide +kernel
theorem dX0_rangeOf_67 : decode cX0_rangeOf 67 = .ok (.if_icmp .ne 7, 3) := by decide +kernel
theorem dX0_rangeOf_70 : decode cX0_rangeOf 70 = .ok (.iconst 4, 1) := by decide +kernel
theorem dX0_rangeOf_71 : decode cX0_rangeOf 71 = .ok (.goto 4, 3) := by decide +kernel
theorem dX0_rangeOf_74 : decode cX0_rangeOf 74 = .ok (.iconst 0, 1) := by decide +kernel
theorem dX0_rangeOf_75 : decode cX0_rangeOf 75 = .ok (.istore 5, 2) := by decide +kernel
theorem dX0_rangeOf_77 : decode cX0_rangeOf 77 = .ok (.iload_n 2, 1) := by decide +kernel
theorem dX0_rangeOf_78 : decode cX0_rangeOf 78 = .ok (.iconst 2, 1) := by decide +kernel
theorem dX0_rangeOf_79 : decode cX0_rangeOf 79 = .ok (.if_icmp .ne 7, 3) := by decide +kernel
theorem dX0_rangeOf_82 : decode cX0_rangeOf 82 = .ok (.iconst 4, 1) := by decide +kernel
theorem dX0_rangeOf_83 : decode cX0_rangeOf 83 = .ok (.goto 7, 3) := by decide +kernel
theorem dX0_rangeOf_86 : decode cX0_rangeOf 86 = .ok (.getstatic 56, 3) := by decide +kernel
theorem dX0_rangeOf_89 : decode cX0_rangeOf 89 = .ok (.arraylength, 1) := by decide +kernel
theorem dX0_rangeOf_90 : decode cX0_rangeOf 90 = .ok (.istore 6, 2) := by decide +kernel
theorem dX0_rangeOf_92 : decode cX0_rangeOf 92 = .ok (.iload_n 2, 1) := by decide +kernel
theorem dX0_rangeOf_93 : decode cX0_rangeOf 93 = .ok (.ifCond .ne 7, 3) := by decide +kernel
theorem dX0_rangeOf_96 : decode cX0_rangeOf 96 = .ok (.iconst 1, 1) := by decide +kernel
theorem dX0_rangeOf_97 : decode cX0_rangeOf 97 = .ok (.goto 4, 3) := by decide +kernel
theorem dX0_rangeOf_100 : decode cX0_rangeOf 100 = .ok (.iconst 5, 1) := by decide +kernel
theorem dX0_rangeOf_101 : decode cX0_rangeOf 101 = .ok (.istore 7, 2) := by decide +kernel
theorem dX0_rangeOf_103 : decode cX0_rangeOf 103 = .ok (.iload 5, 2) := by decide +kernel
theorem dX0_rangeOf_105 : decode cX0_rangeOf 105 = .ok (.istore 8, 2) := by decide +kernel
theorem dX0_rangeOf_107 : decode cX0_rangeOf 107 = .ok (.iload 8, 2) := by decide +kernel
theorem dX0_rangeOf_109 : decode cX0_rangeOf 109 = .ok (.iload 6, 2) := by decide +kernel
theorem dX0_rangeOf_111 : decode cX0_rangeOf 111 = .ok (.if_icmp .ge 70, 3) := by decide +kernel
theorem dX0_rangeOf_114 : decode cX0_rangeOf 114 = .ok (.iload_n 1, 1) := by decide +kernel
theorem dX0_rangeOf_115 : decode cX0_rangeOf 115 = .ok (.istore 9, 2) := by decide +kernel
theorem dX0_rangeOf_117 : decode cX0_rangeOf 117 = .ok (.iconst 0, 1) := by decide +kernel
theorem dX0_rangeOf_118 : decode cX0_rangeOf 118 = .ok (.istore 10, 2) := by decide +kernel
theorem dX0_rangeOf_120 : decode cX0_rangeOf 120 = .ok (.iconst 0, 1) := by decide +kernel
theorem dX0_rangeOf_121 : decode cX0_rangeOf 121 = .ok (.istore 11, 2) := by decide +kernel
theorem dX0_rangeOf_123 : decode cX0_rangeOf 123 = .ok (.iload 11, 2) := by decide +kernel
theorem dX0_rangeOf_125 : decode cX0_rangeOf 125 = .ok (.iload 7, 2) := by decide +kernel
theorem dX0_rangeOf_127 : decode cX0_rangeOf 127 = .ok (.if_icmp .ge 48, 3) := by decide +kernel
theorem dX0_rangeOf_130 : decode cX0_rangeOf 130 = .ok (.iload 10, 2) := by decide +kernel
theorem dX0_rangeOf_132 : decode cX0_rangeOf 132 = .ok (.ifCond .ne 43, 3) := by decide +kernel
theorem dX0_rangeOf_135 : decode cX0_rangeOf 135 = .ok (.iload 9, 2) := by decide +kernel
theorem dX0_rangeOf_137 : decode cX0_rangeOf 137 = .ok (.getstatic 56, 3) := by decide +kernel
theorem dX0_rangeOf_140 : decode cX0_rangeOf 140 = .ok (.iload 8, 2) := by decide +kernel
theorem dX0_rangeOf_142 : decode cX0_rangeOf 142 = .ok (.iaload, 1) := by decide +kernel
theorem dX0_rangeOf_143 : decode cX0_rangeOf 143 = .ok (.iadd, 1) := by decide +kernel
theorem dX0_rangeOf_144 : decode cX0_rangeOf 144 = .ok (.istore 9, 2) := by decide +kernel
theorem dX0_rangeOf_146 : decode cX0_rangeOf 146 = .ok (.aload_n 0, 1) := by decide +kernel
theorem dX0_rangeOf_147 : decode cX0_rangeOf 147 = .ok (.iload 9, 2) := by decide +kernel
theorem dX0_rangeOf_149 : decode cX0_rangeOf 149 = .ok (.invokevirtual 48, 3) := by decide +kernel
theorem dX0_rangeOf_152 : decode cX0_rangeOf 152 = .ok (.istore 10, 2) := by decide +kernel
theorem dX0_rangeOf_154 : decode cX0_rangeOf 154 = .ok (.iload 10, 2) := by decide +kernel
theorem dX0_rangeOf_156 : decode cX0_rangeOf 156 = .ok (.bipush 15, 2) := by decide +kernel
theorem dX0_rangeOf_158 : decode cX0_rangeOf 158 = .ok (.if_icmp .eq 11, 3) := by decide +kernel
theorem dX0_rangeOf_161 : decode cX0_rangeOf 161 = .ok (.lload_n 3, 1) := by decide +kernel
theorem dX0_rangeOf_162 : decode cX0_rangeOf 162 = .ok (.iload 9, 2) := by decide +kernel
theorem dX0_rangeOf_164 : decode cX0_rangeOf 164 = .ok (.invokestatic 85, 3) := by decide +kernel
theorem dX0_rangeOf_167 : decode cX0_rangeOf 167 = .ok (.lor, 1) := by decide +kernel
theorem dX0_rangeOf_168 : decode cX0_rangeOf 168 = .ok (.lstore_n 3, 1) := by decide +kernel
theorem dX0_rangeOf_169 : decode cX0_rangeOf 169 = .ok (.iinc 11 1, 3) := by decide +kernel
theorem dX0_rangeOf_172 : decode cX0_rangeOf 172 = .ok (.goto (-49), 3) := by decide +kernel
theorem dX0_rangeOf_175 : decode cX0_rangeOf 175 = .ok (.iinc 8 1, 3) := by decide +kernel
theorem dX0_rangeOf_178 : decode cX0_rangeOf 178 = .ok (.goto (-71), 3) := by decide +kernel
theorem dX0_rangeOf_181 : decode cX0_rangeOf 181 = .ok (.lload_n 3, 1) := by decide +kernel
theorem dX0_rangeOf_182 : decode cX0_rangeOf 182 = .ok (.lreturn, 1) := by decide +kernel
theorem dX0_isLegal_0 : decode cX0_isLegal 0 = .ok (.aload_n 0, 1) := by decide +kernel
theorem dX0_isLegal_1 : decode cX0_isLegal 1 = .ok (.iload_n 1, 1) := by decide +kernel
theorem dX0_isLegal_2 : decode cX0_isLegal 2 = .ok (.invokevirtual 48, 3) := by decide +kernel
theorem dX0_isLegal_5 : decode cX0_isLegal 5 = .ok (.istore 4, 2) := by decide +kernel
theorem dX0_isLegal_7 : decode cX0_isLegal 7 = .ok (.aload_n 0, 1) := by decide +kernel
theorem dX0_isLegal_8 : decode cX0_isLegal 8 = .ok (.iload_n 2, 1) := by decide +kernel
theorem dX0_isLegal_9 : decode cX0_isLegal 9 = .ok (.invokevirtual 48, 3) := by decide +kernel
theorem dX0_isLegal_12 : decode cX0_isLegal 12 = .ok (.istore 5, 2) := by decide +kernel
theorem dX0_isLegal_14 : decode cX0_isLegal 14 = .ok (.iload 4, 2) := by decide +kernel
theorem dX0_isLegal_16 : decode cX0_isLegal 16 = .ok (.invokestatic 65, 3) := by decide +kernel
theorem dX0_isLegal_19 : decode cX0_isLegal 19 = .ok (.istore 6, 2) := by decide +kernel
theorem dX0_isLegal_21 : decode cX0_isLegal 21 = .ok (.aload_n 0, 1) := by decide +kernel
theorem dX0_isLegal_22 : decode cX0_isLegal 22 = .ok (.iload_n 2, 1) := by decide +kernel
theorem dX0_isLegal_23 : decode cX0_isLegal 23 = .ok (.iload 4, 2) := by decide +kernel
theorem dX0_isLegal_25 : decode cX0_isLegal 25 = .ok (.invokevirtual 52, 3) := by decide +kernel
theorem dX0_isLegal_28 : decode cX0_isLegal 28 = .ok (.aload_n 0, 1) := by decide +kernel
theorem dX0_isLegal_29 : decode cX0_isLegal 29 = .ok (.iload_n 1, 1) := by decide +kernel
theorem dX0_isLegal_30 : decode cX0_isLegal 30 = .ok (.iconst 0, 1) := by decide +kernel
theorem dX0_isLegal_31 : decode cX0_isLegal 31 = .ok (.invokevirtual 52, 3) := by decide +kernel
theorem dX0_isLegal_34 : decode cX0_isLegal 34 = .ok (.iload 4, 2) := by decide +kernel
theorem dX0_isLegal_36 : decode cX0_isLegal 36 = .ok (.invokestatic 68, 3) := by decide +kernel
theorem dX0_isLegal_39 : decode cX0_isLegal 39 = .ok (.ifCond .ne 7, 3) := by decide +kernel
theorem dX0_isLegal_42 : decode cX0_isLegal 42 = .ok (.iload_n 2, 1) := by decide +kernel
theorem dX0_isLegal_43 : decode cX0_isLegal 43 = .ok (.goto 9, 3) := by decide +kernel
theorem dX0_isLegal_46 : decode cX0_isLegal 46 = .ok (.aload_n 0, 1) := by decide +kernel
theorem dX0_isLegal_47 : decode cX0_isLegal 47 = .ok (.iload 6, 2) := by decide +kernel
theorem dX0_isLegal_49 : decode cX0_isLegal 49 = .ok (.invokevirtual 102, 3) := by decide +kernel
theorem dX0_isLegal_52 : decode cX0_isLegal 52 = .ok (.istore 7, 2) := by decide +kernel
theorem dX0_isLegal_54 : decode cX0_isLegal 54 = .ok (.aload_n 0, 1) := by decide +kernel
theorem dX0_isLegal_55 : decode cX0_isLegal 55 = .ok (.iload 7, 2) := by decide +kernel
theorem dX0_isLegal_57 : decode cX0_isLegal 57 = .ok (.iconst 1, 1) := by decide +kernel
theorem dX0_isLegal_58 : decode cX0_isLegal 58 = .ok (.iload 6, 2) := by decide +kernel
theorem dX0_isLegal_60 : decode cX0_isLegal 60 = .ok (.isub, 1) := by decide +kernel
theorem dX0_isLegal_61 : decode cX0_isLegal 61 = .ok (.invokevirtual 105, 3) := by decide +kernel
theorem dX0_isLegal_64 : decode cX0_isLegal 64 = .ok (.ifCond .ne 28, 3) := by decide +kernel
theorem dX0_isLegal_67 : decode cX0_isLegal 67 = .ok (.iload_n 3, 1) := by decide +kernel
theorem dX0_isLegal_68 : decode cX0_isLegal 68 = .ok (.ifCond .eq 20, 3) := by decide +kernel
theorem dX0_isLegal_71 : decode cX0_isLegal 71 = .ok (.aload_n 0, 1) := by decide +kernel
theorem dX0_isLegal_72 : decode cX0_isLegal 72 = .ok (.aload_n 0, 1) := by decide +kernel
theorem dX0_isLegal_73 : decode cX0_isLegal 73 = .ok (.iconst 1, 1) := by decide +kernel
theorem dX0_isLegal_74 : decode cX0_isLegal 74 = .ok (.iload 6, 2) := by decide +kernel
theorem dX0_isLegal_76 : decode cX0_isLegal 76 = .ok (.isub, 1) := by decide +kernel
theorem dX0_isLegal_77 : decode cX0_isLegal 77 = .ok (.invokevirtual 102, 3) := by decide +kernel
theorem dX0_isLegal_80 : decode cX0_isLegal 80 = .ok (.iload 6, 2) := by decide +kernel
theorem dX0_isLegal_82 : decode cX0_isLegal 82 = .ok (.invokevirtual 105, 3) := by decide +kernel
theorem dX0_isLegal_85 : decode cX0_isLegal 85 = .ok (.ifCond .eq 7, 3) := by decide +kernel
theorem dX0_isLegal_88 : decode cX0_isLegal 88 = .ok (.iconst 1, 1) := by decide +kernel
theorem dX0_isLegal_89 : decode cX0_isLegal 89 = .ok (.goto 4, 3) := by decide +kernel
theorem dX0_isLegal_92 : decode cX0_isLegal 92 = .ok (.iconst 0, 1) := by decide +kernel
theorem dX0_isLegal_93 : decode cX0_isLegal 93 = .ok (.istore 8, 2) := by decide +kernel
theorem dX0_isLegal_95 : decode cX0_isLegal 95 = .ok (.aload_n 0, 1) := by decide +kernel
theorem dX0_isLegal_96 : decode cX0_isLegal 96 = .ok (.iload_n 1, 1) := by decide +kernel
theorem dX0_isLegal_97 : decode cX0_isLegal 97 = .ok (.iload 4, 2) := by decide +kernel
theorem dX0_isLegal_99 : decode cX0_isLegal 99 = .ok (.invokevirtual 52, 3) := by decide +kernel
theorem dX0_isLegal_102 : decode cX0_isLegal 102 = .ok (.aload_n 0, 1) := by decide +kernel
theorem dX0_isLegal_103 : decode cX0_isLegal 103 = .ok (.iload_n 2, 1) := by decide +kernel
theorem dX0_isLegal_104 : decode cX0_isLegal 104 = .ok (.iload 5, 2) := by decide +kernel
theorem dX0_isLegal_106 : decode cX0_isLegal 106 = .ok (.invokevirtual 52, 3) := by decide +kernel
theorem dX0_isLegal_109 : decode cX0_isLegal 109 = .ok (.iload 8, 2) := by decide +kernel
theorem dX0_isLegal_111 : decode cX0_isLegal 111 = .ok (.ireturn, 1) := by decide +kernel
theorem dX1_init_0 : decode cX1_init 0 = .ok (.aload_n 0, 1) := by decide +kernel
theorem dX1_init_1 : decode cX1_init 1 = .ok (.invokespecial 3, 3) := by decide +kernel
theorem dX1_init_4 : decode cX1_init 4 = .ok (.aload_n 0, 1) := by decide +kernel
theorem dX1_init_5 : decode cX1_init 5 = .ok (.iconst (-1), 1) := by decide +kernel
theorem dX1_init_6 : decode cX1_init 6 = .ok (.putfield 9, 3) := by decide +kernel
theorem dX1_init_9 : decode cX1_init 9 = .ok (.aload_n 0, 1) := by decide +kernel
theorem dX1_init_10 : decode cX1_init 10 = .ok (.iconst (-1), 1) := by decide +kernel
theorem dX1_init_11 : decode cX1_init 11 = .ok (.putfield 15, 3) := by decide +kernel
theorem dX1_init_14 : decode cX1_init 14 = .ok (.aload_n 0, 1) := by decide +kernel
theorem dX1_init_15 : decode cX1_init 15 = .ok (.iconst (-1), 1) := by decide +kernel
theorem dX1_init_16 : decode cX1_init 16 = .ok (.putfield 18, 3) := by decide +kernel
theorem dX1_init_19 : decode cX1_init 19 = .ok (.aload_n 0, 1) := by decide +kernel
theorem dX1_init_20 : decode cX1_init 20 = .ok (.iconst (-1), 1) := by decide +kernel
theorem dX1_init_21 : decode cX1_init 21 = .ok (.putfield 21, 3) := by decide +kernel
theorem dX1_init_24 : decode cX1_init 24 = .ok (.aload_n 0, 1) := by decide +kernel
theorem dX1_init_25 : decode cX1_init 25 = .ok (.iconst (-1), 1) := by decide +kernel
theorem dX1_init_26 : decode cX1_init 26 = .ok (.putfield 24, 3) := by decide +kernel
theorem dX1_init_29 : decode cX1_init 29 = .ok (.aload_n 0, 1) := by decide +kernel
theorem dX1_init_30 : decode cX1_init 30 = .ok (.iconst 0, 1) := by decide +kernel
theorem dX1_init_31 : decode cX1_init 31 = .ok (.putfield 27, 3) := by decide +kernel
theorem dX1_init_34 : decode cX1_init 34 = .ok (.aload_n 0, 1) := by decide +kernel
theorem dX1_init_35 : decode cX1_init 35 = .ok (.iconst 0, 1) := by decide +kernel
theorem dX1_init_36 : decode cX1_init 36 = .ok (.putfield 31, 3) := by decide +kernel
theorem dX1_init_39 : decode cX1_init 39 = .ok (.return_, 1) := by decide +kernel
theorem dX1_state_0 : decode cX1_state 0 = .ok (.aload_n 0, 1) := by decide +kernel
theorem dX1_state_1 : decode cX1_state 1 = .ok (.iload_n 1, 1) := by decide +kernel
theorem dX1_state_2 : decode cX1_state 2 = .ok (.putfield 9, 3) := by decide +kernel
theorem dX1_state_5 : decode cX1_state 5 = .ok (.aload_n 0, 1) := by decide +kernel
theorem dX1_state_6 : decode cX1_state 6 = .ok (.iload_n 2, 1) := by decide +kernel
theorem dX1_state_7 : decode cX1_state 7 = .ok (.putfield 15, 3) := by decide +kernel
theorem dX1_state_10 : decode cX1_state 10 = .ok (.aload_n 0, 1) := by decide +kernel
theorem dX1_state_11 : decode cX1_state 11 = .ok (.iconst (-1), 1) := by decide +kernel
theorem dX1_state_12 : decode cX1_state 12 = .ok (.putfield 18, 3) := by decide +kernel
theorem dX1_state_15 : decode cX1_state 15 = .ok (.aload_n 0, 1) := by decide +kernel
theorem dX1_state_16 : decode cX1_state 16 = .ok (.iload_n 3, 1) := by decide +kernel
theorem dX1_state_17 : decode cX1_state 17 = .ok (.putfield 21, 3) := by decide +kernel
theorem dX1_state_20 : decode cX1_state 20 = .ok (.aload_n 0, 1) := by decide +kernel
theorem dX1_state_21 : decode cX1_state 21 = .ok (.iload 4, 2) := by decide +kernel
theorem dX1_state_23 : decode cX1_state 23 = .ok (.putfield 24, 3) := by decide +kernel
theorem dX1_state_26 : decode cX1_state 26 = .ok (.aload_n 0, 1) := by decide +kernel
theorem dX1_state_27 : decode cX1_state 27 = .ok (.iload 5, 2) := by decide +kernel
theorem dX1_state_29 : decode cX1_state 29 = .ok (.putfield 27, 3) := by decide +kernel
theorem dX1_state_32 : decode cX1_state 32 = .ok (.aload_n 0, 1) := by decide +kernel
theorem dX1_state_33 : decode cX1_state 33 = .ok (.iload 6, 2) := by decide +kernel
theorem dX1_state_35 : decode cX1_state 35 = .ok (.putfield 31, 3) := by decide +kernel
theorem dX1_state_38 : decode cX1_state 38 = .ok (.return_, 1) := by decide +kernel
theorem dX1_copyFrom_0 : decode cX1_copyFrom 0 = .ok (.aload_n 0, 1) := by decide +kernel
theorem dX1_copyFrom_1 : decode cX1_copyFrom 1 = .ok (.aload_n 1, 1) := by decide +kernel
theorem dX1_copyFrom_2 : decode cX1_copyFrom 2 = .ok (.getfield 9, 3) := by decide +kernel
theorem dX1_copyFrom_5 : decode cX1_copyFrom 5 = .ok (.putfield 9, 3) := by decide +kernel
theorem dX1_copyFrom_8 : decode cX1_copyFrom 8 = .ok (.aload_n 0, 1) := by decide +kernel
theorem dX1_copyFrom_9 : decode cX1_copyFrom 9 = .ok (.aload_n 1, 1) := by decide +kernel
theorem dX1_copyFrom_10 : decode cX1_copyFrom 10 = .ok (.getfield 15, 3) := by decide +kernel
theorem dX1_copyFrom_13 : decode cX1_copyFrom 13 = .ok (.putfield 15, 3) := by decide +kernel
theorem dX1_copyFrom_16 : decode cX1_copyFrom 16 = .ok (.aload_n 0, 1) := by decide +kernel
theorem dX1_copyFrom_17 : decode cX1_copyFrom 17 = .ok (.aload_n 1, 1) := by decide +kernel
theorem dX1_copyFrom_18 : decode cX1_copyFrom 18 = .ok (.getfield 18, 3) := by decide +kernel
theorem dX1_copyFrom_21 : decode cX1_copyFrom 21 = .ok (.putfield 18, 3) := by decide +kernel
theorem dX1_copyFrom_24 : decode cX1_copyFrom 24 = .ok (.aload_n 0, 1) := by decide +kernel
theorem dX1_copyFrom_25 : decode cX1_copyFrom 25 = .ok (.aload_n 1, 1) := by decide +kernel
theorem dX1_copyFrom_26 : decode cX1_copyFrom 26 = .ok (.getfield 21, 3) := by decide +kernel
theorem dX1_copyFrom_29 : decode cX1_copyFrom 29 = .ok (.putfield 21, 3) := by decide +kernel
theorem dX1_copyFrom_32 : decode cX1_copyFrom 32 = .ok (.aload_n 0, 1) := by decide +kernel
theorem dX1_copyFrom_33 : decode cX1_copyFrom 33 = .ok (.aload_n 1, 1) := by decide +kernel
theorem dX1_copyFrom_34 : decode cX1_copyFrom 34 = .ok (.getfield 24, 3) := by decide +kernel
theorem dX1_copyFrom_37 : decode cX1_copyFrom 37 = .ok (.putfield 24, 3) := by decide +kernel
theorem dX1_copyFrom_40 : decode cX1_copyFrom 40 = .ok (.aload_n 0, 1) := by decide +kernel
theorem dX1_copyFrom_41 : decode cX1_copyFrom 41 = .ok (.aload_n 1, 1) := by decide +kernel
theorem dX1_copyFrom_42 : decode cX1_copyFrom 42 = .ok (.getfield 27, 3) := by decide +kernel
theorem dX1_copyFrom_45 : decode cX1_copyFrom 45 = .ok (.putfield 27, 3) := by decide +kernel
theorem dX1_copyFrom_48 : decode cX1_copyFrom 48 = .ok (.aload_n 0, 1) := by decide +kernel
theorem dX1_copyFrom_49 : decode cX1_copyFrom 49 = .ok (.aload_n 1, 1) := by decide +kernel
theorem dX1_copyFrom_50 : decode cX1_copyFrom 50 = .ok (.getfield 31, 3) := by decide +kernel
theorem dX1_copyFrom_53 : decode cX1_copyFrom 53 = .ok (.putfield 31, 3) := by decide +kernel
theorem dX1_copyFrom_56 : decode cX1_copyFrom 56 = .ok (.return_, 1) := by decide +kernel
theorem dX1_allowsOrigin_0 : decode cX1_allowsOrigin 0 = .ok (.aload_n 0, 1) := by decide +kernel
theorem dX1_allowsOrigin_1 : decode cX1_allowsOrigin 1 = .ok (.getfield 9, 3) := by decide +kernel
theorem dX1_allowsOrigin_4 : decode cX1_allowsOrigin 4 = .ok (.iconst (-1), 1) := by decide +kernel
theorem dX1_allowsOrigin_5 : decode cX1_allowsOrigin 5 = .ok (.if_icmp .eq 11, 3) := by decide +kernel
theorem dX1_allowsOrigin_8 : decode cX1_allowsOrigin 8 = .ok (.aload_n 0, 1) := by decide +kernel
theorem dX1_allowsOrigin_9 : decode cX1_allowsOrigin 9 = .ok (.getfield 9, 3) := by decide +kernel
theorem dX1_allowsOrigin_12 : decode cX1_allowsOrigin 12 = .ok (.iload_n 1, 1) := by decide +kernel
theorem dX1_allowsOrigin_13 : decode cX1_allowsOrigin 13 = .ok (.if_icmp .ne 39, 3) := by decide +kernel
theorem dX1_allowsOrigin_16 : decode cX1_allowsOrigin 16 = .ok (.aload_n 0, 1) := by decide +kernel
theorem dX1_allowsOrigin_17 : decode cX1_allowsOrigin 17 = .ok (.getfield 15, 3) := by decide +kernel
theorem dX1_allowsOrigin_20 : decode cX1_allowsOrigin 20 = .ok (.iconst (-1), 1) := by decide +kernel
theorem dX1_allowsOrigin_21 : decode cX1_allowsOrigin 21 = .ok (.if_icmp .eq 11, 3) := by decide +kernel
theorem dX1_allowsOrigin_24 : decode cX1_allowsOrigin 24 = .ok (.aload_n 0, 1) := by decide +kernel
theorem dX1_allowsOrigin_25 : decode cX1_allowsOrigin 25 = .ok (.getfield 15, 3) := by decide +kernel
theorem dX1_allowsOrigin_28 : decode cX1_allowsOrigin 28 = .ok (.iload_n 2, 1) := by decide +kernel
theorem dX1_allowsOrigin_29 : decode cX1_allowsOrigin 29 = .ok (.if_icmp .ne 23, 3) := by decide +kernel
theorem dX1_allowsOrigin_32 : decode cX1_allowsOrigin 32 = .ok (.aload_n 0, 1) := by decide +kernel
theorem dX1_allowsOrigin_33 : decode cX1_allowsOrigin 33 = .ok (.getfield 18, 3) := by decide +kernel
theorem dX1_allowsOrigin_36 : decode cX1_allowsOrigin 36 = .ok (.iconst (-1), 1) := by decide +kernel
theorem dX1_allowsOrigin_37 : decode cX1_allowsOrigin 37 = .ok (.if_icmp .eq 11, 3) := by decide +kernel
theorem dX1_allowsOrigin_40 : decode cX1_allowsOrigin 40 = .ok (.aload_n 0, 1) := by decide +kernel
theorem dX1_allowsOrigin_41 : decode cX1_allowsOrigin 41 = .ok (.getfield 18, 3) := by decide +kernel
theorem dX1_allowsOrigin_44 : decode cX1_allowsOrigin 44 = .ok (.iload_n 3, 1) := by decide +kernel
theorem dX1_allowsOrigin_45 : decode cX1_allowsOrigin 45 = .ok (.if_icmp .ne 7, 3) := by decide +kernel
theorem dX1_allowsOrigin_48 : decode cX1_allowsOrigin 48 = .ok (.iconst 1, 1) := by decide +kernel
theorem dX1_allowsOrigin_49 : decode cX1_allowsOrigin 49 = .ok (.goto 4, 3) := by decide +kernel
theorem dX1_allowsOrigin_52 : decode cX1_allowsOrigin 52 = .ok (.iconst 0, 1) := by decide +kernel
theorem dX1_allowsOrigin_53 : decode cX1_allowsOrigin 53 = .ok (.ireturn, 1) := by decide +kernel
theorem dX1_allowsTarget_0 : decode cX1_allowsTarget 0 = .ok (.aload_n 0, 1) := by decide +kernel
theorem dX1_allowsTarget_1 : decode cX1_allowsTarget 1 = .ok (.getfield 21, 3) := by decide +kernel
theorem dX1_allowsTarget_4 : decode cX1_allowsTarget 4 = .ok (.iconst (-1), 1) := by decide +kernel
theorem dX1_allowsTarget_5 : decode cX1_allowsTarget 5 = .ok (.if_icmp .eq 11, 3) := by decide +kernel
theorem dX1_allowsTarget_8 : decode cX1_allowsTarget 8 = .ok (.aload_n 0, 1) := by decide +kernel
theorem dX1_allowsTarget_9 : decode cX1_allowsTarget 9 = .ok (.getfield 21, 3) := by decide +kernel
theorem dX1_allowsTarget_12 : decode cX1_allowsTarget 12 = .ok (.iload_n 1, 1) := by decide +kernel
theorem dX1_allowsTarget_13 : decode cX1_allowsTarget 13 = .ok (.if_icmp .ne 34, 3) := by decide +kernel
theorem dX1_allowsTarget_16 : decode cX1_allowsTarget 16 = .ok (.aload_n 0, 1) := by decide +kernel
theorem dX1_allowsTarget_17 : decode cX1_allowsTarget 17 = .ok (.getfield 24, 3) := by decide +kernel
theorem dX1_allowsTarget_20 : decode cX1_allowsTarget 20 = .ok (.iconst (-1), 1) := by decide +kernel
theorem dX1_allowsTarget_21 : decode cX1_allowsTarget 21 = .ok (.if_icmp .eq 11, 3) := by decide +kernel
theorem dX1_allowsTarget_24 : decode cX1_allowsTarget 24 = .ok (.aload_n 0, 1) := by decide +kernel
theorem dX1_allowsTarget_25 : decode cX1_allowsTarget 25 = .ok (.getfield 24, 3) := by decide +kernel
theorem dX1_allowsTarget_28 : decode cX1_allowsTarget 28 = .ok (.iload_n 2, 1) := by decide +kernel
theorem dX1_allowsTarget_29 : decode cX1_allowsTarget 29 = .ok (.if_icmp .ne 18, 3) := by decide +kernel
theorem dX1_allowsTarget_32 : decode cX1_allowsTarget 32 = .ok (.iload_n 3, 1) := by decide +kernel
theorem dX1_allowsTarget_33 : decode cX1_allowsTarget 33 = .ok (.ifCond .ne 10, 3) := by decide +kernel
theorem dX1_allowsTarget_36 : decode cX1_allowsTarget 36 = .ok (.aload_n 0, 1) := by decide +kernel
theorem dX1_allowsTarget_37 : decode cX1_allowsTarget 37 = .ok (.getfield 27, 3) := by decide +kernel
theorem dX1_allowsTarget_40 : decode cX1_allowsTarget 40 = .ok (.ifCond .ne 7, 3) := by decide +kernel
theorem dX1_allowsTarget_43 : decode cX1_allowsTarget 43 = .ok (.iconst 1, 1) := by decide +kernel
theorem dX1_allowsTarget_44 : decode cX1_allowsTarget 44 = .ok (.goto 4, 3) := by decide +kernel
theorem dX1_allowsTarget_47 : decode cX1_allowsTarget 47 = .ok (.iconst 0, 1) := by decide +kernel
theorem dX1_allowsTarget_48 : decode cX1_allowsTarget 48 = .ok (.ireturn, 1) := by decide +kernel
theorem dX2_init_0 : decode cX2_init 0 = .ok (.aload_n 0, 1) := by decide +kernel
theorem dX2_init_1 : decode cX2_init 1 = .ok (.invokespecial 3, 3) := by decide +kernel
theorem dX2_init_4 : decode cX2_init 4 = .ok (.aload_n 0, 1) := by decide +kernel
theorem dX2_init_5 : decode cX2_init 5 = .ok (.new 9, 3) := by decide +kernel
theorem dX2_init_8 : decode cX2_init 8 = .ok (.dup, 1) := by decide +kernel
theorem dX2_init_9 : decode cX2_init 9 = .ok (.invokespecial 11, 3) := by decide +kernel
theorem dX2_init_12 : decode cX2_init 12 = .ok (.putfield 12, 3) := by decide +kernel
theorem dX2_init_15 : decode cX2_init 15 = .ok (.aload_n 0, 1) := by decide +kernel
theorem dX2_init_16 : decode cX2_init 16 = .ok (.iconst 0, 1) := by decide +kernel
theorem dX2_init_17 : decode cX2_init 17 = .ok (.putfield 18, 3) := by decide +kernel
theorem dX2_init_20 : decode cX2_init 20 = .ok (.aload_n 0, 1) := by decide +kernel
theorem dX2_init_21 : decode cX2_init 21 = .ok (.iconst (-1), 1) := by decide +kernel
theorem dX2_init_22 : decode cX2_init 22 = .ok (.putfield 22, 3) := by decide +kernel
theorem dX2_init_25 : decode cX2_init 25 = .ok (.aload_n 0, 1) := by decide +kernel
theorem dX2_init_26 : decode cX2_init 26 = .ok (.iconst 0, 1) := by decide +kernel
theorem dX2_init_27 : decode cX2_init 27 = .ok (.putfield 25, 3) := by decide +kernel
theorem dX2_init_30 : decode cX2_init 30 = .ok (.aload_n 0, 1) := by decide +kernel
theorem dX2_init_31 : decode cX2_init 31 = .ok (.iconst 0, 1) := by decide +kernel
theorem dX2_init_32 : decode cX2_init 32 = .ok (.putfield 28, 3) := by decide +kernel
theorem dX2_init_35 : decode cX2_init 35 = .ok (.aload_n 0, 1) := by decide +kernel
theorem dX2_init_36 : decode cX2_init 36 = .ok (.iconst 2, 1) := by decide +kernel
theorem dX2_init_37 : decode cX2_init 37 = .ok (.putfield 31, 3) := by decide +kernel
theorem dX2_init_40 : decode cX2_init 40 = .ok (.aload_n 0, 1) := by decide +kernel
theorem dX2_init_41 : decode cX2_init 41 = .ok (.new 34, 3) := by decide +kernel
theorem dX2_init_44 : decode cX2_init 44 = .ok (.dup, 1) := by decide +kernel
theorem dX2_init_45 : decode cX2_init 45 = .ok (.invokespecial 36, 3) := by decide +kernel
theorem dX2_init_48 : decode cX2_init 48 = .ok (.putfield 37, 3) := by decide +kernel
theorem dX2_init_51 : decode cX2_init 51 = .ok (.aload_n 0, 1) := by decide +kernel
theorem dX2_init_52 : decode cX2_init 52 = .ok (.iconst 0, 1) := by decide +kernel
theorem dX2_init_53 : decode cX2_init 53 = .ok (.putfield 41, 3) := by decide +kernel
theorem dX2_init_56 : decode cX2_init 56 = .ok (.aload_n 0, 1) := by decide +kernel
theorem dX2_init_57 : decode cX2_init 57 = .ok (.iconst 0, 1) := by decide +kernel
theorem dX2_init_58 : decode cX2_init 58 = .ok (.putfield 44, 3) := by decide +kernel
theorem dX2_init_61 : decode cX2_init 61 = .ok (.aload_n 0, 1) := by decide +kernel
theorem dX2_init_62 : decode cX2_init 62 = .ok (.iconst 0, 1) := by decide +kernel
theorem dX2_init_63 : decode cX2_init 63 = .ok (.putfield 47, 3) := by decide +kernel
theorem dX2_init_66 : decode cX2_init 66 = .ok (.aload_n 0, 1) := by decide +kernel
theorem dX2_init_67 : decode cX2_init 67 = .ok (.iconst 0, 1) := by decide +kernel
theorem dX2_init_68 : decode cX2_init 68 = .ok (.putfield 50, 3) := by decide +kernel
theorem dX2_init_71 : decode cX2_init 71 = .ok (.return_, 1) := by decide +kernel
theorem dX2_begin_0 : decode cX2_begin 0 = .ok (.aload_n 0, 1) := by decide +kernel
theorem dX2_begin_1 : decode cX2_begin 1 = .ok (.iconst 0, 1) := by decide +kernel
theorem dX2_begin_2 : decode cX2_begin 2 = .ok (.putfield 18, 3) := by decide +kernel
theorem dX2_begin_5 : decode cX2_begin 5 = .ok (.aload_n 0, 1) := by decide +kernel
theorem dX2_begin_6 : decode cX2_begin 6 = .ok (.iconst (-1), 1) := by decide +kernel
theorem dX2_begin_7 : decode cX2_begin 7 = .ok (.putfield 22, 3) := by decide +kernel
theorem dX2_begin_10 : decode cX2_begin 10 = .ok (.aload_n 0, 1) := by decide +kernel
theorem dX2_begin_11 : decode cX2_begin 11 = .ok (.iconst 0, 1) := by decide +kernel
theorem dX2_begin_12 : decode cX2_begin 12 = .ok (.putfield 25, 3) := by decide +kernel
theorem dX2_begin_15 : decode cX2_begin 15 = .ok (.aload_n 0, 1) := by decide +kernel
theorem dX2_begin_16 : decode cX2_begin 16 = .ok (.iconst 0, 1) := by decide +kernel
theorem dX2_begin_17 : decode cX2_begin 17 = .ok (.putfield 28, 3) := by decide +kernel
theorem dX2_begin_20 : decode cX2_begin 20 = .ok (.aload_n 0, 1) := by decide +kernel
theorem dX2_begin_21 : decode cX2_begin 21 = .ok (.iconst 0, 1) := by decide +kernel
theorem dX2_begin_22 : decode cX2_begin 22 = .ok (.putfield 50, 3) := by decide +kernel
theorem dX2_begin_25 : decode cX2_begin 25 = .ok (.aload_n 0, 1) := by decide +kernel
theorem dX2_begin_26 : decode cX2_begin 26 = .ok (.getfield 12, 3) := by decide +kernel
theorem dX2_begin_29 : decode cX2_begin 29 = .ok (.invokevirtual 53, 3) := by decide +kernel
theorem dX2_begin_32 : decode cX2_begin 32 = .ok (.return_, 1) := by decide +kernel
theorem dX2_isAtEnd_0 : decode cX2_isAtEnd 0 = .ok (.aload_n 0, 1) := by decide +kernel
theorem dX2_isAtEnd_1 : decode cX2_isAtEnd 1 = .ok (.getfield 12, 3) := by decide +kernel
theorem dX2_isAtEnd_4 : decode cX2_isAtEnd 4 = .ok (.getfield 56, 3) := by decide +kernel
theorem dX2_isAtEnd_7 : decode cX2_isAtEnd 7 = .ok (.ifCond .ne 7, 3) := by decide +kernel
theorem dX2_isAtEnd_10 : decode cX2_isAtEnd 10 = .ok (.iconst 1, 1) := by decide +kernel
theorem dX2_isAtEnd_11 : decode cX2_isAtEnd 11 = .ok (.goto 4, 3) := by decide +kernel
theorem dX2_isAtEnd_14 : decode cX2_isAtEnd 14 = .ok (.iconst 0, 1) := by decide +kernel
theorem dX2_isAtEnd_15 : decode cX2_isAtEnd 15 = .ok (.ireturn, 1) := by decide +kernel
theorem dX2_readSetup_0 : decode cX2_readSetup 0 = .ok (.aload_n 0, 1) := by decide +kernel
theorem dX2_readSetup_1 : decode cX2_readSetup 1 = .ok (.aload_n 1, 1) := by decide +kernel
theorem dX2_readSetup_2 : decode cX2_readSetup 2 = .ok (.invokevirtual 59, 3) := by decide +kernel
theorem dX2_readSetup_5 : decode cX2_readSetup 5 = .ok (.ifCond .ne 5, 3) := by decide +kernel
theorem dX2_readSetup_8 : decode cX2_readSetup 8 = .ok (.iconst 0, 1) := by decide +kernel
theorem dX2_readSetup_9 : decode cX2_readSetup 9 = .ok (.ireturn, 1) := by decide +kernel
theorem dX2_readSetup_10 : decode cX2_readSetup 10 = .ok (.iconst 0, 1) := by decide +kernel
theorem dX2_readSetup_11 : decode cX2_readSetup 11 = .ok (.istore_n 2, 1) := by decide +kernel
theorem dX2_readSetup_12 : decode cX2_readSetup 12 = .ok (.iload_n 2, 1) := by decide +kernel
theorem dX2_readSetup_13 : decode cX2_readSetup 13 = .ok (.sipush 600, 3) := by decide +kernel
theorem dX2_readSetup_16 : decode cX2_readSetup 16 = .ok (.if_icmp .ge 72, 3) := by decide +kernel
theorem dX2_readSetup_19 : decode cX2_readSetup 19 = .ok (.aload_n 0, 1) := by decide +kernel
theorem dX2_readSetup_20 : decode cX2_readSetup 20 = .ok (.invokevirtual 63, 3) := by decide +kernel
theorem dX2_readSetup_23 : decode cX2_readSetup 23 = .ok (.ifCond .ne 11, 3) := by decide +kernel
theorem dX2_readSetup_26 : decode cX2_readSetup 26 = .ok (.aload_n 0, 1) := by decide +kernel
theorem dX2_readSetup_27 : decode cX2_readSetup 27 = .ok (.getfield 25, 3) := by decide +kernel
theorem dX2_readSetup_30 : decode cX2_readSetup 30 = .ok (.iconst 2, 1) := by decide +kernel
theorem dX2_readSetup_31 : decode cX2_readSetup 31 = .ok (.if_icmp .ge 57, 3) := by decide +kernel
theorem dX2_readSetup_34 : decode cX2_readSetup 34 = .ok (.aload_n 0, 1) := by decide +kernel
theorem dX2_readSetup_35 : decode cX2_readSetup 35 = .ok (.invokevirtual 63, 3) := by decide +kernel
theorem dX2_readSetup_38 : decode cX2_readSetup 38 = .ok (.ifCond .ne 9, 3) := by decide +kernel
theorem dX2_readSetup_41 : decode cX2_readSetup 41 = .ok (.aload_n 0, 1) := by decide +kernel
theorem dX2_readSetup_42 : decode cX2_readSetup 42 = .ok (.iconst 1, 1) := by decide +kernel
theorem dX2_readSetup_43 : decode cX2_readSetup 43 = .ok (.invokevirtual 67, 3) := by decide +kernel
theorem dX2_readSetup_46 : decode cX2_readSetup 46 = .ok (.ireturn, 1) := by decide +kernel
theorem dX2_readSetup_47 : decode cX2_readSetup 47 = .ok (.aload_n 0, 1) := by decide +kernel
theorem dX2_readSetup_48 : decode cX2_readSetup 48 = .ok (.getfield 25, 3) := by decide +kernel
theorem dX2_readSetup_51 : decode cX2_readSetup 51 = .ok (.bipush 10, 2) := by decide +kernel
theorem dX2_readSetup_53 : decode cX2_readSetup 53 = .ok (.if_icmp .ne 9, 3) := by decide +kernel
theorem dX2_readSetup_56 : decode cX2_readSetup 56 = .ok (.aload_n 0, 1) := by decide +kernel
theorem dX2_readSetup_57 : decode cX2_readSetup 57 = .ok (.iconst 4, 1) := by decide +kernel
theorem dX2_readSetup_58 : decode cX2_readSetup 58 = .ok (.invokevirtual 67, 3) := by decide +kernel
theorem dX2_readSetup_61 : decode cX2_readSetup 61 = .ok (.ireturn, 1) := by decide +kernel
theorem dX2_readSetup_62 : decode cX2_readSetup 62 = .ok (.aload_n 0, 1) := by decide +kernel
theorem dX2_readSetup_63 : decode cX2_readSetup 63 = .ok (.aload_n 1, 1) := by decide +kernel
theorem dX2_readSetup_64 : decode cX2_readSetup 64 = .ok (.invokevirtual 71, 3) := by decide +kernel
theorem dX2_readSetup_67 : decode cX2_readSetup 67 = .ok (.ifCond .ne 5, 3) := by decide +kernel
theorem dX2_readSetup_70 : decode cX2_readSetup 70 = .ok (.iconst 0, 1) := by decide +kernel
theorem dX2_readSetup_71 : decode cX2_readSetup 71 = .ok (.ireturn, 1) := by decide +kernel
theorem dX2_readSetup_72 : decode cX2_readSetup 72 = .ok (.aload_n 0, 1) := by decide +kernel
theorem dX2_readSetup_73 : decode cX2_readSetup 73 = .ok (.dup, 1) := by decide +kernel
theorem dX2_readSetup_74 : decode cX2_readSetup 74 = .ok (.getfield 25, 3) := by decide +kernel
theorem dX2_readSetup_77 : decode cX2_readSetup 77 = .ok (.iconst 1, 1) := by decide +kernel
theorem dX2_readSetup_78 : decode cX2_readSetup 78 = .ok (.iadd, 1) := by decide +kernel
theorem dX2_readSetup_79 : decode cX2_readSetup 79 = .ok (.putfield 25, 3) := by decide +kernel
theorem dX2_readSetup_82 : decode cX2_readSetup 82 = .ok (.iinc 2 1, 3) := by decide +kernel
theorem dX2_readSetup_85 : decode cX2_readSetup 85 = .ok (.goto (-73), 3) := by decide +kernel
theorem dX2_readSetup_88 : decode cX2_readSetup 88 = .ok (.aload_n 0, 1) := by decide +kernel
theorem dX2_readSetup_89 : decode cX2_readSetup 89 = .ok (.invokevirtual 74, 3) := by decide +kernel
theorem dX2_readSetup_92 : decode cX2_readSetup 92 = .ok (.ifCond .ne 39, 3) := by decide +kernel
theorem dX2_readSetup_95 : decode cX2_readSetup 95 = .ok (.aload_n 0, 1) := by decide +kernel
theorem dX2_readSetup_96 : decode cX2_readSetup 96 = .ok (.getfield 12, 3) := by decide +kernel
theorem dX2_readSetup_99 : decode cX2_readSetup 99 = .ok (.ldc 77, 2) := by decide +kernel
theorem dX2_readSetup_101 : decode cX2_readSetup 101 = .ok (.invokevirtual 79, 3) := by decide +kernel
theorem dX2_readSetup_104 : decode cX2_readSetup 104 = .ok (.ifCond .ne 27, 3) := by decide +kernel
theorem dX2_readSetup_107 : decode cX2_readSetup 107 = .ok (.aload_n 0, 1) := by decide +kernel
theorem dX2_readSetup_108 : decode cX2_readSetup 108 = .ok (.getfield 12, 3) := by decide +kernel
theorem dX2_readSetup_111 : decode cX2_readSetup 111 = .ok (.ldc 83, 2) := by decide +kernel
theorem dX2_readSetup_113 : decode cX2_readSetup 113 = .ok (.invokevirtual 79, 3) := by decide +kernel
theorem dX2_readSetup_116 : decode cX2_readSetup 116 = .ok (.ifCond .ne 15, 3) := by decide +kernel
theorem dX2_readSetup_119 : decode cX2_readSetup 119 = .ok (.aload_n 0, 1) := by decide +kernel
theorem dX2_readSetup_120 : decode cX2_readSetup 120 = .ok (.getfield 12, 3) := by decide +kernel
theorem dX2_readSetup_123 : decode cX2_readSetup 123 = .ok (.ldc 85, 2) := by decide +kernel
theorem dX2_readSetup_125 : decode cX2_readSetup 125 = .ok (.invokevirtual 79, 3) := by decide +kernel
theorem dX2_readSetup_128 : decode cX2_readSetup 128 = .ok (.ifCond .eq 7, 3) := by decide +kernel
theorem dX2_readSetup_131 : decode cX2_readSetup 131 = .ok (.iconst 1, 1) := by decide +kernel
theorem dX2_readSetup_132 : decode cX2_readSetup 132 = .ok (.goto 4, 3) := by decide +kernel
theorem dX2_readSetup_135 : decode cX2_readSetup 135 = .ok (.iconst 0, 1) := by decide +kernel
theorem dX2_readSetup_136 : decode cX2_readSetup 136 = .ok (.istore_n 2, 1) := by decide +kernel
theorem dX2_readSetup_137 : decode cX2_readSetup 137 = .ok (.iload_n 2, 1) := by decide +kernel
theorem dX2_readSetup_138 : decode cX2_readSetup 138 = .ok (.ifCond .eq 17, 3) := by decide +kernel
theorem dX2_readSetup_141 : decode cX2_readSetup 141 = .ok (.aload_n 0, 1) := by decide +kernel
theorem dX2_readSetup_142 : decode cX2_readSetup 142 = .ok (.getfield 50, 3) := by decide +kernel
theorem dX2_readSetup_145 : decode cX2_readSetup 145 = .ok (.iconst 3, 1) := by decide +kernel
theorem dX2_readSetup_146 : decode cX2_readSetup 146 = .ok (.if_icmp .eq 9, 3) := by decide +kernel
theorem dX2_readSetup_149 : decode cX2_readSetup 149 = .ok (.aload_n 0, 1) := by decide +kernel
theorem dX2_readSetup_150 : decode cX2_readSetup 150 = .ok (.iconst 5, 1) := by decide +kernel
theorem dX2_readSetup_151 : decode cX2_readSetup 151 = .ok (.invokevirtual 67, 3) := by decide +kernel
theorem dX2_readSetup_154 : decode cX2_readSetup 154 = .ok (.ireturn, 1) := by decide +kernel
theorem dX2_readSetup_155 : decode cX2_readSetup 155 = .ok (.iload_n 2, 1) := by decide +kernel
theorem dX2_readSetup_156 : decode cX2_readSetup 156 = .ok (.ifCond .ne 11, 3) := by decide +kernel
theorem dX2_readSetup_159 : decode cX2_readSetup 159 = .ok (.aload_n 0, 1) := by decide +kernel
theorem dX2_readSetup_160 : decode cX2_readSetup 160 = .ok (.iconst 1, 1) := by decide +kernel
theorem dX2_readSetup_161 : decode cX2_readSetup 161 = .ok (.invokevirtual 67, 3) := by decide +kernel
theorem dX2_readSetup_164 : decode cX2_readSetup 164 = .ok (.ifCond .eq 7, 3) := by decide +kernel
theorem dX2_readSetup_167 : decode cX2_readSetup 167 = .ok (.iconst 1, 1) := by decide +kernel
theorem dX2_readSetup_168 : decode cX2_readSetup 168 = .ok (.goto 4, 3) := by decide +kernel
theorem dX2_readSetup_171 : decode cX2_readSetup 171 = .ok (.iconst 0, 1) := by decide +kernel
theorem dX2_readSetup_172 : decode cX2_readSetup 172 = .ok (.ireturn, 1) := by decide +kernel
theorem dX2_readCommand_0 : decode cX2_readCommand 0 = .ok (.aload_n 0, 1) := by decide +kernel
theorem dX2_readCommand_1 : decode cX2_readCommand 1 = .ok (.getfield 12, 3) := by decide +kernel
theorem dX2_readCommand_4 : decode cX2_readCommand 4 = .ok (.ldc 77, 2) := by decide +kernel
theorem dX2_readCommand_6 : decode cX2_readCommand 6 = .ok (.invokevirtual 79, 3) := by decide +kernel
theorem dX2_readCommand_9 : decode cX2_readCommand 9 = .ok (.ifCond .eq 17, 3) := by decide +kernel
theorem dX2_readCommand_12 : decode cX2_readCommand 12 = .ok (.aload_n 0, 1) := by decide +kernel
theorem dX2_readCommand_13 : decode cX2_readCommand 13 = .ok (.iconst 0, 1) := by decide +kernel
theorem dX2_readCommand_14 : decode cX2_readCommand 14 = .ok (.putfield 31, 3) := by decide +kernel
theorem dX2_readCommand_17 : decode cX2_readCommand 17 = .ok (.aload_n 0, 1) := by decide +kernel
theorem dX2_readCommand_18 : decode cX2_readCommand 18 = .ok (.aload_n 1, 1) := by decide +kernel
theorem dX2_readCommand_19 : decode cX2_readCommand 19 = .ok (.getfield 87, 3) := by decide +kernel
theorem dX2_readCommand_22 : decode cX2_readCommand 22 = .ok (.invokevirtual 93, 3) := by decide +kernel
theorem dX2_readCommand_25 : decode cX2_readCommand 25 = .ok (.ireturn, 1) := by decide +kernel
theorem dX2_readCommand_26 : decode cX2_readCommand 26 = .ok (.aload_n 0, 1) := by decide +kernel
theorem dX2_readCommand_27 : decode cX2_readCommand 27 = .ok (.getfield 12, 3) := by decide +kernel
theorem dX2_readCommand_30 : decode cX2_readCommand 30 = .ok (.ldc 83, 2) := by decide +kernel
theorem dX2_readCommand_32 : decode cX2_readCommand 32 = .ok (.invokevirtual 79, 3) := by decide +kernel
theorem dX2_readCommand_35 : decode cX2_readCommand 35 = .ok (.ifCond .eq 36, 3) := by decide +kernel
theorem dX2_readCommand_38 : decode cX2_readCommand 38 = .ok (.aload_n 0, 1) := by decide +kernel
theorem dX2_readCommand_39 : decode cX2_readCommand 39 = .ok (.iconst 1, 1) := by decide +kernel
theorem dX2_readCommand_40 : decode cX2_readCommand 40 = .ok (.putfield 31, 3) := by decide +kernel
theorem dX2_readCommand_43 : decode cX2_readCommand 43 = .ok (.aload_n 0, 1) := by decide +kernel
theorem dX2_readCommand_44 : decode cX2_readCommand 44 = .ok (.getfield 12, 3) := by decide +kernel
theorem dX2_readCommand_47 : decode cX2_readCommand 47 = .ok (.invokevirtual 96, 3) := by decide +kernel
theorem dX2_readCommand_50 : decode cX2_readCommand 50 = .ok (.aload_n 0, 1) := by decide +kernel
theorem dX2_readCommand_51 : decode cX2_readCommand 51 = .ok (.aload_n 1, 1) := by decide +kernel
theorem dX2_readCommand_52 : decode cX2_readCommand 52 = .ok (.invokevirtual 99, 3) := by decide +kernel
theorem dX2_readCommand_55 : decode cX2_readCommand 55 = .ok (.ifCond .eq 14, 3) := by decide +kernel
theorem dX2_readCommand_58 : decode cX2_readCommand 58 = .ok (.aload_n 0, 1) := by decide +kernel
theorem dX2_readCommand_59 : decode cX2_readCommand 59 = .ok (.invokevirtual 103, 3) := by decide +kernel
theorem dX2_readCommand_62 : decode cX2_readCommand 62 = .ok (.ifCond .eq 7, 3) := by decide +kernel
theorem dX2_readCommand_65 : decode cX2_readCommand 65 = .ok (.iconst 1, 1) := by decide +kernel
theorem dX2_readCommand_66 : decode cX2_readCommand 66 = .ok (.goto 4, 3) := by decide +kernel
theorem dX2_readCommand_69 : decode cX2_readCommand 69 = .ok (.iconst 0, 1) := by decide +kernel
theorem dX2_readCommand_70 : decode cX2_readCommand 70 = .ok (.ireturn, 1) := by decide +kernel
theorem dX2_readCommand_71 : decode cX2_readCommand 71 = .ok (.aload_n 0, 1) := by decide +kernel
theorem dX2_readCommand_72 : decode cX2_readCommand 72 = .ok (.getfield 12, 3) := by decide +kernel
theorem dX2_readCommand_75 : decode cX2_readCommand 75 = .ok (.ldc 85, 2) := by decide +kernel
theorem dX2_readCommand_77 : decode cX2_readCommand 77 = .ok (.invokevirtual 79, 3) := by decide +kernel
theorem dX2_readCommand_80 : decode cX2_readCommand 80 = .ok (.ifCond .eq 20, 3) := by decide +kernel
theorem dX2_readCommand_83 : decode cX2_readCommand 83 = .ok (.aload_n 0, 1) := by decide +kernel
theorem dX2_readCommand_84 : decode cX2_readCommand 84 = .ok (.iconst 2, 1) := by decide +kernel
theorem dX2_readCommand_85 : decode cX2_readCommand 85 = .ok (.putfield 31, 3) := by decide +kernel
theorem dX2_readCommand_88 : decode cX2_readCommand 88 = .ok (.aload_n 0, 1) := by decide +kernel
theorem dX2_readCommand_89 : decode cX2_readCommand 89 = .ok (.getfield 12, 3) := by decide +kernel
theorem dX2_readCommand_92 : decode cX2_readCommand 92 = .ok (.invokevirtual 96, 3) := by decide +kernel
theorem dX2_readCommand_95 : decode cX2_readCommand 95 = .ok (.aload_n 0, 1) := by decide +kernel
theorem dX2_readCommand_96 : decode cX2_readCommand 96 = .ok (.invokevirtual 103, 3) := by decide +kernel
theorem dX2_readCommand_99 : decode cX2_readCommand 99 = .ok (.ireturn, 1) := by decide +kernel
theorem dX2_readCommand_100 : decode cX2_readCommand 100 = .ok (.aload_n 0, 1) := by decide +kernel
theorem dX2_readCommand_101 : decode cX2_readCommand 101 = .ok (.iconst 1, 1) := by decide +kernel
theorem dX2_readCommand_102 : decode cX2_readCommand 102 = .ok (.invokevirtual 67, 3) := by decide +kernel
theorem dX2_readCommand_105 : decode cX2_readCommand 105 = .ok (.ireturn, 1) := by decide +kernel
theorem dX2_endCommand_0 : decode cX2_endCommand 0 = .ok (.iload_n 1, 1) := by decide +kernel
theorem dX2_endCommand_1 : decode cX2_endCommand 1 = .ok (.ifCond .ne 10, 3) := by decide +kernel
theorem dX2_endCommand_4 : decode cX2_endCommand 4 = .ok (.aload_n 0, 1) := by decide +kernel
theorem dX2_endCommand_5 : decode cX2_endCommand 5 = .ok (.bipush 6, 2) := by decide +kernel
theorem dX2_endCommand_7 : decode cX2_endCommand 7 = .ok (.invokevirtual 67, 3) := by decide +kernel
theorem dX2_endCommand_10 : decode cX2_endCommand 10 = .ok (.ireturn, 1) := by decide +kernel
theorem dX2_endCommand_11 : decode cX2_endCommand 11 = .ok (.aload_n 0, 1) := by decide +kernel
theorem dX2_endCommand_12 : decode cX2_endCommand 12 = .ok (.dup, 1) := by decide +kernel
theorem dX2_endCommand_13 : decode cX2_endCommand 13 = .ok (.getfield 28, 3) := by decide +kernel
theorem dX2_endCommand_16 : decode cX2_endCommand 16 = .ok (.iconst 1, 1) := by decide +kernel
theorem dX2_endCommand_17 : decode cX2_endCommand 17 = .ok (.iadd, 1) := by decide +kernel
theorem dX2_endCommand_18 : decode cX2_endCommand 18 = .ok (.putfield 28, 3) := by decide +kernel
theorem dX2_endCommand_21 : decode cX2_endCommand 21 = .ok (.aload_n 0, 1) := by decide +kernel
theorem dX2_endCommand_22 : decode cX2_endCommand 22 = .ok (.getfield 12, 3) := by decide +kernel
theorem dX2_endCommand_25 : decode cX2_endCommand 25 = .ok (.invokevirtual 96, 3) := by decide +kernel
theorem dX2_endCommand_28 : decode cX2_endCommand 28 = .ok (.iconst 1, 1) := by decide +kernel
theorem dX2_endCommand_29 : decode cX2_endCommand 29 = .ok (.ireturn, 1) := by decide +kernel
theorem dX2_readBoard_0 : decode cX2_readBoard 0 = .ok (.aload_n 0, 1) := by decide +kernel
theorem dX2_readBoard_1 : decode cX2_readBoard 1 = .ok (.getfield 12, 3) := by decide +kernel
theorem dX2_readBoard_4 : decode cX2_readBoard 4 = .ok (.ldc 106, 2) := by decide +kernel
theorem dX2_readBoard_6 : decode cX2_readBoard 6 = .ok (.invokevirtual 79, 3) := by decide +kernel
theorem dX2_readBoard_9 : decode cX2_readBoard 9 = .ok (.ifCond .ne 9, 3) := by decide +kernel
theorem dX2_readBoard_12 : decode cX2_readBoard 12 = .ok (.aload_n 0, 1) := by decide +kernel
theorem dX2_readBoard_13 : decode cX2_readBoard 13 = .ok (.iconst 1, 1) := by decide +kernel
theorem dX2_readBoard_14 : decode cX2_readBoard 14 = .ok (.invokevirtual 67, 3) := by decide +kernel
theorem dX2_readBoard_17 : decode cX2_readBoard 17 = .ok (.ireturn, 1) := by decide +kernel
theorem dX2_readBoard_18 : decode cX2_readBoard 18 = .ok (.aload_n 0, 1) := by decide +kernel
theorem dX2_readBoard_19 : decode cX2_readBoard 19 = .ok (.getfield 12, 3) := by decide +kernel
theorem dX2_readBoard_22 : decode cX2_readBoard 22 = .ok (.invokevirtual 96, 3) := by decide +kernel
theorem dX2_readBoard_25 : decode cX2_readBoard 25 = .ok (.aload_n 0, 1) := by decide +kernel
theorem dX2_readBoard_26 : decode cX2_readBoard 26 = .ok (.iconst 3, 1) := by decide +kernel
theorem dX2_readBoard_27 : decode cX2_readBoard 27 = .ok (.bipush 6, 2) := by decide +kernel
theorem dX2_readBoard_29 : decode cX2_readBoard 29 = .ok (.invokevirtual 107, 3) := by decide +kernel
theorem dX2_readBoard_32 : decode cX2_readBoard 32 = .ok (.istore_n 2, 1) := by decide +kernel
theorem dX2_readBoard_33 : decode cX2_readBoard 33 = .ok (.iload_n 2, 1) := by decide +kernel
theorem dX2_readBoard_34 : decode cX2_readBoard 34 = .ok (.iconst (-1), 1) := by decide +kernel
theorem dX2_readBoard_35 : decode cX2_readBoard 35 = .ok (.if_icmp .ne 5, 3) := by decide +kernel
theorem dX2_readBoard_38 : decode cX2_readBoard 38 = .ok (.iconst 0, 1) := by decide +kernel
theorem dX2_readBoard_39 : decode cX2_readBoard 39 = .ok (.ireturn, 1) := by decide +kernel
theorem dX2_readBoard_40 : decode cX2_readBoard 40 = .ok (.aload_n 0, 1) := by decide +kernel
theorem dX2_readBoard_41 : decode cX2_readBoard 41 = .ok (.iconst 3, 1) := by decide +kernel
theorem dX2_readBoard_42 : decode cX2_readBoard 42 = .ok (.bipush 6, 2) := by decide +kernel
theorem dX2_readBoard_44 : decode cX2_readBoard 44 = .ok (.invokevirtual 107, 3) := by decide +kernel
theorem dX2_readBoard_47 : decode cX2_readBoard 47 = .ok (.istore_n 3, 1) := by decide +kernel
theorem dX2_readBoard_48 : decode cX2_readBoard 48 = .ok (.iload_n 3, 1) := by decide +kernel
theorem dX2_readBoard_49 : decode cX2_readBoard 49 = .ok (.iconst (-1), 1) := by decide +kernel
theorem dX2_readBoard_50 : decode cX2_readBoard 50 = .ok (.if_icmp .eq 10, 3) := by decide +kernel
theorem dX2_readBoard_53 : decode cX2_readBoard 53 = .ok (.aload_n 0, 1) := by decide +kernel
theorem dX2_readBoard_54 : decode cX2_readBoard 54 = .ok (.invokevirtual 103, 3) := by decide +kernel
theorem dX2_readBoard_57 : decode cX2_readBoard 57 = .ok (.ifCond .ne 5, 3) := by decide +kernel
theorem dX2_readBoard_60 : decode cX2_readBoard 60 = .ok (.iconst 0, 1) := by decide +kernel
theorem dX2_readBoard_61 : decode cX2_readBoard 61 = .ok (.ireturn, 1) := by decide +kernel
theorem dX2_readBoard_62 : decode cX2_readBoard 62 = .ok (.aload_n 0, 1) := by decide +kernel
theorem dX2_readBoard_63 : decode cX2_readBoard 63 = .ok (.getfield 12, 3) := by decide +kernel
theorem dX2_readBoard_66 : decode cX2_readBoard 66 = .ok (.invokevirtual 96, 3) := by decide +kernel
theorem dX2_readBoard_69 : decode cX2_readBoard 69 = .ok (.aload_n 1, 1) := by decide +kernel
theorem dX2_readBoard_70 : decode cX2_readBoard 70 = .ok (.iload_n 2, 1) := by decide +kernel
theorem dX2_readBoard_71 : decode cX2_readBoard 71 = .ok (.iload_n 3, 1) := by decide +kernel
theorem dX2_readBoard_72 : decode cX2_readBoard 72 = .ok (.invokevirtual 111, 3) := by decide +kernel
theorem dX2_readBoard_75 : decode cX2_readBoard 75 = .ok (.iconst 1, 1) := by decide +kernel
theorem dX2_readBoard_76 : decode cX2_readBoard 76 = .ok (.ireturn, 1) := by decide +kernel
theorem dX2_isColour_0 : decode cX2_isColour 0 = .ok (.aload_n 0, 1) := by decide +kernel
theorem dX2_isColour_1 : decode cX2_isColour 1 = .ok (.getfield 12, 3) := by decide +kernel
theorem dX2_isColour_4 : decode cX2_isColour 4 = .ok (.ldc 117, 2) := by decide +kernel
theorem dX2_isColour_6 : decode cX2_isColour 6 = .ok (.invokevirtual 79, 3) := by decide +kernel
theorem dX2_isColour_9 : decode cX2_isColour 9 = .ok (.ifCond .ne 15, 3) := by decide +kernel
theorem dX2_isColour_12 : decode cX2_isColour 12 = .ok (.aload_n 0, 1) := by decide +kernel
theorem dX2_isColour_13 : decode cX2_isColour 13 = .ok (.getfield 12, 3) := by decide +kernel
theorem dX2_isColour_16 : decode cX2_isColour 16 = .ok (.ldc 119, 2) := by decide +kernel
theorem dX2_isColour_18 : decode cX2_isColour 18 = .ok (.invokevirtual 79, 3) := by decide +kernel
theorem dX2_isColour_21 : decode cX2_isColour 21 = .ok (.ifCond .eq 7, 3) := by decide +kernel
theorem dX2_isColour_24 : decode cX2_isColour 24 = .ok (.iconst 1, 1) := by decide +kernel
theorem dX2_isColour_25 : decode cX2_isColour 25 = .ok (.goto 4, 3) := by decide +kernel
theorem dX2_isColour_28 : decode cX2_isColour 28 = .ok (.iconst 0, 1) := by decide +kernel
theorem dX2_isColour_29 : decode cX2_isColour 29 = .ok (.ireturn, 1) := by decide +kernel
theorem dX2_readPiece_0 : decode cX2_readPiece 0 = .ok (.aload_n 0, 1) := by decide +kernel
theorem dX2_readPiece_1 : decode cX2_readPiece 1 = .ok (.getfield 12, 3) := by decide +kernel
theorem dX2_readPiece_4 : decode cX2_readPiece 4 = .ok (.ldc 117, 2) := by decide +kernel
theorem dX2_readPiece_6 : decode cX2_readPiece 6 = .ok (.invokevirtual 79, 3) := by decide +kernel
theorem dX2_readPiece_9 : decode cX2_readPiece 9 = .ok (.ifCond .eq 7, 3) := by decide +kernel
theorem dX2_readPiece_12 : decode cX2_readPiece 12 = .ok (.iconst 0, 1) := by decide +kernel
theorem dX2_readPiece_13 : decode cX2_readPiece 13 = .ok (.goto 4, 3) := by decide +kernel
theorem dX2_readPiece_16 : decode cX2_readPiece 16 = .ok (.iconst 1, 1) := by decide +kernel
theorem dX2_readPiece_17 : decode cX2_readPiece 17 = .ok (.istore_n 2, 1) := by decide +kernel
theorem dX2_readPiece_18 : decode cX2_readPiece 18 = .ok (.aload_n 0, 1) := by decide +kernel
theorem dX2_readPiece_19 : decode cX2_readPiece 19 = .ok (.getfield 12, 3) := by decide +kernel
theorem dX2_readPiece_22 : decode cX2_readPiece 22 = .ok (.invokevirtual 96, 3) := by decide +kernel
theorem dX2_readPiece_25 : decode cX2_readPiece 25 = .ok (.aload_n 0, 1) := by decide +kernel
theorem dX2_readPiece_26 : decode cX2_readPiece 26 = .ok (.invokevirtual 121, 3) := by decide +kernel
theorem dX2_readPiece_29 : decode cX2_readPiece 29 = .ok (.istore_n 3, 1) := by decide +kernel
theorem dX2_readPiece_30 : decode cX2_readPiece 30 = .ok (.iload_n 3, 1) := by decide +kernel
theorem dX2_readPiece_31 : decode cX2_readPiece 31 = .ok (.iconst (-1), 1) := by decide +kernel
theorem dX2_readPiece_32 : decode cX2_readPiece 32 = .ok (.if_icmp .ne 9, 3) := by decide +kernel
theorem dX2_readPiece_35 : decode cX2_readPiece 35 = .ok (.aload_n 0, 1) := by decide +kernel
theorem dX2_readPiece_36 : decode cX2_readPiece 36 = .ok (.iconst 1, 1) := by decide +kernel
theorem dX2_readPiece_37 : decode cX2_readPiece 37 = .ok (.invokevirtual 67, 3) := by decide +kernel
theorem dX2_readPiece_40 : decode cX2_readPiece 40 = .ok (.ireturn, 1) := by decide +kernel
theorem dX2_readPiece_41 : decode cX2_readPiece 41 = .ok (.iload_n 3, 1) := by decide +kernel
theorem dX2_readPiece_42 : decode cX2_readPiece 42 = .ok (.ifCond .ne 32, 3) := by decide +kernel
theorem dX2_readPiece_45 : decode cX2_readPiece 45 = .ok (.aload_n 0, 1) := by decide +kernel
theorem dX2_readPiece_46 : decode cX2_readPiece 46 = .ok (.getfield 50, 3) := by decide +kernel
theorem dX2_readPiece_49 : decode cX2_readPiece 49 = .ok (.iconst 1, 1) := by decide +kernel
theorem dX2_readPiece_50 : decode cX2_readPiece 50 = .ok (.iload_n 2, 1) := by decide +kernel
theorem dX2_readPiece_51 : decode cX2_readPiece 51 = .ok (.ishl, 1) := by decide +kernel
theorem dX2_readPiece_52 : decode cX2_readPiece 52 = .ok (.iand, 1) := by decide +kernel
theorem dX2_readPiece_53 : decode cX2_readPiece 53 = .ok (.ifCond .eq 9, 3) := by decide +kernel
theorem dX2_readPiece_56 : decode cX2_readPiece 56 = .ok (.aload_n 0, 1) := by decide +kernel
theorem dX2_readPiece_57 : decode cX2_readPiece 57 = .ok (.iconst 4, 1) := by decide +kernel
theorem dX2_readPiece_58 : decode cX2_readPiece 58 = .ok (.invokevirtual 67, 3) := by decide +kernel
theorem dX2_readPiece_61 : decode cX2_readPiece 61 = .ok (.ireturn, 1) := by decide +kernel
theorem dX2_readPiece_62 : decode cX2_readPiece 62 = .ok (.aload_n 0, 1) := by decide +kernel
theorem dX2_readPiece_63 : decode cX2_readPiece 63 = .ok (.dup, 1) := by decide +kernel
theorem dX2_readPiece_64 : decode cX2_readPiece 64 = .ok (.getfield 50, 3) := by decide +kernel
theorem dX2_readPiece_67 : decode cX2_readPiece 67 = .ok (.iconst 1, 1) := by decide +kernel
theorem dX2_readPiece_68 : decode cX2_readPiece 68 = .ok (.iload_n 2, 1) := by decide +kernel
theorem dX2_readPiece_69 : decode cX2_readPiece 69 = .ok (.ishl, 1) := by decide +kernel
theorem dX2_readPiece_70 : decode cX2_readPiece 70 = .ok (.ior, 1) := by decide +kernel
theorem dX2_readPiece_71 : decode cX2_readPiece 71 = .ok (.putfield 50, 3) := by decide +kernel
theorem dX2_readPiece_74 : decode cX2_readPiece 74 = .ok (.aload_n 0, 1) := by decide +kernel
theorem dX2_readPiece_75 : decode cX2_readPiece 75 = .ok (.getfield 12, 3) := by decide +kernel
theorem dX2_readPiece_78 : decode cX2_readPiece 78 = .ok (.invokevirtual 96, 3) := by decide +kernel
theorem dX2_readPiece_81 : decode cX2_readPiece 81 = .ok (.aload_n 0, 1) := by decide +kernel
theorem dX2_readPiece_82 : decode cX2_readPiece 82 = .ok (.iconst 0, 1) := by decide +kernel
theorem dX2_readPiece_83 : decode cX2_readPiece 83 = .ok (.aload_n 1, 1) := by decide +kernel
theorem dX2_readPiece_84 : decode cX2_readPiece 84 = .ok (.getfield 125, 3) := by decide +kernel
theorem dX2_readPiece_87 : decode cX2_readPiece 87 = .ok (.iconst 1, 1) := by decide +kernel
theorem dX2_readPiece_88 : decode cX2_readPiece 88 = .ok (.isub, 1) := by decide +kernel
theorem dX2_readPiece_89 : decode cX2_readPiece 89 = .ok (.invokevirtual 107, 3) := by decide +kernel
theorem dX2_readPiece_92 : decode cX2_readPiece 92 = .ok (.istore 4, 2) := by decide +kernel
theorem dX2_readPiece_94 : decode cX2_readPiece 94 = .ok (.iload 4, 2) := by decide +kernel
theorem dX2_readPiece_96 : decode cX2_readPiece 96 = .ok (.iconst (-1), 1) := by decide +kernel
theorem dX2_readPiece_97 : decode cX2_readPiece 97 = .ok (.if_icmp .ne 5, 3) := by decide +kernel
theorem dX2_readPiece_100 : decode cX2_readPiece 100 = .ok (.iconst 0, 1) := by decide +kernel
theorem dX2_readPiece_101 : decode cX2_readPiece 101 = .ok (.ireturn, 1) := by decide +kernel
theorem dX2_readPiece_102 : decode cX2_readPiece 102 = .ok (.aload_n 0, 1) := by decide +kernel
theorem dX2_readPiece_103 : decode cX2_readPiece 103 = .ok (.getfield 12, 3) := by decide +kernel
theorem dX2_readPiece_106 : decode cX2_readPiece 106 = .ok (.getfield 128, 3) := by decide +kernel
theorem dX2_readPiece_109 : decode cX2_readPiece 109 = .ok (.istore 5, 2) := by decide +kernel
theorem dX2_readPiece_111 : decode cX2_readPiece 111 = .ok (.aload_n 0, 1) := by decide +kernel
theorem dX2_readPiece_112 : decode cX2_readPiece 112 = .ok (.iconst 0, 1) := by decide +kernel
theorem dX2_readPiece_113 : decode cX2_readPiece 113 = .ok (.aload_n 1, 1) := by decide +kernel
theorem dX2_readPiece_114 : decode cX2_readPiece 114 = .ok (.getfield 131, 3) := by decide +kernel
theorem dX2_readPiece_117 : decode cX2_readPiece 117 = .ok (.iconst 1, 1) := by decide +kernel
theorem dX2_readPiece_118 : decode cX2_readPiece 118 = .ok (.isub, 1) := by decide +kernel
theorem dX2_readPiece_119 : decode cX2_readPiece 119 = .ok (.invokevirtual 107, 3) := by decide +kernel
theorem dX2_readPiece_122 : decode cX2_readPiece 122 = .ok (.istore 6, 2) := by decide +kernel
theorem dX2_readPiece_124 : decode cX2_readPiece 124 = .ok (.iload 6, 2) := by decide +kernel
theorem dX2_readPiece_126 : decode cX2_readPiece 126 = .ok (.iconst (-1), 1) := by decide +kernel
theorem dX2_readPiece_127 : decode cX2_readPiece 127 = .ok (.if_icmp .ne 5, 3) := by decide +kernel
theorem dX2_readPiece_130 : decode cX2_readPiece 130 = .ok (.iconst 0, 1) := by decide +kernel
theorem dX2_readPiece_131 : decode cX2_readPiece 131 = .ok (.ireturn, 1) := by decide +kernel
theorem dX2_readPiece_132 : decode cX2_readPiece 132 = .ok (.aload_n 1, 1) := by decide +kernel
theorem dX2_readPiece_133 : decode cX2_readPiece 133 = .ok (.iload 4, 2) := by decide +kernel
theorem dX2_readPiece_135 : decode cX2_readPiece 135 = .ok (.iload 6, 2) := by decide +kernel
theorem dX2_readPiece_137 : decode cX2_readPiece 137 = .ok (.invokevirtual 134, 3) := by decide +kernel
theorem dX2_readPiece_140 : decode cX2_readPiece 140 = .ok (.ifCond .eq 11, 3) := by decide +kernel
theorem dX2_readPiece_143 : decode cX2_readPiece 143 = .ok (.aload_n 0, 1) := by decide +kernel
theorem dX2_readPiece_144 : decode cX2_readPiece 144 = .ok (.iload 5, 2) := by decide +kernel
theorem dX2_readPiece_146 : decode cX2_readPiece 146 = .ok (.iconst 3, 1) := by decide +kernel
theorem dX2_readPiece_147 : decode cX2_readPiece 147 = .ok (.invokevirtual 137, 3) := by decide +kernel
theorem dX2_readPiece_150 : decode cX2_readPiece 150 = .ok (.ireturn, 1) := by decide +kernel
theorem dX2_readPiece_151 : decode cX2_readPiece 151 = .ok (.aload_n 1, 1) := by decide +kernel
theorem dX2_readPiece_152 : decode cX2_readPiece 152 = .ok (.iload 4, 2) := by decide +kernel
theorem dX2_readPiece_154 : decode cX2_readPiece 154 = .ok (.iload 6, 2) := by decide +kernel
theorem dX2_readPiece_156 : decode cX2_readPiece 156 = .ok (.iload_n 2, 1) := by decide +kernel
theorem dX2_readPiece_157 : decode cX2_readPiece 157 = .ok (.iload_n 3, 1) := by decide +kernel
theorem dX2_readPiece_158 : decode cX2_readPiece 158 = .ok (.invokestatic 141, 3) := by decide +kernel
theorem dX2_readPiece_161 : decode cX2_readPiece 161 = .ok (.invokevirtual 144, 3) := by decide +kernel
theorem dX2_readPiece_164 : decode cX2_readPiece 164 = .ok (.aload_n 0, 1) := by decide +kernel
theorem dX2_readPiece_165 : decode cX2_readPiece 165 = .ok (.invokevirtual 103, 3) := by decide +kernel
theorem dX2_readPiece_168 : decode cX2_readPiece 168 = .ok (.ifCond .ne 5, 3) := by decide +kernel
theorem dX2_readPiece_171 : decode cX2_readPiece 171 = .ok (.iconst 0, 1) := by decide +kernel
theorem dX2_readPiece_172 : decode cX2_readPiece 172 = .ok (.ireturn, 1) := by decide +kernel
theorem dX2_readPiece_173 : decode cX2_readPiece 173 = .ok (.aload_n 0, 1) := by decide +kernel
theorem dX2_readPiece_174 : decode cX2_readPiece 174 = .ok (.getfield 12, 3) := by decide +kernel
theorem dX2_readPiece_177 : decode cX2_readPiece 177 = .ok (.invokevirtual 96, 3) := by decide +kernel
theorem dX2_readPiece_180 : decode cX2_readPiece 180 = .ok (.iconst 1, 1) := by decide +kernel
theorem dX2_readPiece_181 : decode cX2_readPiece 181 = .ok (.ireturn, 1) := by decide +kernel
theorem dX2_kindHere_0 : decode cX2_kindHere 0 = .ok (.aload_n 0, 1) := by decide +kernel
theorem dX2_kindHere_1 : decode cX2_kindHere 1 = .ok (.getfield 12, 3) := by decide +kernel
theorem dX2_kindHere_4 : decode cX2_kindHere 4 = .ok (.ldc 148, 2) := by decide +kernel
theorem dX2_kindHere_6 : decode cX2_kindHere 6 = .ok (.invokevirtual 79, 3) := by decide +kernel
theorem dX2_kindHere_9 : decode cX2_kindHere 9 = .ok (.ifCond .eq 5, 3) := by decide +kernel
theorem dX2_kindHere_12 : decode cX2_kindHere 12 = .ok (.iconst 0, 1) := by decide +kernel
theorem dX2_kindHere_13 : decode cX2_kindHere 13 = .ok (.ireturn, 1) := by decide +kernel
theorem dX2_kindHere_14 : decode cX2_kindHere 14 = .ok (.aload_n 0, 1) := by decide +kernel
theorem dX2_kindHere_15 : decode cX2_kindHere 15 = .ok (.getfield 12, 3) := by decide +kernel
theorem dX2_kindHere_18 : decode cX2_kindHere 18 = .ok (.ldc 150, 2) := by decide +kernel
theorem dX2_kindHere_20 : decode cX2_kindHere 20 = .ok (.invokevirtual 79, 3) := by decide +kernel
theorem dX2_kindHere_23 : decode cX2_kindHere 23 = .ok (.ifCond .eq 5, 3) := by decide +kernel
theorem dX2_kindHere_26 : decode cX2_kindHere 26 = .ok (.iconst 1, 1) := by decide +kernel
theorem dX2_kindHere_27 : decode cX2_kindHere 27 = .ok (.ireturn, 1) := by decide +kernel
theorem dX2_kindHere_28 : decode cX2_kindHere 28 = .ok (.aload_n 0, 1) := by decide +kernel
theorem dX2_kindHere_29 : decode cX2_kindHere 29 = .ok (.getfield 12, 3) := by decide +kernel
theorem dX2_kindHere_32 : decode cX2_kindHere 32 = .ok (.ldc 152, 2) := by decide +kernel
theorem dX2_kindHere_34 : decode cX2_kindHere 34 = .ok (.invokevirtual 79, 3) := by decide +kernel
theorem dX2_kindHere_37 : decode cX2_kindHere 37 = .ok (.ifCond .eq 5, 3) := by decide +kernel
theorem dX2_kindHere_40 : decode cX2_kindHere 40 = .ok (.iconst 2, 1) := by decide +kernel
theorem dX2_kindHere_41 : decode cX2_kindHere 41 = .ok (.ireturn, 1) := by decide +kernel
theorem dX2_kindHere_42 : decode cX2_kindHere 42 = .ok (.aload_n 0, 1) := by decide +kernel
theorem dX2_kindHere_43 : decode cX2_kindHere 43 = .ok (.getfield 12, 3) := by decide +kernel
theorem dX2_kindHere_46 : decode cX2_kindHere 46 = .ok (.ldc 154, 2) := by decide +kernel
theorem dX2_kindHere_48 : decode cX2_kindHere 48 = .ok (.invokevirtual 79, 3) := by decide +kernel
theorem dX2_kindHere_51 : decode cX2_kindHere 51 = .ok (.ifCond .eq 5, 3) := by decide +kernel
theorem dX2_kindHere_54 : decode cX2_kindHere 54 = .ok (.iconst 3, 1) := by decide +kernel
theorem dX2_kindHere_55 : decode cX2_kindHere 55 = .ok (.ireturn, 1) := by decide +kernel
theorem dX2_kindHere_56 : decode cX2_kindHere 56 = .ok (.aload_n 0, 1) := by decide +kernel
theorem dX2_kindHere_57 : decode cX2_kindHere 57 = .ok (.getfield 12, 3) := by decide +kernel
theorem dX2_kindHere_60 : decode cX2_kindHere 60 = .ok (.ldc 156, 2) := by decide +kernel
theorem dX2_kindHere_62 : decode cX2_kindHere 62 = .ok (.invokevirtual 79, 3) := by decide +kernel
theorem dX2_kindHere_65 : decode cX2_kindHere 65 = .ok (.ifCond .eq 7, 3) := by decide +kernel
theorem dX2_kindHere_68 : decode cX2_kindHere 68 = .ok (.iconst 4, 1) := by decide +kernel
theorem dX2_kindHere_69 : decode cX2_kindHere 69 = .ok (.goto 4, 3) := by decide +kernel
theorem dX2_kindHere_72 : decode cX2_kindHere 72 = .ok (.iconst (-1), 1) := by decide +kernel
theorem dX2_kindHere_73 : decode cX2_kindHere 73 = .ok (.ireturn, 1) := by decide +kernel
theorem dX2_readNote_0 : decode cX2_readNote 0 = .ok (.aload_n 0, 1) := by decide +kernel
theorem dX2_readNote_1 : decode cX2_readNote 1 = .ok (.getfield 12, 3) := by decide +kernel
theorem dX2_readNote_4 : decode cX2_readNote 4 = .ok (.invokevirtual 96, 3) := by decide +kernel
theorem dX2_readNote_7 : decode cX2_readNote 7 = .ok (.aload_n 0, 1) := by decide +kernel
theorem dX2_readNote_8 : decode cX2_readNote 8 = .ok (.invokevirtual 121, 3) := by decide +kernel
theorem dX2_readNote_11 : decode cX2_readNote 11 = .ok (.istore_n 2, 1) := by decide +kernel
theorem dX2_readNote_12 : decode cX2_readNote 12 = .ok (.iload_n 2, 1) := by decide +kernel
theorem dX2_readNote_13 : decode cX2_readNote 13 = .ok (.iconst (-1), 1) := by decide +kernel
theorem dX2_readNote_14 : decode cX2_readNote 14 = .ok (.if_icmp .ne 21, 3) := by decide +kernel
theorem dX2_readNote_17 : decode cX2_readNote 17 = .ok (.aload_n 0, 1) := by decide +kernel
theorem dX2_readNote_18 : decode cX2_readNote 18 = .ok (.getfield 12, 3) := by decide +kernel
theorem dX2_readNote_21 : decode cX2_readNote 21 = .ok (.ldc 158, 2) := by decide +kernel
theorem dX2_readNote_23 : decode cX2_readNote 23 = .ok (.invokevirtual 79, 3) := by decide +kernel
theorem dX2_readNote_26 : decode cX2_readNote 26 = .ok (.ifCond .ne 9, 3) := by decide +kernel
theorem dX2_readNote_29 : decode cX2_readNote 29 = .ok (.aload_n 0, 1) := by decide +kernel
theorem dX2_readNote_30 : decode cX2_readNote 30 = .ok (.iconst 1, 1) := by decide +kernel
theorem dX2_readNote_31 : decode cX2_readNote 31 = .ok (.invokevirtual 67, 3) := by decide +kernel
theorem dX2_readNote_34 : decode cX2_readNote 34 = .ok (.ireturn, 1) := by decide +kernel
theorem dX2_readNote_35 : decode cX2_readNote 35 = .ok (.aload_n 0, 1) := by decide +kernel
theorem dX2_readNote_36 : decode cX2_readNote 36 = .ok (.getfield 12, 3) := by decide +kernel
theorem dX2_readNote_39 : decode cX2_readNote 39 = .ok (.invokevirtual 96, 3) := by decide +kernel
theorem dX2_readNote_42 : decode cX2_readNote 42 = .ok (.aload_n 0, 1) := by decide +kernel
theorem dX2_readNote_43 : decode cX2_readNote 43 = .ok (.getfield 37, 3) := by decide +kernel
theorem dX2_readNote_46 : decode cX2_readNote 46 = .ok (.iload_n 2, 1) := by decide +kernel
theorem dX2_readNote_47 : decode cX2_readNote 47 = .ok (.iconst (-1), 1) := by decide +kernel
theorem dX2_readNote_48 : decode cX2_readNote 48 = .ok (.iconst (-1), 1) := by decide +kernel
theorem dX2_readNote_49 : decode cX2_readNote 49 = .ok (.iconst (-1), 1) := by decide +kernel
theorem dX2_readNote_50 : decode cX2_readNote 50 = .ok (.iconst 0, 1) := by decide +kernel
theorem dX2_readNote_51 : decode cX2_readNote 51 = .ok (.iconst 0, 1) := by decide +kernel
theorem dX2_readNote_52 : decode cX2_readNote 52 = .ok (.invokevirtual 160, 3) := by decide +kernel
theorem dX2_readNote_55 : decode cX2_readNote 55 = .ok (.aload_n 0, 1) := by decide +kernel
theorem dX2_readNote_56 : decode cX2_readNote 56 = .ok (.ldc 164, 2) := by decide +kernel
theorem dX2_readNote_58 : decode cX2_readNote 58 = .ok (.invokevirtual 166, 3) := by decide +kernel
theorem dX2_readNote_61 : decode cX2_readNote 61 = .ok (.ifCond .eq 34, 3) := by decide +kernel
theorem dX2_readNote_64 : decode cX2_readNote 64 = .ok (.aload_n 0, 1) := by decide +kernel
theorem dX2_readNote_65 : decode cX2_readNote 65 = .ok (.getfield 37, 3) := by decide +kernel
theorem dX2_readNote_68 : decode cX2_readNote 68 = .ok (.aload_n 0, 1) := by decide +kernel
theorem dX2_readNote_69 : decode cX2_readNote 69 = .ok (.iconst 0, 1) := by decide +kernel
theorem dX2_readNote_70 : decode cX2_readNote 70 = .ok (.aload_n 1, 1) := by decide +kernel
theorem dX2_readNote_71 : decode cX2_readNote 71 = .ok (.getfield 125, 3) := by decide +kernel
theorem dX2_readNote_74 : decode cX2_readNote 74 = .ok (.iconst 1, 1) := by decide +kernel
theorem dX2_readNote_75 : decode cX2_readNote 75 = .ok (.isub, 1) := by decide +kernel
theorem dX2_readNote_76 : decode cX2_readNote 76 = .ok (.invokevirtual 107, 3) := by decide +kernel
theorem dX2_readNote_79 : decode cX2_readNote 79 = .ok (.putfield 169, 3) := by decide +kernel
theorem dX2_readNote_82 : decode cX2_readNote 82 = .ok (.aload_n 0, 1) := by decide +kernel
theorem dX2_readNote_83 : decode cX2_readNote 83 = .ok (.getfield 37, 3) := by decide +kernel
theorem dX2_readNote_86 : decode cX2_readNote 86 = .ok (.getfield 169, 3) := by decide +kernel
theorem dX2_readNote_89 : decode cX2_readNote 89 = .ok (.iconst (-1), 1) := by decide +kernel
theorem dX2_readNote_90 : decode cX2_readNote 90 = .ok (.if_icmp .ne 5, 3) := by decide +kernel
theorem dX2_readNote_93 : decode cX2_readNote 93 = .ok (.iconst 0, 1) := by decide +kernel
theorem dX2_readNote_94 : decode cX2_readNote 94 = .ok (.ireturn, 1) := by decide +kernel
theorem dX2_readNote_95 : decode cX2_readNote 95 = .ok (.aload_n 0, 1) := by decide +kernel
theorem dX2_readNote_96 : decode cX2_readNote 96 = .ok (.ldc 172, 2) := by decide +kernel
theorem dX2_readNote_98 : decode cX2_readNote 98 = .ok (.invokevirtual 166, 3) := by decide +kernel
theorem dX2_readNote_101 : decode cX2_readNote 101 = .ok (.ifCond .eq 65, 3) := by decide +kernel
theorem dX2_readNote_104 : decode cX2_readNote 104 = .ok (.aload_n 0, 1) := by decide +kernel
theorem dX2_readNote_105 : decode cX2_readNote 105 = .ok (.getfield 37, 3) := by decide +kernel
theorem dX2_readNote_108 : decode cX2_readNote 108 = .ok (.aload_n 0, 1) := by decide +kernel
theorem dX2_readNote_109 : decode cX2_readNote 109 = .ok (.iconst 0, 1) := by decide +kernel
theorem dX2_readNote_110 : decode cX2_readNote 110 = .ok (.aload_n 1, 1) := by decide +kernel
theorem dX2_readNote_111 : decode cX2_readNote 111 = .ok (.getfield 125, 3) := by decide +kernel
theorem dX2_readNote_114 : decode cX2_readNote 114 = .ok (.iconst 1, 1) := by decide +kernel
theorem dX2_readNote_115 : decode cX2_readNote 115 = .ok (.isub, 1) := by decide +kernel
theorem dX2_readNote_116 : decode cX2_readNote 116 = .ok (.invokevirtual 107, 3) := by decide +kernel
theorem dX2_readNote_119 : decode cX2_readNote 119 = .ok (.putfield 174, 3) := by decide +kernel
theorem dX2_readNote_122 : decode cX2_readNote 122 = .ok (.aload_n 0, 1) := by decide +kernel
theorem dX2_readNote_123 : decode cX2_readNote 123 = .ok (.getfield 37, 3) := by decide +kernel
theorem dX2_readNote_126 : decode cX2_readNote 126 = .ok (.getfield 174, 3) := by decide +kernel
theorem dX2_readNote_129 : decode cX2_readNote 129 = .ok (.iconst (-1), 1) := by decide +kernel
theorem dX2_readNote_130 : decode cX2_readNote 130 = .ok (.if_icmp .ne 5, 3) := by decide +kernel
theorem dX2_readNote_133 : decode cX2_readNote 133 = .ok (.iconst 0, 1) := by decide +kernel
theorem dX2_readNote_134 : decode cX2_readNote 134 = .ok (.ireturn, 1) := by decide +kernel
theorem dX2_readNote_135 : decode cX2_readNote 135 = .ok (.aload_n 0, 1) := by decide +kernel
theorem dX2_readNote_136 : decode cX2_readNote 136 = .ok (.getfield 37, 3) := by decide +kernel
theorem dX2_readNote_139 : decode cX2_readNote 139 = .ok (.aload_n 0, 1) := by decide +kernel
theorem dX2_readNote_140 : decode cX2_readNote 140 = .ok (.iconst 0, 1) := by decide +kernel
theorem dX2_readNote_141 : decode cX2_readNote 141 = .ok (.aload_n 1, 1) := by decide +kernel
theorem dX2_readNote_142 : decode cX2_readNote 142 = .ok (.getfield 131, 3) := by decide +kernel
theorem dX2_readNote_145 : decode cX2_readNote 145 = .ok (.iconst 1, 1) := by decide +kernel
theorem dX2_readNote_146 : decode cX2_readNote 146 = .ok (.isub, 1) := by decide +kernel
theorem dX2_readNote_147 : decode cX2_readNote 147 = .ok (.invokevirtual 107, 3) := by decide +kernel
theorem dX2_readNote_150 : decode cX2_readNote 150 = .ok (.putfield 177, 3) := by decide +kernel
theorem dX2_readNote_153 : decode cX2_readNote 153 = .ok (.aload_n 0, 1) := by decide +kernel
theorem dX2_readNote_154 : decode cX2_readNote 154 = .ok (.getfield 37, 3) := by decide +kernel
theorem dX2_readNote_157 : decode cX2_readNote 157 = .ok (.getfield 177, 3) := by decide +kernel
theorem dX2_readNote_160 : decode cX2_readNote 160 = .ok (.iconst (-1), 1) := by decide +kernel
theorem dX2_readNote_161 : decode cX2_readNote 161 = .ok (.if_icmp .ne 5, 3) := by decide +kernel
theorem dX2_readNote_164 : decode cX2_readNote 164 = .ok (.iconst 0, 1) := by decide +kernel
theorem dX2_readNote_165 : decode cX2_readNote 165 = .ok (.ireturn, 1) := by decide +kernel
theorem dX2_readNote_166 : decode cX2_readNote 166 = .ok (.aload_n 0, 1) := by decide +kernel
theorem dX2_readNote_167 : decode cX2_readNote 167 = .ok (.getfield 37, 3) := by decide +kernel
theorem dX2_readNote_170 : decode cX2_readNote 170 = .ok (.aload_n 0, 1) := by decide +kernel
theorem dX2_readNote_171 : decode cX2_readNote 171 = .ok (.ldc 180, 2) := by decide +kernel
theorem dX2_readNote_173 : decode cX2_readNote 173 = .ok (.invokevirtual 166, 3) := by decide +kernel
theorem dX2_readNote_176 : decode cX2_readNote 176 = .ok (.putfield 182, 3) := by decide +kernel
theorem dX2_readNote_179 : decode cX2_readNote 179 = .ok (.aload_n 0, 1) := by decide +kernel
theorem dX2_readNote_180 : decode cX2_readNote 180 = .ok (.getfield 37, 3) := by decide +kernel
theorem dX2_readNote_183 : decode cX2_readNote 183 = .ok (.aload_n 0, 1) := by decide +kernel
theorem dX2_readNote_184 : decode cX2_readNote 184 = .ok (.ldc 185, 2) := by decide +kernel
theorem dX2_readNote_186 : decode cX2_readNote 186 = .ok (.invokevirtual 166, 3) := by decide +kernel
theorem dX2_readNote_189 : decode cX2_readNote 189 = .ok (.putfield 187, 3) := by decide +kernel
theorem dX2_readNote_192 : decode cX2_readNote 192 = .ok (.aload_n 0, 1) := by decide +kernel
theorem dX2_readNote_193 : decode cX2_readNote 193 = .ok (.invokevirtual 103, 3) := by decide +kernel
theorem dX2_readNote_196 : decode cX2_readNote 196 = .ok (.ireturn, 1) := by decide +kernel
theorem dX2_readOrigin_0 : decode cX2_readOrigin 0 = .ok (.aload_n 0, 1) := by decide +kernel
theorem dX2_readOrigin_1 : decode cX2_readOrigin 1 = .ok (.aload_n 0, 1) := by decide +kernel
theorem dX2_readOrigin_2 : decode cX2_readOrigin 2 = .ok (.iconst 0, 1) := by decide +kernel
theorem dX2_readOrigin_3 : decode cX2_readOrigin 3 = .ok (.aload_n 1, 1) := by decide +kernel
theorem dX2_readOrigin_4 : decode cX2_readOrigin 4 = .ok (.getfield 189, 3) := by decide +kernel
theorem dX2_readOrigin_7 : decode cX2_readOrigin 7 = .ok (.iconst 1, 1) := by decide +kernel
theorem dX2_readOrigin_8 : decode cX2_readOrigin 8 = .ok (.isub, 1) := by decide +kernel
theorem dX2_readOrigin_9 : decode cX2_readOrigin 9 = .ok (.invokevirtual 107, 3) := by decide +kernel
theorem dX2_readOrigin_12 : decode cX2_readOrigin 12 = .ok (.putfield 41, 3) := by decide +kernel
theorem dX2_readOrigin_15 : decode cX2_readOrigin 15 = .ok (.aload_n 0, 1) := by decide +kernel
theorem dX2_readOrigin_16 : decode cX2_readOrigin 16 = .ok (.getfield 41, 3) := by decide +kernel
theorem dX2_readOrigin_19 : decode cX2_readOrigin 19 = .ok (.iconst (-1), 1) := by decide +kernel
theorem dX2_readOrigin_20 : decode cX2_readOrigin 20 = .ok (.if_icmp .ne 5, 3) := by decide +kernel
theorem dX2_readOrigin_23 : decode cX2_readOrigin 23 = .ok (.iconst 0, 1) := by decide +kernel
theorem dX2_readOrigin_24 : decode cX2_readOrigin 24 = .ok (.ireturn, 1) := by decide +kernel
theorem dX2_readOrigin_25 : decode cX2_readOrigin 25 = .ok (.aload_n 0, 1) := by decide +kernel
theorem dX2_readOrigin_26 : decode cX2_readOrigin 26 = .ok (.aload_n 0, 1) := by decide +kernel
theorem dX2_readOrigin_27 : decode cX2_readOrigin 27 = .ok (.iconst 0, 1) := by decide +kernel
theorem dX2_readOrigin_28 : decode cX2_readOrigin 28 = .ok (.aload_n 1, 1) := by decide +kernel
theorem dX2_readOrigin_29 : decode cX2_readOrigin 29 = .ok (.getfield 87, 3) := by decide +kernel
theorem dX2_readOrigin_32 : decode cX2_readOrigin 32 = .ok (.getfield 125, 3) := by decide +kernel
theorem dX2_readOrigin_35 : decode cX2_readOrigin 35 = .ok (.iconst 1, 1) := by decide +kernel
theorem dX2_readOrigin_36 : decode cX2_readOrigin 36 = .ok (.isub, 1) := by decide +kernel
theorem dX2_readOrigin_37 : decode cX2_readOrigin 37 = .ok (.invokevirtual 107, 3) := by decide +kernel
theorem dX2_readOrigin_40 : decode cX2_readOrigin 40 = .ok (.putfield 44, 3) := by decide +kernel
theorem dX2_readOrigin_43 : decode cX2_readOrigin 43 = .ok (.aload_n 0, 1) := by decide +kernel
theorem dX2_readOrigin_44 : decode cX2_readOrigin 44 = .ok (.getfield 44, 3) := by decide +kernel
theorem dX2_readOrigin_47 : decode cX2_readOrigin 47 = .ok (.iconst (-1), 1) := by decide +kernel
theorem dX2_readOrigin_48 : decode cX2_readOrigin 48 = .ok (.if_icmp .ne 5, 3) := by decide +kernel
theorem dX2_readOrigin_51 : decode cX2_readOrigin 51 = .ok (.iconst 0, 1) := by decide +kernel
theorem dX2_readOrigin_52 : decode cX2_readOrigin 52 = .ok (.ireturn, 1) := by decide +kernel
theorem dX2_readOrigin_53 : decode cX2_readOrigin 53 = .ok (.aload_n 0, 1) := by decide +kernel
theorem dX2_readOrigin_54 : decode cX2_readOrigin 54 = .ok (.aload_n 0, 1) := by decide +kernel
theorem dX2_readOrigin_55 : decode cX2_readOrigin 55 = .ok (.iconst 0, 1) := by decide +kernel
theorem dX2_readOrigin_56 : decode cX2_readOrigin 56 = .ok (.aload_n 1, 1) := by decide +kernel
theorem dX2_readOrigin_57 : decode cX2_readOrigin 57 = .ok (.getfield 87, 3) := by decide +kernel
theorem dX2_readOrigin_60 : decode cX2_readOrigin 60 = .ok (.getfield 131, 3) := by decide +kernel
theorem dX2_readOrigin_63 : decode cX2_readOrigin 63 = .ok (.iconst 1, 1) := by decide +kernel
theorem dX2_readOrigin_64 : decode cX2_readOrigin 64 = .ok (.isub, 1) := by decide +kernel
theorem dX2_readOrigin_65 : decode cX2_readOrigin 65 = .ok (.invokevirtual 107, 3) := by decide +kernel
theorem dX2_readOrigin_68 : decode cX2_readOrigin 68 = .ok (.putfield 47, 3) := by decide +kernel
theorem dX2_readOrigin_71 : decode cX2_readOrigin 71 = .ok (.aload_n 0, 1) := by decide +kernel
theorem dX2_readOrigin_72 : decode cX2_readOrigin 72 = .ok (.getfield 47, 3) := by decide +kernel
theorem dX2_readOrigin_75 : decode cX2_readOrigin 75 = .ok (.iconst (-1), 1) := by decide +kernel
theorem dX2_readOrigin_76 : decode cX2_readOrigin 76 = .ok (.if_icmp .eq 7, 3) := by decide +kernel
theorem dX2_readOrigin_79 : decode cX2_readOrigin 79 = .ok (.iconst 1, 1) := by decide +kernel
theorem dX2_readOrigin_80 : decode cX2_readOrigin 80 = .ok (.goto 4, 3) := by decide +kernel
theorem dX2_readOrigin_83 : decode cX2_readOrigin 83 = .ok (.iconst 0, 1) := by decide +kernel
theorem dX2_readOrigin_84 : decode cX2_readOrigin 84 = .ok (.ireturn, 1) := by decide +kernel
theorem dX2_isPassed_0 : decode cX2_isPassed 0 = .ok (.aload_n 0, 1) := by decide +kernel
theorem dX2_isPassed_1 : decode cX2_isPassed 1 = .ok (.getfield 12, 3) := by decide +kernel
theorem dX2_isPassed_4 : decode cX2_isPassed 4 = .ok (.aload_n 1, 1) := by decide +kernel
theorem dX2_isPassed_5 : decode cX2_isPassed 5 = .ok (.invokevirtual 79, 3) := by decide +kernel
theorem dX2_isPassed_8 : decode cX2_isPassed 8 = .ok (.ifCond .ne 5, 3) := by decide +kernel
theorem dX2_isPassed_11 : decode cX2_isPassed 11 = .ok (.iconst 0, 1) := by decide +kernel
theorem dX2_isPassed_12 : decode cX2_isPassed 12 = .ok (.ireturn, 1) := by decide +kernel
theorem dX2_isPassed_13 : decode cX2_isPassed 13 = .ok (.aload_n 0, 1) := by decide +kernel
theorem dX2_isPassed_14 : decode cX2_isPassed 14 = .ok (.getfield 12, 3) := by decide +kernel
theorem dX2_isPassed_17 : decode cX2_isPassed 17 = .ok (.invokevirtual 96, 3) := by decide +kernel
theorem dX2_isPassed_20 : decode cX2_isPassed 20 = .ok (.iconst 1, 1) := by decide +kernel
theorem dX2_isPassed_21 : decode cX2_isPassed 21 = .ok (.ireturn, 1) := by decide +kernel
theorem dX2_readNumber_0 : decode cX2_readNumber 0 = .ok (.aload_n 0, 1) := by decide +kernel
theorem dX2_readNumber_1 : decode cX2_readNumber 1 = .ok (.getfield 12, 3) := by decide +kernel
theorem dX2_readNumber_4 : decode cX2_readNumber 4 = .ok (.getfield 56, 3) := by decide +kernel
theorem dX2_readNumber_7 : decode cX2_readNumber 7 = .ok (.iconst 3, 1) := by decide +kernel
theorem dX2_readNumber_8 : decode cX2_readNumber 8 = .ok (.if_icmp .eq 11, 3) := by decide +kernel
theorem dX2_readNumber_11 : decode cX2_readNumber 11 = .ok (.aload_n 0, 1) := by decide +kernel
theorem dX2_readNumber_12 : decode cX2_readNumber 12 = .ok (.iconst 1, 1) := by decide +kernel
theorem dX2_readNumber_13 : decode cX2_readNumber 13 = .ok (.invokevirtual 67, 3) := by decide +kernel
theorem dX2_readNumber_16 : decode cX2_readNumber 16 = .ok (.pop, 1) := by decide +kernel
theorem dX2_readNumber_17 : decode cX2_readNumber 17 = .ok (.iconst (-1), 1) := by decide +kernel
theorem dX2_readNumber_18 : decode cX2_readNumber 18 = .ok (.ireturn, 1) := by decide +kernel
theorem dX2_readNumber_19 : decode cX2_readNumber 19 = .ok (.aload_n 0, 1) := by decide +kernel
theorem dX2_readNumber_20 : decode cX2_readNumber 20 = .ok (.getfield 12, 3) := by decide +kernel
theorem dX2_readNumber_23 : decode cX2_readNumber 23 = .ok (.getfield 192, 3) := by decide +kernel
theorem dX2_readNumber_26 : decode cX2_readNumber 26 = .ok (.iload_n 1, 1) := by decide +kernel
theorem dX2_readNumber_27 : decode cX2_readNumber 27 = .ok (.if_icmp .lt 14, 3) := by decide +kernel
theorem dX2_readNumber_30 : decode cX2_readNumber 30 = .ok (.aload_n 0, 1) := by decide +kernel
theorem dX2_readNumber_31 : decode cX2_readNumber 31 = .ok (.getfield 12, 3) := by decide +kernel
theorem dX2_readNumber_34 : decode cX2_readNumber 34 = .ok (.getfield 192, 3) := by decide +kernel
theorem dX2_readNumber_37 : decode cX2_readNumber 37 = .ok (.iload_n 2, 1) := by decide +kernel
theorem dX2_readNumber_38 : decode cX2_readNumber 38 = .ok (.if_icmp .le 11, 3) := by decide +kernel
theorem dX2_readNumber_41 : decode cX2_readNumber 41 = .ok (.aload_n 0, 1) := by decide +kernel
theorem dX2_readNumber_42 : decode cX2_readNumber 42 = .ok (.iconst 2, 1) := by decide +kernel
theorem dX2_readNumber_43 : decode cX2_readNumber 43 = .ok (.invokevirtual 67, 3) := by decide +kernel
theorem dX2_readNumber_46 : decode cX2_readNumber 46 = .ok (.pop, 1) := by decide +kernel
theorem dX2_readNumber_47 : decode cX2_readNumber 47 = .ok (.iconst (-1), 1) := by decide +kernel
theorem dX2_readNumber_48 : decode cX2_readNumber 48 = .ok (.ireturn, 1) := by decide +kernel
theorem dX2_readNumber_49 : decode cX2_readNumber 49 = .ok (.aload_n 0, 1) := by decide +kernel
theorem dX2_readNumber_50 : decode cX2_readNumber 50 = .ok (.getfield 12, 3) := by decide +kernel
theorem dX2_readNumber_53 : decode cX2_readNumber 53 = .ok (.getfield 192, 3) := by decide +kernel
theorem dX2_readNumber_56 : decode cX2_readNumber 56 = .ok (.istore_n 3, 1) := by decide +kernel
theorem dX2_readNumber_57 : decode cX2_readNumber 57 = .ok (.aload_n 0, 1) := by decide +kernel
theorem dX2_readNumber_58 : decode cX2_readNumber 58 = .ok (.getfield 12, 3) := by decide +kernel
theorem dX2_readNumber_61 : decode cX2_readNumber 61 = .ok (.invokevirtual 96, 3) := by decide +kernel
theorem dX2_readNumber_64 : decode cX2_readNumber 64 = .ok (.iload_n 3, 1) := by decide +kernel
theorem dX2_readNumber_65 : decode cX2_readNumber 65 = .ok (.ireturn, 1) := by decide +kernel
theorem dX2_isSemicolon_0 : decode cX2_isSemicolon 0 = .ok (.aload_n 0, 1) := by decide +kernel
theorem dX2_isSemicolon_1 : decode cX2_isSemicolon 1 = .ok (.getfield 12, 3) := by decide +kernel
theorem dX2_isSemicolon_4 : decode cX2_isSemicolon 4 = .ok (.getfield 56, 3) := by decide +kernel
theorem dX2_isSemicolon_7 : decode cX2_isSemicolon 7 = .ok (.iconst 4, 1) := by decide +kernel
theorem dX2_isSemicolon_8 : decode cX2_isSemicolon 8 = .ok (.if_icmp .eq 11, 3) := by decide +kernel
theorem dX2_isSemicolon_11 : decode cX2_isSemicolon 11 = .ok (.aload_n 0, 1) := by decide +kernel
theorem dX2_isSemicolon_12 : decode cX2_isSemicolon 12 = .ok (.iconst 1, 1) := by decide +kernel
theorem dX2_isSemicolon_13 : decode cX2_isSemicolon 13 = .ok (.invokevirtual 67, 3) := by decide +kernel
theorem dX2_isSemicolon_16 : decode cX2_isSemicolon 16 = .ok (.ifCond .eq 7, 3) := by decide +kernel
theorem dX2_isSemicolon_19 : decode cX2_isSemicolon 19 = .ok (.iconst 1, 1) := by decide +kernel
theorem dX2_isSemicolon_20 : decode cX2_isSemicolon 20 = .ok (.goto 4, 3) := by decide +kernel
theorem dX2_isSemicolon_23 : decode cX2_isSemicolon 23 = .ok (.iconst 0, 1) := by decide +kernel
theorem dX2_isSemicolon_24 : decode cX2_isSemicolon 24 = .ok (.ireturn, 1) := by decide +kernel
theorem dX2_reject_0 : decode cX2_reject 0 = .ok (.aload_n 0, 1) := by decide +kernel
theorem dX2_reject_1 : decode cX2_reject 1 = .ok (.aload_n 0, 1) := by decide +kernel
theorem dX2_reject_2 : decode cX2_reject 2 = .ok (.getfield 12, 3) := by decide +kernel
theorem dX2_reject_5 : decode cX2_reject 5 = .ok (.getfield 128, 3) := by decide +kernel
theorem dX2_reject_8 : decode cX2_reject 8 = .ok (.iload_n 1, 1) := by decide +kernel
theorem dX2_reject_9 : decode cX2_reject 9 = .ok (.invokevirtual 137, 3) := by decide +kernel
theorem dX2_reject_12 : decode cX2_reject 12 = .ok (.ireturn, 1) := by decide +kernel
theorem dX2_rejectAt_0 : decode cX2_rejectAt 0 = .ok (.aload_n 0, 1) := by decide +kernel
theorem dX2_rejectAt_1 : decode cX2_rejectAt 1 = .ok (.iload_n 2, 1) := by decide +kernel
theorem dX2_rejectAt_2 : decode cX2_rejectAt 2 = .ok (.putfield 18, 3) := by decide +kernel
theorem dX2_rejectAt_5 : decode cX2_rejectAt 5 = .ok (.aload_n 0, 1) := by decide +kernel
theorem dX2_rejectAt_6 : decode cX2_rejectAt 6 = .ok (.iload_n 1, 1) := by decide +kernel
theorem dX2_rejectAt_7 : decode cX2_rejectAt 7 = .ok (.putfield 22, 3) := by decide +kernel
theorem dX2_rejectAt_10 : decode cX2_rejectAt 10 = .ok (.iconst 0, 1) := by decide +kernel
theorem dX2_rejectAt_11 : decode cX2_rejectAt 11 = .ok (.ireturn, 1) := by decide +kernel
theorem dX3_init_0 : decode cX3_init 0 = .ok (.aload_n 0, 1) := by decide +kernel
theorem dX3_init_1 : decode cX3_init 1 = .ok (.invokespecial 3, 3) := by decide +kernel
theorem dX3_init_4 : decode cX3_init 4 = .ok (.aload_n 0, 1) := by decide +kernel
theorem dX3_init_5 : decode cX3_init 5 = .ok (.new 9, 3) := by decide +kernel
theorem dX3_init_8 : decode cX3_init 8 = .ok (.dup, 1) := by decide +kernel
theorem dX3_init_9 : decode cX3_init 9 = .ok (.invokespecial 11, 3) := by decide +kernel
theorem dX3_init_12 : decode cX3_init 12 = .ok (.putfield 12, 3) := by decide +kernel
theorem dX3_init_15 : decode cX3_init 15 = .ok (.aload_n 0, 1) := by decide +kernel
theorem dX3_init_16 : decode cX3_init 16 = .ok (.iconst 0, 1) := by decide +kernel
theorem dX3_init_17 : decode cX3_init 17 = .ok (.putfield 18, 3) := by decide +kernel
theorem dX3_init_20 : decode cX3_init 20 = .ok (.aload_n 0, 1) := by decide +kernel
theorem dX3_init_21 : decode cX3_init 21 = .ok (.bipush 10, 2) := by decide +kernel
theorem dX3_init_23 : decode cX3_init 23 = .ok (.anewarray 22, 3) := by decide +kernel
theorem dX3_init_26 : decode cX3_init 26 = .ok (.putfield 24, 3) := by decide +kernel
theorem dX3_init_29 : decode cX3_init 29 = .ok (.aload_n 0, 1) := by decide +kernel
theorem dX3_init_30 : decode cX3_init 30 = .ok (.bipush 11, 2) := by decide +kernel
theorem dX3_init_32 : decode cX3_init 32 = .ok (.newarray .int, 2) := by decide +kernel
theorem dX3_init_34 : decode cX3_init 34 = .ok (.putfield 28, 3) := by decide +kernel
theorem dX3_init_37 : decode cX3_init 37 = .ok (.aload_n 0, 1) := by decide +kernel
theorem dX3_init_38 : decode cX3_init 38 = .ok (.sipush 440, 3) := by decide +kernel
theorem dX3_init_41 : decode cX3_init 41 = .ok (.newarray .long, 2) := by decide +kernel
theorem dX3_init_43 : decode cX3_init 43 = .ok (.putfield 32, 3) := by decide +kernel
theorem dX3_init_46 : decode cX3_init 46 = .ok (.aload_n 0, 1) := by decide +kernel
theorem dX3_init_47 : decode cX3_init 47 = .ok (.sipush 1320, 3) := by decide +kernel
theorem dX3_init_50 : decode cX3_init 50 = .ok (.newarray .long, 2) := by decide +kernel
theorem dX3_init_52 : decode cX3_init 52 = .ok (.putfield 36, 3) := by decide +kernel
theorem dX3_init_55 : decode cX3_init 55 = .ok (.aload_n 0, 1) := by decide +kernel
theorem dX3_init_56 : decode cX3_init 56 = .ok (.iconst 3, 1) := by decide +kernel
theorem dX3_init_57 : decode cX3_init 57 = .ok (.newarray .long, 2) := by decide +kernel
theorem dX3_init_59 : decode cX3_init 59 = .ok (.putfield 39, 3) := by decide +kernel
theorem dX3_init_62 : decode cX3_init 62 = .ok (.aload_n 0, 1) := by decide +kernel
theorem dX3_init_63 : decode cX3_init 63 = .ok (.bipush 11, 2) := by decide +kernel
theorem dX3_init_65 : decode cX3_init 65 = .ok (.newarray .int, 2) := by decide +kernel
theorem dX3_init_67 : decode cX3_init 67 = .ok (.putfield 42, 3) := by decide +kernel
theorem dX3_init_70 : decode cX3_init 70 = .ok (.aload_n 0, 1) := by decide +kernel
theorem dX3_init_71 : decode cX3_init 71 = .ok (.sipush 250, 3) := by decide +kernel
theorem dX3_init_74 : decode cX3_init 74 = .ok (.newarray .int, 2) := by decide +kernel
theorem dX3_init_76 : decode cX3_init 76 = .ok (.putfield 45, 3) := by decide +kernel
theorem dX3_init_79 : decode cX3_init 79 = .ok (.iconst 0, 1) := by decide +kernel
theorem dX3_init_80 : decode cX3_init 80 = .ok (.istore_n 1, 1) := by decide +kernel
theorem dX3_init_81 : decode cX3_init 81 = .ok (.iload_n 1, 1) := by decide +kernel
theorem dX3_init_82 : decode cX3_init 82 = .ok (.aload_n 0, 1) := by decide +kernel
theorem dX3_init_83 : decode cX3_init 83 = .ok (.getfield 24, 3) := by decide +kernel
theorem dX3_init_86 : decode cX3_init 86 = .ok (.arraylength, 1) := by decide +kernel
theorem dX3_init_87 : decode cX3_init 87 = .ok (.if_icmp .ge 22, 3) := by decide +kernel
theorem dX3_init_90 : decode cX3_init 90 = .ok (.aload_n 0, 1) := by decide +kernel
theorem dX3_init_91 : decode cX3_init 91 = .ok (.getfield 24, 3) := by decide +kernel
theorem dX3_init_94 : decode cX3_init 94 = .ok (.iload_n 1, 1) := by decide +kernel
theorem dX3_init_95 : decode cX3_init 95 = .ok (.new 22, 3) := by decide +kernel
theorem dX3_init_98 : decode cX3_init 98 = .ok (.dup, 1) := by decide +kernel
theorem dX3_init_99 : decode cX3_init 99 = .ok (.invokespecial 48, 3) := by decide +kernel
theorem dX3_init_102 : decode cX3_init 102 = .ok (.aastore, 1) := by decide +kernel
theorem dX3_init_103 : decode cX3_init 103 = .ok (.iinc 1 1, 3) := by decide +kernel
theorem dX3_init_106 : decode cX3_init 106 = .ok (.goto (-25), 3) := by decide +kernel
theorem dX3_init_109 : decode cX3_init 109 = .ok (.return_, 1) := by decide +kernel
theorem dX3_linkFrom_0 : decode cX3_linkFrom 0 = .ok (.iload_n 0, 1) := by decide +kernel
theorem dX3_linkFrom_1 : decode cX3_linkFrom 1 = .ok (.bipush 12, 2) := by decide +kernel
theorem dX3_linkFrom_3 : decode cX3_linkFrom 3 = .ok (.ishr, 1) := by decide +kernel
theorem dX3_linkFrom_4 : decode cX3_linkFrom 4 = .ok (.bipush 63, 2) := by decide +kernel
theorem dX3_linkFrom_6 : decode cX3_linkFrom 6 = .ok (.iand, 1) := by decide +kernel
theorem dX3_linkFrom_7 : decode cX3_linkFrom 7 = .ok (.ireturn, 1) := by decide +kernel
theorem dX3_linkTo_0 : decode cX3_linkTo 0 = .ok (.iload_n 0, 1) := by decide +kernel
theorem dX3_linkTo_1 : decode cX3_linkTo 1 = .ok (.bipush 18, 2) := by decide +kernel
theorem dX3_linkTo_3 : decode cX3_linkTo 3 = .ok (.ishr, 1) := by decide +kernel
theorem dX3_linkTo_4 : decode cX3_linkTo 4 = .ok (.ireturn, 1) := by decide +kernel
theorem dX3_linkMove_0 : decode cX3_linkMove 0 = .ok (.iload_n 0, 1) := by decide +kernel
theorem dX3_linkMove_1 : decode cX3_linkMove 1 = .ok (.sipush 4095, 3) := by decide +kernel
theorem dX3_linkMove_4 : decode cX3_linkMove 4 = .ok (.iand, 1) := by decide +kernel
theorem dX3_linkMove_5 : decode cX3_linkMove 5 = .ok (.ireturn, 1) := by decide +kernel
theorem dX3_cellOf_0 : decode cX3_cellOf 0 = .ok (.iload_n 0, 1) := by decide +kernel
theorem dX3_cellOf_1 : decode cX3_cellOf 1 = .ok (.ifCond .lt 23, 3) := by decide +kernel
theorem dX3_cellOf_4 : decode cX3_cellOf 4 = .ok (.iload_n 0, 1) := by decide +kernel
theorem dX3_cellOf_5 : decode cX3_cellOf 5 = .ok (.bipush 11, 2) := by decide +kernel
theorem dX3_cellOf_7 : decode cX3_cellOf 7 = .ok (.if_icmp .ge 17, 3) := by decide +kernel
theorem dX3_cellOf_10 : decode cX3_cellOf 10 = .ok (.iload_n 1, 1) := by decide +kernel
theorem dX3_cellOf_11 : decode cX3_cellOf 11 = .ok (.ifCond .lt 13, 3) := by decide +kernel
theorem dX3_cellOf_14 : decode cX3_cellOf 14 = .ok (.iload_n 1, 1) := by decide +kernel
theorem dX3_cellOf_15 : decode cX3_cellOf 15 = .ok (.bipush 40, 2) := by decide +kernel
theorem dX3_cellOf_17 : decode cX3_cellOf 17 = .ok (.if_icmp .ge 7, 3) := by decide +kernel
theorem dX3_cellOf_20 : decode cX3_cellOf 20 = .ok (.iconst 1, 1) := by decide +kernel
theorem dX3_cellOf_21 : decode cX3_cellOf 21 = .ok (.goto 4, 3) := by decide +kernel
theorem dX3_cellOf_24 : decode cX3_cellOf 24 = .ok (.iconst 0, 1) := by decide +kernel
theorem dX3_cellOf_25 : decode cX3_cellOf 25 = .ok (.istore_n 2, 1) := by decide +kernel
theorem dX3_cellOf_26 : decode cX3_cellOf 26 = .ok (.iload_n 2, 1) := by decide +kernel
theorem dX3_cellOf_27 : decode cX3_cellOf 27 = .ok (.ifCond .eq 12, 3) := by decide +kernel
theorem dX3_cellOf_30 : decode cX3_cellOf 30 = .ok (.iload_n 0, 1) := by decide +kernel
theorem dX3_cellOf_31 : decode cX3_cellOf 31 = .ok (.bipush 40, 2) := by decide +kernel
theorem dX3_cellOf_33 : decode cX3_cellOf 33 = .ok (.imul, 1) := by decide +kernel
theorem dX3_cellOf_34 : decode cX3_cellOf 34 = .ok (.iload_n 1, 1) := by decide +kernel
theorem dX3_cellOf_35 : decode cX3_cellOf 35 = .ok (.iadd, 1) := by decide +kernel
theorem dX3_cellOf_36 : decode cX3_cellOf 36 = .ok (.goto 4, 3) := by decide +kernel
theorem dX3_cellOf_39 : decode cX3_cellOf 39 = .ok (.iconst (-1), 1) := by decide +kernel
theorem dX3_cellOf_40 : decode cX3_cellOf 40 = .ok (.ireturn, 1) := by decide +kernel
theorem dX3_mover_0 : decode cX3_mover 0 = .ok (.iload_n 1, 1) := by decide +kernel
theorem dX3_mover_1 : decode cX3_mover 1 = .ok (.iconst 2, 1) := by decide +kernel
theorem dX3_mover_2 : decode cX3_mover 2 = .ok (.irem, 1) := by decide +kernel
theorem dX3_mover_3 : decode cX3_mover 3 = .ok (.ifCond .ne 7, 3) := by decide +kernel
theorem dX3_mover_6 : decode cX3_mover 6 = .ok (.iconst 0, 1) := by decide +kernel
theorem dX3_mover_7 : decode cX3_mover 7 = .ok (.goto 4, 3) := by decide +kernel
theorem dX3_mover_10 : decode cX3_mover 10 = .ok (.iconst 1, 1) := by decide +kernel
theorem dX3_mover_11 : decode cX3_mover 11 = .ok (.ireturn, 1) := by decide +kernel
theorem dX3_beginAnew_0 : decode cX3_beginAnew 0 = .ok (.aload_n 0, 1) := by decide +kernel
theorem dX3_beginAnew_1 : decode cX3_beginAnew 1 = .ok (.getfield 12, 3) := by decide +kernel
theorem dX3_beginAnew_4 : decode cX3_beginAnew 4 = .ok (.iconst 4, 1) := by decide +kernel
theorem dX3_beginAnew_5 : decode cX3_beginAnew 5 = .ok (.iconst 4, 1) := by decide +kernel
theorem dX3_beginAnew_6 : decode cX3_beginAnew 6 = .ok (.invokevirtual 49, 3) := by decide +kernel
theorem dX3_beginAnew_9 : decode cX3_beginAnew 9 = .ok (.aload_n 0, 1) := by decide +kernel
theorem dX3_beginAnew_10 : decode cX3_beginAnew 10 = .ok (.getfield 12, 3) := by decide +kernel
theorem dX3_beginAnew_13 : decode cX3_beginAnew 13 = .ok (.iconst 0, 1) := by decide +kernel
theorem dX3_beginAnew_14 : decode cX3_beginAnew 14 = .ok (.iconst 0, 1) := by decide +kernel
theorem dX3_beginAnew_15 : decode cX3_beginAnew 15 = .ok (.iconst 1, 1) := by decide +kernel
theorem dX3_beginAnew_16 : decode cX3_beginAnew 16 = .ok (.invokevirtual 53, 3) := by decide +kernel
theorem dX3_beginAnew_19 : decode cX3_beginAnew 19 = .ok (.aload_n 0, 1) := by decide +kernel
theorem dX3_beginAnew_20 : decode cX3_beginAnew 20 = .ok (.getfield 12, 3) := by decide +kernel
theorem dX3_beginAnew_23 : decode cX3_beginAnew 23 = .ok (.iconst 1, 1) := by decide +kernel
theorem dX3_beginAnew_24 : decode cX3_beginAnew 24 = .ok (.iconst 0, 1) := by decide +kernel
theorem dX3_beginAnew_25 : decode cX3_beginAnew 25 = .ok (.iconst 0, 1) := by decide +kernel
theorem dX3_beginAnew_26 : decode cX3_beginAnew 26 = .ok (.iconst 2, 1) := by decide +kernel
theorem dX3_beginAnew_27 : decode cX3_beginAnew 27 = .ok (.invokestatic 57, 3) := by decide +kernel
theorem dX3_beginAnew_30 : decode cX3_beginAnew 30 = .ok (.invokevirtual 53, 3) := by decide +kernel
theorem dX3_beginAnew_33 : decode cX3_beginAnew 33 = .ok (.aload_n 0, 1) := by decide +kernel
theorem dX3_beginAnew_34 : decode cX3_beginAnew 34 = .ok (.getfield 12, 3) := by decide +kernel
theorem dX3_beginAnew_37 : decode cX3_beginAnew 37 = .ok (.iconst 3, 1) := by decide +kernel
theorem dX3_beginAnew_38 : decode cX3_beginAnew 38 = .ok (.iconst 1, 1) := by decide +kernel
theorem dX3_beginAnew_39 : decode cX3_beginAnew 39 = .ok (.iconst 0, 1) := by decide +kernel
theorem dX3_beginAnew_40 : decode cX3_beginAnew 40 = .ok (.iconst 2, 1) := by decide +kernel
theorem dX3_beginAnew_41 : decode cX3_beginAnew 41 = .ok (.invokestatic 57, 3) := by decide +kernel
theorem dX3_beginAnew_44 : decode cX3_beginAnew 44 = .ok (.invokevirtual 53, 3) := by decide +kernel
theorem dX3_beginAnew_47 : decode cX3_beginAnew 47 = .ok (.aload_n 0, 1) := by decide +kernel
theorem dX3_beginAnew_48 : decode cX3_beginAnew 48 = .ok (.getfield 12, 3) := by decide +kernel
theorem dX3_beginAnew_51 : decode cX3_beginAnew 51 = .ok (.iconst 2, 1) := by decide +kernel
theorem dX3_beginAnew_52 : decode cX3_beginAnew 52 = .ok (.iconst 0, 1) := by decide +kernel
theorem dX3_beginAnew_53 : decode cX3_beginAnew 53 = .ok (.iconst 0, 1) := by decide +kernel
theorem dX3_beginAnew_54 : decode cX3_beginAnew 54 = .ok (.iconst 4, 1) := by decide +kernel
theorem dX3_beginAnew_55 : decode cX3_beginAnew 55 = .ok (.invokestatic 57, 3) := by decide +kernel
theorem dX3_beginAnew_58 : decode cX3_beginAnew 58 = .ok (.invokevirtual 53, 3) := by decide +kernel
theorem dX3_beginAnew_61 : decode cX3_beginAnew 61 = .ok (.aload_n 0, 1) := by decide +kernel
theorem dX3_beginAnew_62 : decode cX3_beginAnew 62 = .ok (.getfield 12, 3) := by decide +kernel
theorem dX3_beginAnew_65 : decode cX3_beginAnew 65 = .ok (.iconst 3, 1) := by decide +kernel
theorem dX3_beginAnew_66 : decode cX3_beginAnew 66 = .ok (.iconst 3, 1) := by decide +kernel
theorem dX3_beginAnew_67 : decode cX3_beginAnew 67 = .ok (.bipush 9, 2) := by decide +kernel
theorem dX3_beginAnew_69 : decode cX3_beginAnew 69 = .ok (.invokevirtual 53, 3) := by decide +kernel
theorem dX3_beginAnew_72 : decode cX3_beginAnew 72 = .ok (.aload_n 0, 1) := by decide +kernel
theorem dX3_beginAnew_73 : decode cX3_beginAnew 73 = .ok (.getfield 12, 3) := by decide +kernel
theorem dX3_beginAnew_76 : decode cX3_beginAnew 76 = .ok (.iconst 0, 1) := by decide +kernel
theorem dX3_beginAnew_77 : decode cX3_beginAnew 77 = .ok (.iconst 3, 1) := by decide +kernel
theorem dX3_beginAnew_78 : decode cX3_beginAnew 78 = .ok (.iconst 1, 1) := by decide +kernel
theorem dX3_beginAnew_79 : decode cX3_beginAnew 79 = .ok (.iconst 3, 1) := by decide +kernel
theorem dX3_beginAnew_80 : decode cX3_beginAnew 80 = .ok (.invokestatic 57, 3) := by decide +kernel
theorem dX3_beginAnew_83 : decode cX3_beginAnew 83 = .ok (.invokevirtual 53, 3) := by decide +kernel
theorem dX3_beginAnew_86 : decode cX3_beginAnew 86 = .ok (.aload_n 0, 1) := by decide +kernel
theorem dX3_beginAnew_87 : decode cX3_beginAnew 87 = .ok (.getfield 12, 3) := by decide +kernel
theorem dX3_beginAnew_90 : decode cX3_beginAnew 90 = .ok (.iconst 1, 1) := by decide +kernel
theorem dX3_beginAnew_91 : decode cX3_beginAnew 91 = .ok (.iconst 3, 1) := by decide +kernel
theorem dX3_beginAnew_92 : decode cX3_beginAnew 92 = .ok (.iconst 1, 1) := by decide +kernel
theorem dX3_beginAnew_93 : decode cX3_beginAnew 93 = .ok (.iconst 4, 1) := by decide +kernel
theorem dX3_beginAnew_94 : decode cX3_beginAnew 94 = .ok (.invokestatic 57, 3) := by decide +kernel
theorem dX3_beginAnew_97 : decode cX3_beginAnew 97 = .ok (.invokevirtual 53, 3) := by decide +kernel
theorem dX3_beginAnew_100 : decode cX3_beginAnew 100 = .ok (.aload_n 0, 1) := by decide +kernel
theorem dX3_beginAnew_101 : decode cX3_beginAnew 101 = .ok (.invokevirtual 61, 3) := by decide +kernel
theorem dX3_beginAnew_104 : decode cX3_beginAnew 104 = .ok (.return_, 1) := by decide +kernel
theorem dX3_begin_0 : decode cX3_begin 0 = .ok (.aload_n 0, 1) := by decide +kernel
theorem dX3_begin_1 : decode cX3_begin 1 = .ok (.iconst 0, 1) := by decide +kernel
theorem dX3_begin_2 : decode cX3_begin 2 = .ok (.putfield 18, 3) := by decide +kernel
theorem dX3_begin_5 : decode cX3_begin 5 = .ok (.aload_n 0, 1) := by decide +kernel
theorem dX3_begin_6 : decode cX3_begin 6 = .ok (.getfield 39, 3) := by decide +kernel
theorem dX3_begin_9 : decode cX3_begin 9 = .ok (.lconst 0, 1) := by decide +kernel
theorem dX3_begin_10 : decode cX3_begin 10 = .ok (.invokestatic 64, 3) := by decide +kernel
theorem dX3_begin_13 : decode cX3_begin 13 = .ok (.iconst 0, 1) := by decide +kernel
theorem dX3_begin_14 : decode cX3_begin 14 = .ok (.istore_n 1, 1) := by decide +kernel
theorem dX3_begin_15 : decode cX3_begin 15 = .ok (.iload_n 1, 1) := by decide +kernel
theorem dX3_begin_16 : decode cX3_begin 16 = .ok (.aload_n 0, 1) := by decide +kernel
theorem dX3_begin_17 : decode cX3_begin 17 = .ok (.getfield 12, 3) := by decide +kernel
theorem dX3_begin_20 : decode cX3_begin 20 = .ok (.getfield 70, 3) := by decide +kernel
theorem dX3_begin_23 : decode cX3_begin 23 = .ok (.if_icmp .ge 50, 3) := by decide +kernel
theorem dX3_begin_26 : decode cX3_begin 26 = .ok (.iconst 0, 1) := by decide +kernel
theorem dX3_begin_27 : decode cX3_begin 27 = .ok (.istore_n 2, 1) := by decide +kernel
theorem dX3_begin_28 : decode cX3_begin 28 = .ok (.iload_n 2, 1) := by decide +kernel
theorem dX3_begin_29 : decode cX3_begin 29 = .ok (.aload_n 0, 1) := by decide +kernel
theorem dX3_begin_30 : decode cX3_begin 30 = .ok (.getfield 12, 3) := by decide +kernel
theorem dX3_begin_33 : decode cX3_begin 33 = .ok (.getfield 73, 3) := by decide +kernel
theorem dX3_begin_36 : decode cX3_begin 36 = .ok (.if_icmp .ge 31, 3) := by decide +kernel
theorem dX3_begin_39 : decode cX3_begin 39 = .ok (.aload_n 0, 1) := by decide +kernel
theorem dX3_begin_40 : decode cX3_begin 40 = .ok (.aload_n 0, 1) := by decide +kernel
theorem dX3_begin_41 : decode cX3_begin 41 = .ok (.getfield 12, 3) := by decide +kernel
theorem dX3_begin_44 : decode cX3_begin 44 = .ok (.iload_n 2, 1) := by decide +kernel
theorem dX3_begin_45 : decode cX3_begin 45 = .ok (.iload_n 1, 1) := by decide +kernel
theorem dX3_begin_46 : decode cX3_begin 46 = .ok (.invokevirtual 76, 3) := by decide +kernel
theorem dX3_begin_49 : decode cX3_begin 49 = .ok (.aload_n 0, 1) := by decide +kernel
theorem dX3_begin_50 : decode cX3_begin 50 = .ok (.getfield 12, 3) := by decide +kernel
theorem dX3_begin_53 : decode cX3_begin 53 = .ok (.iload_n 2, 1) := by decide +kernel
theorem dX3_begin_54 : decode cX3_begin 54 = .ok (.iload_n 1, 1) := by decide +kernel
theorem dX3_begin_55 : decode cX3_begin 55 = .ok (.invokevirtual 79, 3) := by decide +kernel
theorem dX3_begin_58 : decode cX3_begin 58 = .ok (.invokevirtual 82, 3) := by decide +kernel
theorem dX3_begin_61 : decode cX3_begin 61 = .ok (.iinc 2 1, 3) := by decide +kernel
theorem dX3_begin_64 : decode cX3_begin 64 = .ok (.goto (-36), 3) := by decide +kernel
theorem dX3_begin_67 : decode cX3_begin 67 = .ok (.iinc 1 1, 3) := by decide +kernel
theorem dX3_begin_70 : decode cX3_begin 70 = .ok (.goto (-55), 3) := by decide +kernel
theorem dX3_begin_73 : decode cX3_begin 73 = .ok (.aload_n 0, 1) := by decide +kernel
theorem dX3_begin_74 : decode cX3_begin 74 = .ok (.getfield 39, 3) := by decide +kernel
theorem dX3_begin_77 : decode cX3_begin 77 = .ok (.iconst 0, 1) := by decide +kernel
theorem dX3_begin_78 : decode cX3_begin 78 = .ok (.aload_n 0, 1) := by decide +kernel
theorem dX3_begin_79 : decode cX3_begin 79 = .ok (.getfield 36, 3) := by decide +kernel
theorem dX3_begin_82 : decode cX3_begin 82 = .ok (.iconst 0, 1) := by decide +kernel
theorem dX3_begin_83 : decode cX3_begin 83 = .ok (.iconst 3, 1) := by decide +kernel
theorem dX3_begin_84 : decode cX3_begin 84 = .ok (.invokestatic 85, 3) := by decide +kernel
theorem dX3_begin_87 : decode cX3_begin 87 = .ok (.aload_n 0, 1) := by decide +kernel
theorem dX3_begin_88 : decode cX3_begin 88 = .ok (.getfield 28, 3) := by decide +kernel
theorem dX3_begin_91 : decode cX3_begin 91 = .ok (.iconst 0, 1) := by decide +kernel
theorem dX3_begin_92 : decode cX3_begin 92 = .ok (.iconst 1, 1) := by decide +kernel
theorem dX3_begin_93 : decode cX3_begin 93 = .ok (.iastore, 1) := by decide +kernel
theorem dX3_begin_94 : decode cX3_begin 94 = .ok (.aload_n 0, 1) := by decide +kernel
theorem dX3_begin_95 : decode cX3_begin 95 = .ok (.getfield 32, 3) := by decide +kernel
theorem dX3_begin_98 : decode cX3_begin 98 = .ok (.iconst 0, 1) := by decide +kernel
theorem dX3_begin_99 : decode cX3_begin 99 = .ok (.lconst 1, 1) := by decide +kernel
theorem dX3_begin_100 : decode cX3_begin 100 = .ok (.lastore, 1) := by decide +kernel
theorem dX3_begin_101 : decode cX3_begin 101 = .ok (.return_, 1) := by decide +kernel
theorem dX3_copyFrom_0 : decode cX3_copyFrom 0 = .ok (.aload_n 0, 1) := by decide +kernel
theorem dX3_copyFrom_1 : decode cX3_copyFrom 1 = .ok (.getfield 12, 3) := by decide +kernel
theorem dX3_copyFrom_4 : decode cX3_copyFrom 4 = .ok (.aload_n 1, 1) := by decide +kernel
theorem dX3_copyFrom_5 : decode cX3_copyFrom 5 = .ok (.getfield 12, 3) := by decide +kernel
theorem dX3_copyFrom_8 : decode cX3_copyFrom 8 = .ok (.getfield 73, 3) := by decide +kernel
theorem dX3_copyFrom_11 : decode cX3_copyFrom 11 = .ok (.aload_n 1, 1) := by decide +kernel
theorem dX3_copyFrom_12 : decode cX3_copyFrom 12 = .ok (.getfield 12, 3) := by decide +kernel
theorem dX3_copyFrom_15 : decode cX3_copyFrom 15 = .ok (.getfield 70, 3) := by decide +kernel
theorem dX3_copyFrom_18 : decode cX3_copyFrom 18 = .ok (.invokevirtual 49, 3) := by decide +kernel
theorem dX3_copyFrom_21 : decode cX3_copyFrom 21 = .ok (.aload_n 0, 1) := by decide +kernel
theorem dX3_copyFrom_22 : decode cX3_copyFrom 22 = .ok (.aload_n 1, 1) := by decide +kernel
theorem dX3_copyFrom_23 : decode cX3_copyFrom 23 = .ok (.getfield 18, 3) := by decide +kernel
theorem dX3_copyFrom_26 : decode cX3_copyFrom 26 = .ok (.putfield 18, 3) := by decide +kernel
theorem dX3_copyFrom_29 : decode cX3_copyFrom 29 = .ok (.iconst 0, 1) := by decide +kernel
theorem dX3_copyFrom_30 : decode cX3_copyFrom 30 = .ok (.istore_n 2, 1) := by decide +kernel
theorem dX3_copyFrom_31 : decode cX3_copyFrom 31 = .ok (.iload_n 2, 1) := by decide +kernel
theorem dX3_copyFrom_32 : decode cX3_copyFrom 32 = .ok (.aload_n 0, 1) := by decide +kernel
theorem dX3_copyFrom_33 : decode cX3_copyFrom 33 = .ok (.getfield 18, 3) := by decide +kernel
theorem dX3_copyFrom_36 : decode cX3_copyFrom 36 = .ok (.if_icmp .ge 24, 3) := by decide +kernel
theorem dX3_copyFrom_39 : decode cX3_copyFrom 39 = .ok (.aload_n 0, 1) := by decide +kernel
theorem dX3_copyFrom_40 : decode cX3_copyFrom 40 = .ok (.getfield 24, 3) := by decide +kernel
theorem dX3_copyFrom_43 : decode cX3_copyFrom 43 = .ok (.iload_n 2, 1) := by decide +kernel
theorem dX3_copyFrom_44 : decode cX3_copyFrom 44 = .ok (.aaload, 1) := by decide +kernel
theorem dX3_copyFrom_45 : decode cX3_copyFrom 45 = .ok (.aload_n 1, 1) := by decide +kernel
theorem dX3_copyFrom_46 : decode cX3_copyFrom 46 = .ok (.getfield 24, 3) := by decide +kernel
theorem dX3_copyFrom_49 : decode cX3_copyFrom 49 = .ok (.iload_n 2, 1) := by decide +kernel
theorem dX3_copyFrom_50 : decode cX3_copyFrom 50 = .ok (.aaload, 1) := by decide +kernel
theorem dX3_copyFrom_51 : decode cX3_copyFrom 51 = .ok (.invokevirtual 91, 3) := by decide +kernel
theorem dX3_copyFrom_54 : decode cX3_copyFrom 54 = .ok (.iinc 2 1, 3) := by decide +kernel
theorem dX3_copyFrom_57 : decode cX3_copyFrom 57 = .ok (.goto (-26), 3) := by decide +kernel
theorem dX3_copyFrom_60 : decode cX3_copyFrom 60 = .ok (.aload_n 0, 1) := by decide +kernel
theorem dX3_copyFrom_61 : decode cX3_copyFrom 61 = .ok (.getfield 18, 3) := by decide +kernel
theorem dX3_copyFrom_64 : decode cX3_copyFrom 64 = .ok (.iconst 1, 1) := by decide +kernel
theorem dX3_copyFrom_65 : decode cX3_copyFrom 65 = .ok (.iadd, 1) := by decide +kernel
theorem dX3_copyFrom_66 : decode cX3_copyFrom 66 = .ok (.istore_n 2, 1) := by decide +kernel
theorem dX3_copyFrom_67 : decode cX3_copyFrom 67 = .ok (.aload_n 1, 1) := by decide +kernel
theorem dX3_copyFrom_68 : decode cX3_copyFrom 68 = .ok (.getfield 28, 3) := by decide +kernel
theorem dX3_copyFrom_71 : decode cX3_copyFrom 71 = .ok (.iconst 0, 1) := by decide +kernel
theorem dX3_copyFrom_72 : decode cX3_copyFrom 72 = .ok (.aload_n 0, 1) := by decide +kernel
theorem dX3_copyFrom_73 : decode cX3_copyFrom 73 = .ok (.getfield 28, 3) := by decide +kernel
theorem dX3_copyFrom_76 : decode cX3_copyFrom 76 = .ok (.iconst 0, 1) := by decide +kernel
theorem dX3_copyFrom_77 : decode cX3_copyFrom 77 = .ok (.iload_n 2, 1) := by decide +kernel
theorem dX3_copyFrom_78 : decode cX3_copyFrom 78 = .ok (.invokestatic 85, 3) := by decide +kernel
theorem dX3_copyFrom_81 : decode cX3_copyFrom 81 = .ok (.aload_n 1, 1) := by decide +kernel
theorem dX3_copyFrom_82 : decode cX3_copyFrom 82 = .ok (.getfield 32, 3) := by decide +kernel
theorem dX3_copyFrom_85 : decode cX3_copyFrom 85 = .ok (.iconst 0, 1) := by decide +kernel
theorem dX3_copyFrom_86 : decode cX3_copyFrom 86 = .ok (.aload_n 0, 1) := by decide +kernel
theorem dX3_copyFrom_87 : decode cX3_copyFrom 87 = .ok (.getfield 32, 3) := by decide +kernel
theorem dX3_copyFrom_90 : decode cX3_copyFrom 90 = .ok (.iconst 0, 1) := by decide +kernel
theorem dX3_copyFrom_91 : decode cX3_copyFrom 91 = .ok (.iload_n 2, 1) := by decide +kernel
theorem dX3_copyFrom_92 : decode cX3_copyFrom 92 = .ok (.bipush 40, 2) := by decide +kernel
theorem dX3_copyFrom_94 : decode cX3_copyFrom 94 = .ok (.imul, 1) := by decide +kernel
theorem dX3_copyFrom_95 : decode cX3_copyFrom 95 = .ok (.invokestatic 85, 3) := by decide +kernel
theorem dX3_copyFrom_98 : decode cX3_copyFrom 98 = .ok (.aload_n 1, 1) := by decide +kernel
theorem dX3_copyFrom_99 : decode cX3_copyFrom 99 = .ok (.getfield 36, 3) := by decide +kernel
theorem dX3_copyFrom_102 : decode cX3_copyFrom 102 = .ok (.iconst 0, 1) := by decide +kernel
theorem dX3_copyFrom_103 : decode cX3_copyFrom 103 = .ok (.aload_n 0, 1) := by decide +kernel
theorem dX3_copyFrom_104 : decode cX3_copyFrom 104 = .ok (.getfield 36, 3) := by decide +kernel
theorem dX3_copyFrom_107 : decode cX3_copyFrom 107 = .ok (.iconst 0, 1) := by decide +kernel
theorem dX3_copyFrom_108 : decode cX3_copyFrom 108 = .ok (.iload_n 2, 1) := by decide +kernel
theorem dX3_copyFrom_109 : decode cX3_copyFrom 109 = .ok (.bipush 40, 2) := by decide +kernel
theorem dX3_copyFrom_111 : decode cX3_copyFrom 111 = .ok (.imul, 1) := by decide +kernel
theorem dX3_copyFrom_112 : decode cX3_copyFrom 112 = .ok (.iconst 3, 1) := by decide +kernel
theorem dX3_copyFrom_113 : decode cX3_copyFrom 113 = .ok (.imul, 1) := by decide +kernel
theorem dX3_copyFrom_114 : decode cX3_copyFrom 114 = .ok (.invokestatic 85, 3) := by decide +kernel
theorem dX3_copyFrom_117 : decode cX3_copyFrom 117 = .ok (.aload_n 1, 1) := by decide +kernel
theorem dX3_copyFrom_118 : decode cX3_copyFrom 118 = .ok (.getfield 42, 3) := by decide +kernel
theorem dX3_copyFrom_121 : decode cX3_copyFrom 121 = .ok (.iconst 0, 1) := by decide +kernel
theorem dX3_copyFrom_122 : decode cX3_copyFrom 122 = .ok (.aload_n 0, 1) := by decide +kernel
theorem dX3_copyFrom_123 : decode cX3_copyFrom 123 = .ok (.getfield 42, 3) := by decide +kernel
theorem dX3_copyFrom_126 : decode cX3_copyFrom 126 = .ok (.iconst 0, 1) := by decide +kernel
theorem dX3_copyFrom_127 : decode cX3_copyFrom 127 = .ok (.iload_n 2, 1) := by decide +kernel
theorem dX3_copyFrom_128 : decode cX3_copyFrom 128 = .ok (.invokestatic 85, 3) := by decide +kernel
theorem dX3_copyFrom_131 : decode cX3_copyFrom 131 = .ok (.aload_n 0, 1) := by decide +kernel
theorem dX3_copyFrom_132 : decode cX3_copyFrom 132 = .ok (.getfield 45, 3) := by decide +kernel
theorem dX3_copyFrom_135 : decode cX3_copyFrom 135 = .ok (.arraylength, 1) := by decide +kernel
theorem dX3_copyFrom_136 : decode cX3_copyFrom 136 = .ok (.aload_n 0, 1) := by decide +kernel
theorem dX3_copyFrom_137 : decode cX3_copyFrom 137 = .ok (.getfield 42, 3) := by decide +kernel
theorem dX3_copyFrom_140 : decode cX3_copyFrom 140 = .ok (.aload_n 0, 1) := by decide +kernel
theorem dX3_copyFrom_141 : decode cX3_copyFrom 141 = .ok (.getfield 18, 3) := by decide +kernel
theorem dX3_copyFrom_144 : decode cX3_copyFrom 144 = .ok (.iaload, 1) := by decide +kernel
theorem dX3_copyFrom_145 : decode cX3_copyFrom 145 = .ok (.if_icmp .ge 14, 3) := by decide +kernel
theorem dX3_copyFrom_148 : decode cX3_copyFrom 148 = .ok (.aload_n 0, 1) := by decide +kernel
theorem dX3_copyFrom_149 : decode cX3_copyFrom 149 = .ok (.aload_n 1, 1) := by decide +kernel
theorem dX3_copyFrom_150 : decode cX3_copyFrom 150 = .ok (.getfield 45, 3) := by decide +kernel
theorem dX3_copyFrom_153 : decode cX3_copyFrom 153 = .ok (.arraylength, 1) := by decide +kernel
theorem dX3_copyFrom_154 : decode cX3_copyFrom 154 = .ok (.newarray .int, 2) := by decide +kernel
theorem dX3_copyFrom_156 : decode cX3_copyFrom 156 = .ok (.putfield 45, 3) := by decide +kernel
theorem dX3_copyFrom_159 : decode cX3_copyFrom 159 = .ok (.aload_n 1, 1) := by decide +kernel
theorem dX3_copyFrom_160 : decode cX3_copyFrom 160 = .ok (.getfield 45, 3) := by decide +kernel
theorem dX3_copyFrom_163 : decode cX3_copyFrom 163 = .ok (.iconst 0, 1) := by decide +kernel
theorem dX3_copyFrom_164 : decode cX3_copyFrom 164 = .ok (.aload_n 0, 1) := by decide +kernel
theorem dX3_copyFrom_165 : decode cX3_copyFrom 165 = .ok (.getfield 45, 3) := by decide +kernel
theorem dX3_copyFrom_168 : decode cX3_copyFrom 168 = .ok (.iconst 0, 1) := by decide +kernel
theorem dX3_copyFrom_169 : decode cX3_copyFrom 169 = .ok (.aload_n 0, 1) := by decide +kernel
theorem dX3_copyFrom_170 : decode cX3_copyFrom 170 = .ok (.getfield 42, 3) := by decide +kernel
theorem dX3_copyFrom_173 : decode cX3_copyFrom 173 = .ok (.aload_n 0, 1) := by decide +kernel
theorem dX3_copyFrom_174 : decode cX3_copyFrom 174 = .ok (.getfield 18, 3) := by decide +kernel
theorem dX3_copyFrom_177 : decode cX3_copyFrom 177 = .ok (.iaload, 1) := by decide +kernel
theorem dX3_copyFrom_178 : decode cX3_copyFrom 178 = .ok (.invokestatic 85, 3) := by decide +kernel
theorem dX3_copyFrom_181 : decode cX3_copyFrom 181 = .ok (.return_, 1) := by decide +kernel
theorem dX3_addLast_0 : decode cX3_addLast 0 = .ok (.aload_n 0, 1) := by decide +kernel
theorem dX3_addLast_1 : decode cX3_addLast 1 = .ok (.getfield 18, 3) := by decide +kernel
theorem dX3_addLast_4 : decode cX3_addLast 4 = .ok (.bipush 10, 2) := by decide +kernel
theorem dX3_addLast_6 : decode cX3_addLast 6 = .ok (.if_icmp .lt 5, 3) := by decide +kernel
theorem dX3_addLast_9 : decode cX3_addLast 9 = .ok (.iconst 0, 1) := by decide +kernel
theorem dX3_addLast_10 : decode cX3_addLast 10 = .ok (.ireturn, 1) := by decide +kernel
theorem dX3_addLast_11 : decode cX3_addLast 11 = .ok (.aload_n 0, 1) := by decide +kernel
theorem dX3_addLast_12 : decode cX3_addLast 12 = .ok (.getfield 24, 3) := by decide +kernel
theorem dX3_addLast_15 : decode cX3_addLast 15 = .ok (.aload_n 0, 1) := by decide +kernel
theorem dX3_addLast_16 : decode cX3_addLast 16 = .ok (.dup, 1) := by decide +kernel
theorem dX3_addLast_17 : decode cX3_addLast 17 = .ok (.getfield 18, 3) := by decide +kernel
theorem dX3_addLast_20 : decode cX3_addLast 20 = .ok (.dup_x1, 1) := by decide +kernel
theorem dX3_addLast_21 : decode cX3_addLast 21 = .ok (.iconst 1, 1) := by decide +kernel
theorem dX3_addLast_22 : decode cX3_addLast 22 = .ok (.iadd, 1) := by decide +kernel
theorem dX3_addLast_23 : decode cX3_addLast 23 = .ok (.putfield 18, 3) := by decide +kernel
theorem dX3_addLast_26 : decode cX3_addLast 26 = .ok (.aaload, 1) := by decide +kernel
theorem dX3_addLast_27 : decode cX3_addLast 27 = .ok (.aload_n 1, 1) := by decide +kernel
theorem dX3_addLast_28 : decode cX3_addLast 28 = .ok (.invokevirtual 91, 3) := by decide +kernel
theorem dX3_addLast_31 : decode cX3_addLast 31 = .ok (.iconst 1, 1) := by decide +kernel
theorem dX3_addLast_32 : decode cX3_addLast 32 = .ok (.ireturn, 1) := by decide +kernel
theorem dX3_setOrigin_0 : decode cX3_setOrigin 0 = .ok (.iload_n 1, 1) := by decide +kernel
theorem dX3_setOrigin_1 : decode cX3_setOrigin 1 = .ok (.ifCond .lt 31, 3) := by decide +kernel
theorem dX3_setOrigin_4 : decode cX3_setOrigin 4 = .ok (.iload_n 1, 1) := by decide +kernel
theorem dX3_setOrigin_5 : decode cX3_setOrigin 5 = .ok (.aload_n 0, 1) := by decide +kernel
theorem dX3_setOrigin_6 : decode cX3_setOrigin 6 = .ok (.getfield 18, 3) := by decide +kernel
theorem dX3_setOrigin_9 : decode cX3_setOrigin 9 = .ok (.if_icmp .ge 23, 3) := by decide +kernel
theorem dX3_setOrigin_12 : decode cX3_setOrigin 12 = .ok (.aload_n 0, 1) := by decide +kernel
theorem dX3_setOrigin_13 : decode cX3_setOrigin 13 = .ok (.getfield 24, 3) := by decide +kernel
theorem dX3_setOrigin_16 : decode cX3_setOrigin 16 = .ok (.iload_n 1, 1) := by decide +kernel
theorem dX3_setOrigin_17 : decode cX3_setOrigin 17 = .ok (.aaload, 1) := by decide +kernel
theorem dX3_setOrigin_18 : decode cX3_setOrigin 18 = .ok (.iload_n 2, 1) := by decide +kernel
theorem dX3_setOrigin_19 : decode cX3_setOrigin 19 = .ok (.putfield 95, 3) := by decide +kernel
theorem dX3_setOrigin_22 : decode cX3_setOrigin 22 = .ok (.aload_n 0, 1) := by decide +kernel
theorem dX3_setOrigin_23 : decode cX3_setOrigin 23 = .ok (.getfield 24, 3) := by decide +kernel
theorem dX3_setOrigin_26 : decode cX3_setOrigin 26 = .ok (.iload_n 1, 1) := by decide +kernel
theorem dX3_setOrigin_27 : decode cX3_setOrigin 27 = .ok (.aaload, 1) := by decide +kernel
theorem dX3_setOrigin_28 : decode cX3_setOrigin 28 = .ok (.iload_n 3, 1) := by decide +kernel
theorem dX3_setOrigin_29 : decode cX3_setOrigin 29 = .ok (.putfield 98, 3) := by decide +kernel
theorem dX3_setOrigin_32 : decode cX3_setOrigin 32 = .ok (.return_, 1) := by decide +kernel
theorem dX3_follow_0 : decode cX3_follow 0 = .ok (.iload_n 1, 1) := by decide +kernel
theorem dX3_follow_1 : decode cX3_follow 1 = .ok (.iconst 0, 1) := by decide +kernel
theorem dX3_follow_2 : decode cX3_follow 2 = .ok (.invokestatic 101, 3) := by decide +kernel
theorem dX3_follow_5 : decode cX3_follow 5 = .ok (.istore_n 2, 1) := by decide +kernel
theorem dX3_follow_6 : decode cX3_follow 6 = .ok (.iload_n 2, 1) := by decide +kernel
theorem dX3_follow_7 : decode cX3_follow 7 = .ok (.aload_n 0, 1) := by decide +kernel
theorem dX3_follow_8 : decode cX3_follow 8 = .ok (.getfield 18, 3) := by decide +kernel
theorem dX3_follow_11 : decode cX3_follow 11 = .ok (.if_icmp .ge 126, 3) := by decide +kernel
theorem dX3_follow_14 : decode cX3_follow 14 = .ok (.aload_n 0, 1) := by decide +kernel
theorem dX3_follow_15 : decode cX3_follow 15 = .ok (.getfield 28, 3) := by decide +kernel
theorem dX3_follow_18 : decode cX3_follow 18 = .ok (.iload_n 2, 1) := by decide +kernel
theorem dX3_follow_19 : decode cX3_follow 19 = .ok (.iconst 1, 1) := by decide +kernel
theorem dX3_follow_20 : decode cX3_follow 20 = .ok (.iadd, 1) := by decide +kernel
theorem dX3_follow_21 : decode cX3_follow 21 = .ok (.iconst 0, 1) := by decide +kernel
theorem dX3_follow_22 : decode cX3_follow 22 = .ok (.iastore, 1) := by decide +kernel
theorem dX3_follow_23 : decode cX3_follow 23 = .ok (.aload_n 0, 1) := by decide +kernel
theorem dX3_follow_24 : decode cX3_follow 24 = .ok (.getfield 42, 3) := by decide +kernel
theorem dX3_follow_27 : decode cX3_follow 27 = .ok (.iload_n 2, 1) := by decide +kernel
theorem dX3_follow_28 : decode cX3_follow 28 = .ok (.iconst 1, 1) := by decide +kernel
theorem dX3_follow_29 : decode cX3_follow 29 = .ok (.iadd, 1) := by decide +kernel
theorem dX3_follow_30 : decode cX3_follow 30 = .ok (.aload_n 0, 1) := by decide +kernel
theorem dX3_follow_31 : decode cX3_follow 31 = .ok (.getfield 42, 3) := by decide +kernel
theorem dX3_follow_34 : decode cX3_follow 34 = .ok (.iload_n 2, 1) := by decide +kernel
theorem dX3_follow_35 : decode cX3_follow 35 = .ok (.iaload, 1) := by decide +kernel
theorem dX3_follow_36 : decode cX3_follow 36 = .ok (.iastore, 1) := by decide +kernel
theorem dX3_follow_37 : decode cX3_follow 37 = .ok (.iconst 0, 1) := by decide +kernel
theorem dX3_follow_38 : decode cX3_follow 38 = .ok (.istore_n 3, 1) := by decide +kernel
theorem dX3_follow_39 : decode cX3_follow 39 = .ok (.iload_n 3, 1) := by decide +kernel
theorem dX3_follow_40 : decode cX3_follow 40 = .ok (.aload_n 0, 1) := by decide +kernel
theorem dX3_follow_41 : decode cX3_follow 41 = .ok (.getfield 28, 3) := by decide +kernel
theorem dX3_follow_44 : decode cX3_follow 44 = .ok (.iload_n 2, 1) := by decide +kernel
theorem dX3_follow_45 : decode cX3_follow 45 = .ok (.iaload, 1) := by decide +kernel
theorem dX3_follow_46 : decode cX3_follow 46 = .ok (.if_icmp .ge 72, 3) := by decide +kernel
theorem dX3_follow_49 : decode cX3_follow 49 = .ok (.aload_n 0, 1) := by decide +kernel
theorem dX3_follow_50 : decode cX3_follow 50 = .ok (.iload_n 2, 1) := by decide +kernel
theorem dX3_follow_51 : decode cX3_follow 51 = .ok (.iload_n 3, 1) := by decide +kernel
theorem dX3_follow_52 : decode cX3_follow 52 = .ok (.invokevirtual 106, 3) := by decide +kernel
theorem dX3_follow_55 : decode cX3_follow 55 = .ok (.aload_n 0, 1) := by decide +kernel
theorem dX3_follow_56 : decode cX3_follow 56 = .ok (.getfield 12, 3) := by decide +kernel
theorem dX3_follow_59 : decode cX3_follow 59 = .ok (.aload_n 0, 1) := by decide +kernel
theorem dX3_follow_60 : decode cX3_follow 60 = .ok (.getfield 24, 3) := by decide +kernel
theorem dX3_follow_63 : decode cX3_follow 63 = .ok (.iload_n 2, 1) := by decide +kernel
theorem dX3_follow_64 : decode cX3_follow 64 = .ok (.aaload, 1) := by decide +kernel
theorem dX3_follow_65 : decode cX3_follow 65 = .ok (.aload_n 0, 1) := by decide +kernel
theorem dX3_follow_66 : decode cX3_follow 66 = .ok (.iload_n 2, 1) := by decide +kernel
theorem dX3_follow_67 : decode cX3_follow 67 = .ok (.invokevirtual 109, 3) := by decide +kernel
theorem dX3_follow_70 : decode cX3_follow 70 = .ok (.invokevirtual 113, 3) := by decide +kernel
theorem dX3_follow_73 : decode cX3_follow 73 = .ok (.istore 4, 2) := by decide +kernel
theorem dX3_follow_75 : decode cX3_follow 75 = .ok (.iconst 0, 1) := by decide +kernel
theorem dX3_follow_76 : decode cX3_follow 76 = .ok (.istore 5, 2) := by decide +kernel
theorem dX3_follow_78 : decode cX3_follow 78 = .ok (.iload 5, 2) := by decide +kernel
theorem dX3_follow_80 : decode cX3_follow 80 = .ok (.iload 4, 2) := by decide +kernel
theorem dX3_follow_82 : decode cX3_follow 82 = .ok (.if_icmp .ge 30, 3) := by decide +kernel
theorem dX3_follow_85 : decode cX3_follow 85 = .ok (.aload_n 0, 1) := by decide +kernel
theorem dX3_follow_86 : decode cX3_follow 86 = .ok (.iload_n 2, 1) := by decide +kernel
theorem dX3_follow_87 : decode cX3_follow 87 = .ok (.iload_n 3, 1) := by decide +kernel
theorem dX3_follow_88 : decode cX3_follow 88 = .ok (.aload_n 0, 1) := by decide +kernel
theorem dX3_follow_89 : decode cX3_follow 89 = .ok (.getfield 12, 3) := by decide +kernel
theorem dX3_follow_92 : decode cX3_follow 92 = .ok (.getfield 117, 3) := by decide +kernel
theorem dX3_follow_95 : decode cX3_follow 95 = .ok (.iload 5, 2) := by decide +kernel
theorem dX3_follow_97 : decode cX3_follow 97 = .ok (.iaload, 1) := by decide +kernel
theorem dX3_follow_98 : decode cX3_follow 98 = .ok (.invokevirtual 120, 3) := by decide +kernel
theorem dX3_follow_101 : decode cX3_follow 101 = .ok (.ifCond .ne 5, 3) := by decide +kernel
theorem dX3_follow_104 : decode cX3_follow 104 = .ok (.iconst (-1), 1) := by decide +kernel
theorem dX3_follow_105 : decode cX3_follow 105 = .ok (.ireturn, 1) := by decide +kernel
theorem dX3_follow_106 : decode cX3_follow 106 = .ok (.iinc 5 1, 3) := by decide +kernel
theorem dX3_follow_109 : decode cX3_follow 109 = .ok (.goto (-31), 3) := by decide +kernel
theorem dX3_follow_112 : decode cX3_follow 112 = .ok (.iinc 3 1, 3) := by decide +kernel
theorem dX3_follow_115 : decode cX3_follow 115 = .ok (.goto (-76), 3) := by decide +kernel
theorem dX3_follow_118 : decode cX3_follow 118 = .ok (.aload_n 0, 1) := by decide +kernel
theorem dX3_follow_119 : decode cX3_follow 119 = .ok (.getfield 28, 3) := by decide +kernel
theorem dX3_follow_122 : decode cX3_follow 122 = .ok (.iload_n 2, 1) := by decide +kernel
theorem dX3_follow_123 : decode cX3_follow 123 = .ok (.iconst 1, 1) := by decide +kernel
theorem dX3_follow_124 : decode cX3_follow 124 = .ok (.iadd, 1) := by decide +kernel
theorem dX3_follow_125 : decode cX3_follow 125 = .ok (.iaload, 1) := by decide +kernel
theorem dX3_follow_126 : decode cX3_follow 126 = .ok (.ifCond .ne 5, 3) := by decide +kernel
theorem dX3_follow_129 : decode cX3_follow 129 = .ok (.iconst 0, 1) := by decide +kernel
theorem dX3_follow_130 : decode cX3_follow 130 = .ok (.ireturn, 1) := by decide +kernel
theorem dX3_follow_131 : decode cX3_follow 131 = .ok (.iinc 2 1, 3) := by decide +kernel
theorem dX3_follow_134 : decode cX3_follow 134 = .ok (.goto (-128), 3) := by decide +kernel
theorem dX3_follow_137 : decode cX3_follow 137 = .ok (.aload_n 0, 1) := by decide +kernel
theorem dX3_follow_138 : decode cX3_follow 138 = .ok (.getfield 28, 3) := by decide +kernel
theorem dX3_follow_141 : decode cX3_follow 141 = .ok (.aload_n 0, 1) := by decide +kernel
theorem dX3_follow_142 : decode cX3_follow 142 = .ok (.getfield 18, 3) := by decide +kernel
theorem dX3_follow_145 : decode cX3_follow 145 = .ok (.iaload, 1) := by decide +kernel
theorem dX3_follow_146 : decode cX3_follow 146 = .ok (.ireturn, 1) := by decide +kernel
theorem dX3_show_0 : decode cX3_show 0 = .ok (.iconst 0, 1) := by decide +kernel
theorem dX3_show_1 : decode cX3_show 1 = .ok (.istore_n 3, 1) := by decide +kernel
theorem dX3_show_2 : decode cX3_show 2 = .ok (.iconst 0, 1) := by decide +kernel
theorem dX3_show_3 : decode cX3_show 3 = .ok (.istore 4, 2) := by decide +kernel
theorem dX3_show_5 : decode cX3_show 5 = .ok (.iload 4, 2) := by decide +kernel
theorem dX3_show_7 : decode cX3_show 7 = .ok (.aload_n 0, 1) := by decide +kernel
theorem dX3_show_8 : decode cX3_show 8 = .ok (.getfield 12, 3) := by decide +kernel
theorem dX3_show_11 : decode cX3_show 11 = .ok (.getfield 70, 3) := by decide +kernel
theorem dX3_show_14 : decode cX3_show 14 = .ok (.if_icmp .ge 51, 3) := by decide +kernel
theorem dX3_show_17 : decode cX3_show 17 = .ok (.iconst 0, 1) := by decide +kernel
theorem dX3_show_18 : decode cX3_show 18 = .ok (.istore 5, 2) := by decide +kernel
theorem dX3_show_20 : decode cX3_show 20 = .ok (.iload 5, 2) := by decide +kernel
theorem dX3_show_22 : decode cX3_show 22 = .ok (.aload_n 0, 1) := by decide +kernel
theorem dX3_show_23 : decode cX3_show 23 = .ok (.getfield 12, 3) := by decide +kernel
theorem dX3_show_26 : decode cX3_show 26 = .ok (.getfield 73, 3) := by decide +kernel
theorem dX3_show_29 : decode cX3_show 29 = .ok (.if_icmp .ge 30, 3) := by decide +kernel
theorem dX3_show_32 : decode cX3_show 32 = .ok (.aload_n 0, 1) := by decide +kernel
theorem dX3_show_33 : decode cX3_show 33 = .ok (.getfield 12, 3) := by decide +kernel
theorem dX3_show_36 : decode cX3_show 36 = .ok (.iload 5, 2) := by decide +kernel
theorem dX3_show_38 : decode cX3_show 38 = .ok (.iload 4, 2) := by decide +kernel
theorem dX3_show_40 : decode cX3_show 40 = .ok (.aload_n 0, 1) := by decide +kernel
theorem dX3_show_41 : decode cX3_show 41 = .ok (.iload_n 1, 1) := by decide +kernel
theorem dX3_show_42 : decode cX3_show 42 = .ok (.iload_n 2, 1) := by decide +kernel
theorem dX3_show_43 : decode cX3_show 43 = .ok (.iload_n 3, 1) := by decide +kernel
theorem dX3_show_44 : decode cX3_show 44 = .ok (.invokevirtual 124, 3) := by decide +kernel
theorem dX3_show_47 : decode cX3_show 47 = .ok (.invokevirtual 53, 3) := by decide +kernel
theorem dX3_show_50 : decode cX3_show 50 = .ok (.iinc 3 1, 3) := by decide +kernel
theorem dX3_show_53 : decode cX3_show 53 = .ok (.iinc 5 1, 3) := by decide +kernel
theorem dX3_show_56 : decode cX3_show 56 = .ok (.goto (-36), 3) := by decide +kernel
theorem dX3_show_59 : decode cX3_show 59 = .ok (.iinc 4 1, 3) := by decide +kernel
theorem dX3_show_62 : decode cX3_show 62 = .ok (.goto (-57), 3) := by decide +kernel
theorem dX3_show_65 : decode cX3_show 65 = .ok (.return_, 1) := by decide +kernel
theorem dX3_positionCount_0 : decode cX3_positionCount 0 = .ok (.aload_n 0, 1) := by decide +kernel
theorem dX3_positionCount_1 : decode cX3_positionCount 1 = .ok (.getfield 28, 3) := by decide +kernel
theorem dX3_positionCount_4 : decode cX3_positionCount 4 = .ok (.aload_n 0, 1) := by decide +kernel
theorem dX3_positionCount_5 : decode cX3_positionCount 5 = .ok (.getfield 18, 3) := by decide +kernel
theorem dX3_positionCount_8 : decode cX3_positionCount 8 = .ok (.iaload, 1) := by decide +kernel
theorem dX3_positionCount_9 : decode cX3_positionCount 9 = .ok (.ireturn, 1) := by decide +kernel
theorem dX3_contentAt_0 : decode cX3_contentAt 0 = .ok (.aload_n 0, 1) := by decide +kernel
theorem dX3_contentAt_1 : decode cX3_contentAt 1 = .ok (.aload_n 0, 1) := by decide +kernel
theorem dX3_contentAt_2 : decode cX3_contentAt 2 = .ok (.getfield 18, 3) := by decide +kernel
theorem dX3_contentAt_5 : decode cX3_contentAt 5 = .ok (.iload_n 1, 1) := by decide +kernel
theorem dX3_contentAt_6 : decode cX3_contentAt 6 = .ok (.iload_n 2, 1) := by decide +kernel
theorem dX3_contentAt_7 : decode cX3_contentAt 7 = .ok (.invokevirtual 124, 3) := by decide +kernel
theorem dX3_contentAt_10 : decode cX3_contentAt 10 = .ok (.ireturn, 1) := by decide +kernel
theorem dX3_gamesToLast_0 : decode cX3_gamesToLast 0 = .ok (.aload_n 0, 1) := by decide +kernel
theorem dX3_gamesToLast_1 : decode cX3_gamesToLast 1 = .ok (.aload_n 0, 1) := by decide +kernel
theorem dX3_gamesToLast_2 : decode cX3_gamesToLast 2 = .ok (.getfield 18, 3) := by decide +kernel
theorem dX3_gamesToLast_5 : decode cX3_gamesToLast 5 = .ok (.iload_n 1, 1) := by decide +kernel
theorem dX3_gamesToLast_6 : decode cX3_gamesToLast 6 = .ok (.invokevirtual 128, 3) := by decide +kernel
theorem dX3_gamesToLast_9 : decode cX3_gamesToLast 9 = .ok (.lreturn, 1) := by decide +kernel
theorem dX3_gamesAt_0 : decode cX3_gamesAt 0 = .ok (.iload_n 1, 1) := by decide +kernel
theorem dX3_gamesAt_1 : decode cX3_gamesAt 1 = .ok (.iload_n 2, 1) := by decide +kernel
theorem dX3_gamesAt_2 : decode cX3_gamesAt 2 = .ok (.invokestatic 132, 3) := by decide +kernel
theorem dX3_gamesAt_5 : decode cX3_gamesAt 5 = .ok (.istore_n 3, 1) := by decide +kernel
theorem dX3_gamesAt_6 : decode cX3_gamesAt 6 = .ok (.iload_n 3, 1) := by decide +kernel
theorem dX3_gamesAt_7 : decode cX3_gamesAt 7 = .ok (.iconst (-1), 1) := by decide +kernel
theorem dX3_gamesAt_8 : decode cX3_gamesAt 8 = .ok (.if_icmp .ne 7, 3) := by decide +kernel
theorem dX3_gamesAt_11 : decode cX3_gamesAt 11 = .ok (.lconst 0, 1) := by decide +kernel
theorem dX3_gamesAt_12 : decode cX3_gamesAt 12 = .ok (.goto 9, 3) := by decide +kernel
theorem dX3_gamesAt_15 : decode cX3_gamesAt 15 = .ok (.aload_n 0, 1) := by decide +kernel
theorem dX3_gamesAt_16 : decode cX3_gamesAt 16 = .ok (.getfield 32, 3) := by decide +kernel
theorem dX3_gamesAt_19 : decode cX3_gamesAt 19 = .ok (.iload_n 3, 1) := by decide +kernel
theorem dX3_gamesAt_20 : decode cX3_gamesAt 20 = .ok (.laload, 1) := by decide +kernel
theorem dX3_gamesAt_21 : decode cX3_gamesAt 21 = .ok (.lreturn, 1) := by decide +kernel
theorem dX3_gameTotal_0 : decode cX3_gameTotal 0 = .ok (.lconst 0, 1) := by decide +kernel
theorem dX3_gameTotal_1 : decode cX3_gameTotal 1 = .ok (.lstore_n 1, 1) := by decide +kernel
theorem dX3_gameTotal_2 : decode cX3_gameTotal 2 = .ok (.iconst 0, 1) := by decide +kernel
theorem dX3_gameTotal_3 : decode cX3_gameTotal 3 = .ok (.istore_n 3, 1) := by decide +kernel
theorem dX3_gameTotal_4 : decode cX3_gameTotal 4 = .ok (.iload_n 3, 1) := by decide +kernel
theorem dX3_gameTotal_5 : decode cX3_gameTotal 5 = .ok (.aload_n 0, 1) := by decide +kernel
theorem dX3_gameTotal_6 : decode cX3_gameTotal 6 = .ok (.getfield 28, 3) := by decide +kernel
theorem dX3_gameTotal_9 : decode cX3_gameTotal 9 = .ok (.aload_n 0, 1) := by decide +kernel
theorem dX3_gameTotal_10 : decode cX3_gameTotal 10 = .ok (.getfield 18, 3) := by decide +kernel
theorem dX3_gameTotal_13 : decode cX3_gameTotal 13 = .ok (.iaload, 1) := by decide +kernel
theorem dX3_gameTotal_14 : decode cX3_gameTotal 14 = .ok (.if_icmp .ge 17, 3) := by decide +kernel
theorem dX3_gameTotal_17 : decode cX3_gameTotal 17 = .ok (.lload_n 1, 1) := by decide +kernel
theorem dX3_gameTotal_18 : decode cX3_gameTotal 18 = .ok (.aload_n 0, 1) := by decide +kernel
theorem dX3_gameTotal_19 : decode cX3_gameTotal 19 = .ok (.iload_n 3, 1) := by decide +kernel
theorem dX3_gameTotal_20 : decode cX3_gameTotal 20 = .ok (.invokevirtual 135, 3) := by decide +kernel
theorem dX3_gameTotal_23 : decode cX3_gameTotal 23 = .ok (.ladd, 1) := by decide +kernel
theorem dX3_gameTotal_24 : decode cX3_gameTotal 24 = .ok (.lstore_n 1, 1) := by decide +kernel
theorem dX3_gameTotal_25 : decode cX3_gameTotal 25 = .ok (.iinc 3 1, 3) := by decide +kernel
theorem dX3_gameTotal_28 : decode cX3_gameTotal 28 = .ok (.goto (-24), 3) := by decide +kernel
theorem dX3_gameTotal_31 : decode cX3_gameTotal 31 = .ok (.lload_n 1, 1) := by decide +kernel
theorem dX3_gameTotal_32 : decode cX3_gameTotal 32 = .ok (.lreturn, 1) := by decide +kernel
theorem dX3_read_0 : decode cX3_read 0 = .ok (.iload_n 1, 1) := by decide +kernel
theorem dX3_read_1 : decode cX3_read 1 = .ok (.iload_n 2, 1) := by decide +kernel
theorem dX3_read_2 : decode cX3_read 2 = .ok (.invokestatic 132, 3) := by decide +kernel
theorem dX3_read_5 : decode cX3_read 5 = .ok (.istore 4, 2) := by decide +kernel
theorem dX3_read_7 : decode cX3_read 7 = .ok (.iload_n 3, 1) := by decide +kernel
theorem dX3_read_8 : decode cX3_read 8 = .ok (.iconst 4, 1) := by decide +kernel
theorem dX3_read_9 : decode cX3_read 9 = .ok (.ishr, 1) := by decide +kernel
theorem dX3_read_10 : decode cX3_read 10 = .ok (.istore 5, 2) := by decide +kernel
theorem dX3_read_12 : decode cX3_read 12 = .ok (.iload 4, 2) := by decide +kernel
theorem dX3_read_14 : decode cX3_read 14 = .ok (.iconst (-1), 1) := by decide +kernel
theorem dX3_read_15 : decode cX3_read 15 = .ok (.if_icmp .eq 14, 3) := by decide +kernel
theorem dX3_read_18 : decode cX3_read 18 = .ok (.iload 5, 2) := by decide +kernel
theorem dX3_read_20 : decode cX3_read 20 = .ok (.ifCond .lt 9, 3) := by decide +kernel
theorem dX3_read_23 : decode cX3_read 23 = .ok (.iload 5, 2) := by decide +kernel
theorem dX3_read_25 : decode cX3_read 25 = .ok (.iconst 3, 1) := by decide +kernel
theorem dX3_read_26 : decode cX3_read 26 = .ok (.if_icmp .lt 5, 3) := by decide +kernel
theorem dX3_read_29 : decode cX3_read 29 = .ok (.iconst 0, 1) := by decide +kernel
theorem dX3_read_30 : decode cX3_read 30 = .ok (.ireturn, 1) := by decide +kernel
theorem dX3_read_31 : decode cX3_read 31 = .ok (.aload_n 0, 1) := by decide +kernel
theorem dX3_read_32 : decode cX3_read 32 = .ok (.getfield 36, 3) := by decide +kernel
theorem dX3_read_35 : decode cX3_read 35 = .ok (.iload 4, 2) := by decide +kernel
theorem dX3_read_37 : decode cX3_read 37 = .ok (.iconst 3, 1) := by decide +kernel
theorem dX3_read_38 : decode cX3_read 38 = .ok (.imul, 1) := by decide +kernel
theorem dX3_read_39 : decode cX3_read 39 = .ok (.iload 5, 2) := by decide +kernel
theorem dX3_read_41 : decode cX3_read 41 = .ok (.iadd, 1) := by decide +kernel
theorem dX3_read_42 : decode cX3_read 42 = .ok (.laload, 1) := by decide +kernel
theorem dX3_read_43 : decode cX3_read 43 = .ok (.iload_n 3, 1) := by decide +kernel
theorem dX3_read_44 : decode cX3_read 44 = .ok (.invokestatic 142, 3) := by decide +kernel
theorem dX3_read_47 : decode cX3_read 47 = .ok (.lushr, 1) := by decide +kernel
theorem dX3_read_48 : decode cX3_read 48 = .ok (.ldc2_w 145, 3) := by decide +kernel
theorem dX3_read_51 : decode cX3_read 51 = .ok (.land, 1) := by decide +kernel
theorem dX3_read_52 : decode cX3_read 52 = .ok (.l2i, 1) := by decide +kernel
theorem dX3_read_53 : decode cX3_read 53 = .ok (.ireturn, 1) := by decide +kernel
theorem dX3_shiftOf_0 : decode cX3_shiftOf 0 = .ok (.iload_n 0, 1) := by decide +kernel
theorem dX3_shiftOf_1 : decode cX3_shiftOf 1 = .ok (.bipush 15, 2) := by decide +kernel
theorem dX3_shiftOf_3 : decode cX3_shiftOf 3 = .ok (.iand, 1) := by decide +kernel
theorem dX3_shiftOf_4 : decode cX3_shiftOf 4 = .ok (.iconst 2, 1) := by decide +kernel
theorem dX3_shiftOf_5 : decode cX3_shiftOf 5 = .ok (.ishl, 1) := by decide +kernel
theorem dX3_shiftOf_6 : decode cX3_shiftOf 6 = .ok (.ireturn, 1) := by decide +kernel
theorem dX3_setReached_0 : decode cX3_setReached 0 = .ok (.iload_n 1, 1) := by decide +kernel
theorem dX3_setReached_1 : decode cX3_setReached 1 = .ok (.iconst 4, 1) := by decide +kernel
theorem dX3_setReached_2 : decode cX3_setReached 2 = .ok (.ishr, 1) := by decide +kernel
theorem dX3_setReached_3 : decode cX3_setReached 3 = .ok (.istore_n 3, 1) := by decide +kernel
theorem dX3_setReached_4 : decode cX3_setReached 4 = .ok (.iload_n 3, 1) := by decide +kernel
theorem dX3_setReached_5 : decode cX3_setReached 5 = .ok (.ifCond .lt 8, 3) := by decide +kernel
theorem dX3_setReached_8 : decode cX3_setReached 8 = .ok (.iload_n 3, 1) := by decide +kernel
theorem dX3_setReached_9 : decode cX3_setReached 9 = .ok (.iconst 3, 1) := by decide +kernel
theorem dX3_setReached_10 : decode cX3_setReached 10 = .ok (.if_icmp .lt 4, 3) := by decide +kernel
theorem dX3_setReached_13 : decode cX3_setReached 13 = .ok (.return_, 1) := by decide +kernel
theorem dX3_setReached_14 : decode cX3_setReached 14 = .ok (.iload_n 1, 1) := by decide +kernel
theorem dX3_setReached_15 : decode cX3_setReached 15 = .ok (.invokestatic 142, 3) := by decide +kernel
theorem dX3_setReached_18 : decode cX3_setReached 18 = .ok (.istore 4, 2) := by decide +kernel
theorem dX3_setReached_20 : decode cX3_setReached 20 = .ok (.aload_n 0, 1) := by decide +kernel
theorem dX3_setReached_21 : decode cX3_setReached 21 = .ok (.getfield 39, 3) := by decide +kernel
theorem dX3_setReached_24 : decode cX3_setReached 24 = .ok (.iload_n 3, 1) := by decide +kernel
theorem dX3_setReached_25 : decode cX3_setReached 25 = .ok (.aload_n 0, 1) := by decide +kernel
theorem dX3_setReached_26 : decode cX3_setReached 26 = .ok (.getfield 39, 3) := by decide +kernel
theorem dX3_setReached_29 : decode cX3_setReached 29 = .ok (.iload_n 3, 1) := by decide +kernel
theorem dX3_setReached_30 : decode cX3_setReached 30 = .ok (.laload, 1) := by decide +kernel
theorem dX3_setReached_31 : decode cX3_setReached 31 = .ok (.ldc2_w 145, 3) := by decide +kernel
theorem dX3_setReached_34 : decode cX3_setReached 34 = .ok (.iload 4, 2) := by decide +kernel
theorem dX3_setReached_36 : decode cX3_setReached 36 = .ok (.lshl, 1) := by decide +kernel
theorem dX3_setReached_37 : decode cX3_setReached 37 = .ok (.ldc2_w 147, 3) := by decide +kernel
theorem dX3_setReached_40 : decode cX3_setReached 40 = .ok (.lxor, 1) := by decide +kernel
theorem dX3_setReached_41 : decode cX3_setReached 41 = .ok (.land, 1) := by decide +kernel
theorem dX3_setReached_42 : decode cX3_setReached 42 = .ok (.iload_n 2, 1) := by decide +kernel
theorem dX3_setReached_43 : decode cX3_setReached 43 = .ok (.i2l, 1) := by decide +kernel
theorem dX3_setReached_44 : decode cX3_setReached 44 = .ok (.iload 4, 2) := by decide +kernel
theorem dX3_setReached_46 : decode cX3_setReached 46 = .ok (.lshl, 1) := by decide +kernel
theorem dX3_setReached_47 : decode cX3_setReached 47 = .ok (.lor, 1) := by decide +kernel
theorem dX3_setReached_48 : decode cX3_setReached 48 = .ok (.lastore, 1) := by decide +kernel
theorem dX3_setReached_49 : decode cX3_setReached 49 = .ok (.return_, 1) := by decide +kernel
theorem dX3_makeMove_0 : decode cX3_makeMove 0 = .ok (.iload_n 1, 1) := by decide +kernel
theorem dX3_makeMove_1 : decode cX3_makeMove 1 = .ok (.iload_n 2, 1) := by decide +kernel
theorem dX3_makeMove_2 : decode cX3_makeMove 2 = .ok (.invokestatic 132, 3) := by decide +kernel
theorem dX3_makeMove_5 : decode cX3_makeMove 5 = .ok (.istore 4, 2) := by decide +kernel
theorem dX3_makeMove_7 : decode cX3_makeMove 7 = .ok (.iload 4, 2) := by decide +kernel
theorem dX3_makeMove_9 : decode cX3_makeMove 9 = .ok (.iconst (-1), 1) := by decide +kernel
theorem dX3_makeMove_10 : decode cX3_makeMove 10 = .ok (.if_icmp .ne 5, 3) := by decide +kernel
theorem dX3_makeMove_13 : decode cX3_makeMove 13 = .ok (.iconst 0, 1) := by decide +kernel
theorem dX3_makeMove_14 : decode cX3_makeMove 14 = .ok (.ireturn, 1) := by decide +kernel
theorem dX3_makeMove_15 : decode cX3_makeMove 15 = .ok (.iload_n 3, 1) := by decide +kernel
theorem dX3_makeMove_16 : decode cX3_makeMove 16 = .ok (.bipush 6, 2) := by decide +kernel
theorem dX3_makeMove_18 : decode cX3_makeMove 18 = .ok (.ishr, 1) := by decide +kernel
theorem dX3_makeMove_19 : decode cX3_makeMove 19 = .ok (.istore 5, 2) := by decide +kernel
theorem dX3_makeMove_21 : decode cX3_makeMove 21 = .ok (.aload_n 0, 1) := by decide +kernel
theorem dX3_makeMove_22 : decode cX3_makeMove 22 = .ok (.getfield 36, 3) := by decide +kernel
theorem dX3_makeMove_25 : decode cX3_makeMove 25 = .ok (.iload 4, 2) := by decide +kernel
theorem dX3_makeMove_27 : decode cX3_makeMove 27 = .ok (.iconst 3, 1) := by decide +kernel
theorem dX3_makeMove_28 : decode cX3_makeMove 28 = .ok (.imul, 1) := by decide +kernel
theorem dX3_makeMove_29 : decode cX3_makeMove 29 = .ok (.aload_n 0, 1) := by decide +kernel
theorem dX3_makeMove_30 : decode cX3_makeMove 30 = .ok (.getfield 39, 3) := by decide +kernel
theorem dX3_makeMove_33 : decode cX3_makeMove 33 = .ok (.iconst 0, 1) := by decide +kernel
theorem dX3_makeMove_34 : decode cX3_makeMove 34 = .ok (.iconst 3, 1) := by decide +kernel
theorem dX3_makeMove_35 : decode cX3_makeMove 35 = .ok (.invokestatic 85, 3) := by decide +kernel
theorem dX3_makeMove_38 : decode cX3_makeMove 38 = .ok (.aload_n 0, 1) := by decide +kernel
theorem dX3_makeMove_39 : decode cX3_makeMove 39 = .ok (.iload_n 3, 1) := by decide +kernel
theorem dX3_makeMove_40 : decode cX3_makeMove 40 = .ok (.bipush 63, 2) := by decide +kernel
theorem dX3_makeMove_42 : decode cX3_makeMove 42 = .ok (.iand, 1) := by decide +kernel
theorem dX3_makeMove_43 : decode cX3_makeMove 43 = .ok (.aload_n 0, 1) := by decide +kernel
theorem dX3_makeMove_44 : decode cX3_makeMove 44 = .ok (.iload_n 1, 1) := by decide +kernel
theorem dX3_makeMove_45 : decode cX3_makeMove 45 = .ok (.iload_n 2, 1) := by decide +kernel
theorem dX3_makeMove_46 : decode cX3_makeMove 46 = .ok (.iload 5, 2) := by decide +kernel
theorem dX3_makeMove_48 : decode cX3_makeMove 48 = .ok (.invokevirtual 124, 3) := by decide +kernel
theorem dX3_makeMove_51 : decode cX3_makeMove 51 = .ok (.invokevirtual 82, 3) := by decide +kernel
theorem dX3_makeMove_54 : decode cX3_makeMove 54 = .ok (.aload_n 0, 1) := by decide +kernel
theorem dX3_makeMove_55 : decode cX3_makeMove 55 = .ok (.iload 5, 2) := by decide +kernel
theorem dX3_makeMove_57 : decode cX3_makeMove 57 = .ok (.iconst 0, 1) := by decide +kernel
theorem dX3_makeMove_58 : decode cX3_makeMove 58 = .ok (.invokevirtual 82, 3) := by decide +kernel
theorem dX3_makeMove_61 : decode cX3_makeMove 61 = .ok (.aload_n 0, 1) := by decide +kernel
theorem dX3_makeMove_62 : decode cX3_makeMove 62 = .ok (.iload_n 1, 1) := by decide +kernel
theorem dX3_makeMove_63 : decode cX3_makeMove 63 = .ok (.iconst 1, 1) := by decide +kernel
theorem dX3_makeMove_64 : decode cX3_makeMove 64 = .ok (.iadd, 1) := by decide +kernel
theorem dX3_makeMove_65 : decode cX3_makeMove 65 = .ok (.invokevirtual 149, 3) := by decide +kernel
theorem dX3_makeMove_68 : decode cX3_makeMove 68 = .ok (.istore 6, 2) := by decide +kernel
theorem dX3_makeMove_70 : decode cX3_makeMove 70 = .ok (.iload_n 1, 1) := by decide +kernel
theorem dX3_makeMove_71 : decode cX3_makeMove 71 = .ok (.iconst 1, 1) := by decide +kernel
theorem dX3_makeMove_72 : decode cX3_makeMove 72 = .ok (.iadd, 1) := by decide +kernel
theorem dX3_makeMove_73 : decode cX3_makeMove 73 = .ok (.iload 6, 2) := by decide +kernel
theorem dX3_makeMove_75 : decode cX3_makeMove 75 = .ok (.invokestatic 132, 3) := by decide +kernel
theorem dX3_makeMove_78 : decode cX3_makeMove 78 = .ok (.istore 7, 2) := by decide +kernel
theorem dX3_makeMove_80 : decode cX3_makeMove 80 = .ok (.iload 7, 2) := by decide +kernel
theorem dX3_makeMove_82 : decode cX3_makeMove 82 = .ok (.iconst (-1), 1) := by decide +kernel
theorem dX3_makeMove_83 : decode cX3_makeMove 83 = .ok (.if_icmp .ne 5, 3) := by decide +kernel
theorem dX3_makeMove_86 : decode cX3_makeMove 86 = .ok (.iconst 0, 1) := by decide +kernel
theorem dX3_makeMove_87 : decode cX3_makeMove 87 = .ok (.ireturn, 1) := by decide +kernel
theorem dX3_makeMove_88 : decode cX3_makeMove 88 = .ok (.aload_n 0, 1) := by decide +kernel
theorem dX3_makeMove_89 : decode cX3_makeMove 89 = .ok (.getfield 32, 3) := by decide +kernel
theorem dX3_makeMove_92 : decode cX3_makeMove 92 = .ok (.iload 7, 2) := by decide +kernel
theorem dX3_makeMove_94 : decode cX3_makeMove 94 = .ok (.dup2, 1) := by decide +kernel
theorem dX3_makeMove_95 : decode cX3_makeMove 95 = .ok (.laload, 1) := by decide +kernel
theorem dX3_makeMove_96 : decode cX3_makeMove 96 = .ok (.aload_n 0, 1) := by decide +kernel
theorem dX3_makeMove_97 : decode cX3_makeMove 97 = .ok (.getfield 32, 3) := by decide +kernel
theorem dX3_makeMove_100 : decode cX3_makeMove 100 = .ok (.iload 4, 2) := by decide +kernel
theorem dX3_makeMove_102 : decode cX3_makeMove 102 = .ok (.laload, 1) := by decide +kernel
theorem dX3_makeMove_103 : decode cX3_makeMove 103 = .ok (.ladd, 1) := by decide +kernel
theorem dX3_makeMove_104 : decode cX3_makeMove 104 = .ok (.lastore, 1) := by decide +kernel
theorem dX3_makeMove_105 : decode cX3_makeMove 105 = .ok (.aload_n 0, 1) := by decide +kernel
theorem dX3_makeMove_106 : decode cX3_makeMove 106 = .ok (.iload_n 1, 1) := by decide +kernel
theorem dX3_makeMove_107 : decode cX3_makeMove 107 = .ok (.iload 6, 2) := by decide +kernel
theorem dX3_makeMove_109 : decode cX3_makeMove 109 = .ok (.bipush 6, 2) := by decide +kernel
theorem dX3_makeMove_111 : decode cX3_makeMove 111 = .ok (.ishl, 1) := by decide +kernel
theorem dX3_makeMove_112 : decode cX3_makeMove 112 = .ok (.iload_n 2, 1) := by decide +kernel
theorem dX3_makeMove_113 : decode cX3_makeMove 113 = .ok (.ior, 1) := by decide +kernel
theorem dX3_makeMove_114 : decode cX3_makeMove 114 = .ok (.bipush 12, 2) := by decide +kernel
theorem dX3_makeMove_116 : decode cX3_makeMove 116 = .ok (.ishl, 1) := by decide +kernel
theorem dX3_makeMove_117 : decode cX3_makeMove 117 = .ok (.iload_n 3, 1) := by decide +kernel
theorem dX3_makeMove_118 : decode cX3_makeMove 118 = .ok (.ior, 1) := by decide +kernel
theorem dX3_makeMove_119 : decode cX3_makeMove 119 = .ok (.invokevirtual 152, 3) := by decide +kernel
theorem dX3_makeMove_122 : decode cX3_makeMove 122 = .ok (.iconst 1, 1) := by decide +kernel
theorem dX3_makeMove_123 : decode cX3_makeMove 123 = .ok (.ireturn, 1) := by decide +kernel
theorem dX3_findReached_0 : decode cX3_findReached 0 = .ok (.iload_n 1, 1) := by decide +kernel
theorem dX3_findReached_1 : decode cX3_findReached 1 = .ok (.ifCond .lt 9, 3) := by decide +kernel
theorem dX3_findReached_4 : decode cX3_findReached 4 = .ok (.iload_n 1, 1) := by decide +kernel
theorem dX3_findReached_5 : decode cX3_findReached 5 = .ok (.bipush 11, 2) := by decide +kernel
theorem dX3_findReached_7 : decode cX3_findReached 7 = .ok (.if_icmp .lt 5, 3) := by decide +kernel
theorem dX3_findReached_10 : decode cX3_findReached 10 = .ok (.iconst (-1), 1) := by decide +kernel
theorem dX3_findReached_11 : decode cX3_findReached 11 = .ok (.ireturn, 1) := by decide +kernel
theorem dX3_findReached_12 : decode cX3_findReached 12 = .ok (.aload_n 0, 1) := by decide +kernel
theorem dX3_findReached_13 : decode cX3_findReached 13 = .ok (.getfield 28, 3) := by decide +kernel
theorem dX3_findReached_16 : decode cX3_findReached 16 = .ok (.iload_n 1, 1) := by decide +kernel
theorem dX3_findReached_17 : decode cX3_findReached 17 = .ok (.iaload, 1) := by decide +kernel
theorem dX3_findReached_18 : decode cX3_findReached 18 = .ok (.istore_n 2, 1) := by decide +kernel
theorem dX3_findReached_19 : decode cX3_findReached 19 = .ok (.iload_n 1, 1) := by decide +kernel
theorem dX3_findReached_20 : decode cX3_findReached 20 = .ok (.bipush 40, 2) := by decide +kernel
theorem dX3_findReached_22 : decode cX3_findReached 22 = .ok (.imul, 1) := by decide +kernel
theorem dX3_findReached_23 : decode cX3_findReached 23 = .ok (.iconst 3, 1) := by decide +kernel
theorem dX3_findReached_24 : decode cX3_findReached 24 = .ok (.imul, 1) := by decide +kernel
theorem dX3_findReached_25 : decode cX3_findReached 25 = .ok (.istore_n 3, 1) := by decide +kernel
theorem dX3_findReached_26 : decode cX3_findReached 26 = .ok (.iconst 0, 1) := by decide +kernel
theorem dX3_findReached_27 : decode cX3_findReached 27 = .ok (.istore 4, 2) := by decide +kernel
theorem dX3_findReached_29 : decode cX3_findReached 29 = .ok (.iload 4, 2) := by decide +kernel
theorem dX3_findReached_31 : decode cX3_findReached 31 = .ok (.iload_n 2, 1) := by decide +kernel
theorem dX3_findReached_32 : decode cX3_findReached 32 = .ok (.if_icmp .ge 67, 3) := by decide +kernel
theorem dX3_findReached_35 : decode cX3_findReached 35 = .ok (.aload_n 0, 1) := by decide +kernel
theorem dX3_findReached_36 : decode cX3_findReached 36 = .ok (.getfield 36, 3) := by decide +kernel
theorem dX3_findReached_39 : decode cX3_findReached 39 = .ok (.iload_n 3, 1) := by decide +kernel
theorem dX3_findReached_40 : decode cX3_findReached 40 = .ok (.laload, 1) := by decide +kernel
theorem dX3_findReached_41 : decode cX3_findReached 41 = .ok (.aload_n 0, 1) := by decide +kernel
theorem dX3_findReached_42 : decode cX3_findReached 42 = .ok (.getfield 39, 3) := by decide +kernel
theorem dX3_findReached_45 : decode cX3_findReached 45 = .ok (.iconst 0, 1) := by decide +kernel
theorem dX3_findReached_46 : decode cX3_findReached 46 = .ok (.laload, 1) := by decide +kernel
theorem dX3_findReached_47 : decode cX3_findReached 47 = .ok (.lcmp, 1) := by decide +kernel
theorem dX3_findReached_48 : decode cX3_findReached 48 = .ok (.ifCond .ne 42, 3) := by decide +kernel
theorem dX3_findReached_51 : decode cX3_findReached 51 = .ok (.aload_n 0, 1) := by decide +kernel
theorem dX3_findReached_52 : decode cX3_findReached 52 = .ok (.getfield 36, 3) := by decide +kernel
theorem dX3_findReached_55 : decode cX3_findReached 55 = .ok (.iload_n 3, 1) := by decide +kernel
theorem dX3_findReached_56 : decode cX3_findReached 56 = .ok (.iconst 1, 1) := by decide +kernel
theorem dX3_findReached_57 : decode cX3_findReached 57 = .ok (.iadd, 1) := by decide +kernel
theorem dX3_findReached_58 : decode cX3_findReached 58 = .ok (.laload, 1) := by decide +kernel
theorem dX3_findReached_59 : decode cX3_findReached 59 = .ok (.aload_n 0, 1) := by decide +kernel
theorem dX3_findReached_60 : decode cX3_findReached 60 = .ok (.getfield 39, 3) := by decide +kernel
theorem dX3_findReached_63 : decode cX3_findReached 63 = .ok (.iconst 1, 1) := by decide +kernel
theorem dX3_findReached_64 : decode cX3_findReached 64 = .ok (.laload, 1) := by decide +kernel
theorem dX3_findReached_65 : decode cX3_findReached 65 = .ok (.lcmp, 1) := by decide +kernel
theorem dX3_findReached_66 : decode cX3_findReached 66 = .ok (.ifCond .ne 24, 3) := by decide +kernel
theorem dX3_findReached_69 : decode cX3_findReached 69 = .ok (.aload_n 0, 1) := by decide +kernel
theorem dX3_findReached_70 : decode cX3_findReached 70 = .ok (.getfield 36, 3) := by decide +kernel
theorem dX3_findReached_73 : decode cX3_findReached 73 = .ok (.iload_n 3, 1) := by decide +kernel
theorem dX3_findReached_74 : decode cX3_findReached 74 = .ok (.iconst 2, 1) := by decide +kernel
theorem dX3_findReached_75 : decode cX3_findReached 75 = .ok (.iadd, 1) := by decide +kernel
theorem dX3_findReached_76 : decode cX3_findReached 76 = .ok (.laload, 1) := by decide +kernel
theorem dX3_findReached_77 : decode cX3_findReached 77 = .ok (.aload_n 0, 1) := by decide +kernel
theorem dX3_findReached_78 : decode cX3_findReached 78 = .ok (.getfield 39, 3) := by decide +kernel
theorem dX3_findReached_81 : decode cX3_findReached 81 = .ok (.iconst 2, 1) := by decide +kernel
theorem dX3_findReached_82 : decode cX3_findReached 82 = .ok (.laload, 1) := by decide +kernel
theorem dX3_findReached_83 : decode cX3_findReached 83 = .ok (.lcmp, 1) := by decide +kernel
theorem dX3_findReached_84 : decode cX3_findReached 84 = .ok (.ifCond .ne 6, 3) := by decide +kernel
theorem dX3_findReached_87 : decode cX3_findReached 87 = .ok (.iload 4, 2) := by decide +kernel
theorem dX3_findReached_89 : decode cX3_findReached 89 = .ok (.ireturn, 1) := by decide +kernel
theorem dX3_findReached_90 : decode cX3_findReached 90 = .ok (.iinc 3 3, 3) := by decide +kernel
theorem dX3_findReached_93 : decode cX3_findReached 93 = .ok (.iinc 4 1, 3) := by decide +kernel
theorem dX3_findReached_96 : decode cX3_findReached 96 = .ok (.goto (-67), 3) := by decide +kernel
theorem dX3_findReached_99 : decode cX3_findReached 99 = .ok (.iload_n 2, 1) := by decide +kernel
theorem dX3_findReached_100 : decode cX3_findReached 100 = .ok (.bipush 40, 2) := by decide +kernel
theorem dX3_findReached_102 : decode cX3_findReached 102 = .ok (.if_icmp .lt 5, 3) := by decide +kernel
theorem dX3_findReached_105 : decode cX3_findReached 105 = .ok (.iconst (-1), 1) := by decide +kernel
theorem dX3_findReached_106 : decode cX3_findReached 106 = .ok (.ireturn, 1) := by decide +kernel
theorem dX3_findReached_107 : decode cX3_findReached 107 = .ok (.aload_n 0, 1) := by decide +kernel
theorem dX3_findReached_108 : decode cX3_findReached 108 = .ok (.getfield 39, 3) := by decide +kernel
theorem dX3_findReached_111 : decode cX3_findReached 111 = .ok (.iconst 0, 1) := by decide +kernel
theorem dX3_findReached_112 : decode cX3_findReached 112 = .ok (.aload_n 0, 1) := by decide +kernel
theorem dX3_findReached_113 : decode cX3_findReached 113 = .ok (.getfield 36, 3) := by decide +kernel
theorem dX3_findReached_116 : decode cX3_findReached 116 = .ok (.iload_n 3, 1) := by decide +kernel
theorem dX3_findReached_117 : decode cX3_findReached 117 = .ok (.iconst 3, 1) := by decide +kernel
theorem dX3_findReached_118 : decode cX3_findReached 118 = .ok (.invokestatic 85, 3) := by decide +kernel
theorem dX3_findReached_121 : decode cX3_findReached 121 = .ok (.aload_n 0, 1) := by decide +kernel
theorem dX3_findReached_122 : decode cX3_findReached 122 = .ok (.getfield 32, 3) := by decide +kernel
theorem dX3_findReached_125 : decode cX3_findReached 125 = .ok (.iload_n 1, 1) := by decide +kernel
theorem dX3_findReached_126 : decode cX3_findReached 126 = .ok (.bipush 40, 2) := by decide +kernel
theorem dX3_findReached_128 : decode cX3_findReached 128 = .ok (.imul, 1) := by decide +kernel
theorem dX3_findReached_129 : decode cX3_findReached 129 = .ok (.iload_n 2, 1) := by decide +kernel
theorem dX3_findReached_130 : decode cX3_findReached 130 = .ok (.iadd, 1) := by decide +kernel
theorem dX3_findReached_131 : decode cX3_findReached 131 = .ok (.lconst 0, 1) := by decide +kernel
theorem dX3_findReached_132 : decode cX3_findReached 132 = .ok (.lastore, 1) := by decide +kernel
theorem dX3_findReached_133 : decode cX3_findReached 133 = .ok (.aload_n 0, 1) := by decide +kernel
theorem dX3_findReached_134 : decode cX3_findReached 134 = .ok (.getfield 28, 3) := by decide +kernel
theorem dX3_findReached_137 : decode cX3_findReached 137 = .ok (.iload_n 1, 1) := by decide +kernel
theorem dX3_findReached_138 : decode cX3_findReached 138 = .ok (.iload_n 2, 1) := by decide +kernel
theorem dX3_findReached_139 : decode cX3_findReached 139 = .ok (.iconst 1, 1) := by decide +kernel
theorem dX3_findReached_140 : decode cX3_findReached 140 = .ok (.iadd, 1) := by decide +kernel
theorem dX3_findReached_141 : decode cX3_findReached 141 = .ok (.iastore, 1) := by decide +kernel
theorem dX3_findReached_142 : decode cX3_findReached 142 = .ok (.iload_n 2, 1) := by decide +kernel
theorem dX3_findReached_143 : decode cX3_findReached 143 = .ok (.ireturn, 1) := by decide +kernel
theorem dX3_addLink_0 : decode cX3_addLink 0 = .ok (.aload_n 0, 1) := by decide +kernel
theorem dX3_addLink_1 : decode cX3_addLink 1 = .ok (.getfield 42, 3) := by decide +kernel
theorem dX3_addLink_4 : decode cX3_addLink 4 = .ok (.iload_n 1, 1) := by decide +kernel
theorem dX3_addLink_5 : decode cX3_addLink 5 = .ok (.iconst 1, 1) := by decide +kernel
theorem dX3_addLink_6 : decode cX3_addLink 6 = .ok (.iadd, 1) := by decide +kernel
theorem dX3_addLink_7 : decode cX3_addLink 7 = .ok (.iaload, 1) := by decide +kernel
theorem dX3_addLink_8 : decode cX3_addLink 8 = .ok (.istore_n 3, 1) := by decide +kernel
theorem dX3_addLink_9 : decode cX3_addLink 9 = .ok (.iload_n 3, 1) := by decide +kernel
theorem dX3_addLink_10 : decode cX3_addLink 10 = .ok (.aload_n 0, 1) := by decide +kernel
theorem dX3_addLink_11 : decode cX3_addLink 11 = .ok (.getfield 45, 3) := by decide +kernel
theorem dX3_addLink_14 : decode cX3_addLink 14 = .ok (.arraylength, 1) := by decide +kernel
theorem dX3_addLink_15 : decode cX3_addLink 15 = .ok (.if_icmp .lt 21, 3) := by decide +kernel
theorem dX3_addLink_18 : decode cX3_addLink 18 = .ok (.aload_n 0, 1) := by decide +kernel
theorem dX3_addLink_19 : decode cX3_addLink 19 = .ok (.aload_n 0, 1) := by decide +kernel
theorem dX3_addLink_20 : decode cX3_addLink 20 = .ok (.getfield 45, 3) := by decide +kernel
theorem dX3_addLink_23 : decode cX3_addLink 23 = .ok (.iconst 2, 1) := by decide +kernel
theorem dX3_addLink_24 : decode cX3_addLink 24 = .ok (.aload_n 0, 1) := by decide +kernel
theorem dX3_addLink_25 : decode cX3_addLink 25 = .ok (.getfield 45, 3) := by decide +kernel
theorem dX3_addLink_28 : decode cX3_addLink 28 = .ok (.arraylength, 1) := by decide +kernel
theorem dX3_addLink_29 : decode cX3_addLink 29 = .ok (.imul, 1) := by decide +kernel
theorem dX3_addLink_30 : decode cX3_addLink 30 = .ok (.invokestatic 155, 3) := by decide +kernel
theorem dX3_addLink_33 : decode cX3_addLink 33 = .ok (.putfield 45, 3) := by decide +kernel
theorem dX3_addLink_36 : decode cX3_addLink 36 = .ok (.aload_n 0, 1) := by decide +kernel
theorem dX3_addLink_37 : decode cX3_addLink 37 = .ok (.getfield 45, 3) := by decide +kernel
theorem dX3_addLink_40 : decode cX3_addLink 40 = .ok (.iload_n 3, 1) := by decide +kernel
theorem dX3_addLink_41 : decode cX3_addLink 41 = .ok (.iload_n 2, 1) := by decide +kernel
theorem dX3_addLink_42 : decode cX3_addLink 42 = .ok (.iastore, 1) := by decide +kernel
theorem dX3_addLink_43 : decode cX3_addLink 43 = .ok (.aload_n 0, 1) := by decide +kernel
theorem dX3_addLink_44 : decode cX3_addLink 44 = .ok (.getfield 42, 3) := by decide +kernel
theorem dX3_addLink_47 : decode cX3_addLink 47 = .ok (.iload_n 1, 1) := by decide +kernel
theorem dX3_addLink_48 : decode cX3_addLink 48 = .ok (.iconst 1, 1) := by decide +kernel
theorem dX3_addLink_49 : decode cX3_addLink 49 = .ok (.iadd, 1) := by decide +kernel
theorem dX3_addLink_50 : decode cX3_addLink 50 = .ok (.iload_n 3, 1) := by decide +kernel
theorem dX3_addLink_51 : decode cX3_addLink 51 = .ok (.iconst 1, 1) := by decide +kernel
theorem dX3_addLink_52 : decode cX3_addLink 52 = .ok (.iadd, 1) := by decide +kernel
theorem dX3_addLink_53 : decode cX3_addLink 53 = .ok (.iastore, 1) := by decide +kernel
theorem dX3_addLink_54 : decode cX3_addLink 54 = .ok (.return_, 1) := by decide +kernel
theorem dX4_init_0 : decode cX4_init 0 = .ok (.aload_n 0, 1) := by decide +kernel
theorem dX4_init_1 : decode cX4_init 1 = .ok (.invokespecial 3, 3) := by decide +kernel
theorem dX4_init_4 : decode cX4_init 4 = .ok (.aload_n 0, 1) := by decide +kernel
theorem dX4_init_5 : decode cX4_init 5 = .ok (.sipush 2304, 3) := by decide +kernel
theorem dX4_init_8 : decode cX4_init 8 = .ok (.newarray .long, 2) := by decide +kernel
theorem dX4_init_10 : decode cX4_init 10 = .ok (.putfield 9, 3) := by decide +kernel
theorem dX4_init_13 : decode cX4_init 13 = .ok (.aload_n 0, 1) := by decide +kernel
theorem dX4_init_14 : decode cX4_init 14 = .ok (.iconst 0, 1) := by decide +kernel
theorem dX4_init_15 : decode cX4_init 15 = .ok (.putfield 15, 3) := by decide +kernel
theorem dX4_init_18 : decode cX4_init 18 = .ok (.aload_n 0, 1) := by decide +kernel
theorem dX4_init_19 : decode cX4_init 19 = .ok (.sipush 440, 3) := by decide +kernel
theorem dX4_init_22 : decode cX4_init 22 = .ok (.newarray .long, 2) := by decide +kernel
theorem dX4_init_24 : decode cX4_init 24 = .ok (.putfield 19, 3) := by decide +kernel
theorem dX4_init_27 : decode cX4_init 27 = .ok (.aload_n 0, 1) := by decide +kernel
theorem dX4_init_28 : decode cX4_init 28 = .ok (.getfield 19, 3) := by decide +kernel
theorem dX4_init_31 : decode cX4_init 31 = .ok (.iconst 0, 1) := by decide +kernel
theorem dX4_init_32 : decode cX4_init 32 = .ok (.lconst 1, 1) := by decide +kernel
theorem dX4_init_33 : decode cX4_init 33 = .ok (.lastore, 1) := by decide +kernel
theorem dX4_init_34 : decode cX4_init 34 = .ok (.return_, 1) := by decide +kernel
theorem dX4_countContinuations_0 : decode cX4_countContinuations 0 = .ok (.aload_n 0, 1) := by decide +kernel
theorem dX4_countContinuations_1 : decode cX4_countContinuations 1 = .ok (.getfield 19, 3) := by decide +kernel
theorem dX4_countContinuations_4 : decode cX4_countContinuations 4 = .ok (.lconst 0, 1) := by decide +kernel
theorem dX4_countContinuations_5 : decode cX4_countContinuations 5 = .ok (.invokestatic 22, 3) := by decide +kernel
theorem dX4_countContinuations_8 : decode cX4_countContinuations 8 = .ok (.aload_n 1, 1) := by decide +kernel
theorem dX4_countContinuations_9 : decode cX4_countContinuations 9 = .ok (.getfield 28, 3) := by decide +kernel
theorem dX4_countContinuations_12 : decode cX4_countContinuations 12 = .ok (.bipush 40, 2) := by decide +kernel
theorem dX4_countContinuations_14 : decode cX4_countContinuations 14 = .ok (.imul, 1) := by decide +kernel
theorem dX4_countContinuations_15 : decode cX4_countContinuations 15 = .ok (.istore_n 2, 1) := by decide +kernel
theorem dX4_countContinuations_16 : decode cX4_countContinuations 16 = .ok (.aload_n 0, 1) := by decide +kernel
theorem dX4_countContinuations_17 : decode cX4_countContinuations 17 = .ok (.getfield 19, 3) := by decide +kernel
theorem dX4_countContinuations_20 : decode cX4_countContinuations 20 = .ok (.iload_n 2, 1) := by decide +kernel
theorem dX4_countContinuations_21 : decode cX4_countContinuations 21 = .ok (.iload_n 2, 1) := by decide +kernel
theorem dX4_countContinuations_22 : decode cX4_countContinuations 22 = .ok (.aload_n 1, 1) := by decide +kernel
theorem dX4_countContinuations_23 : decode cX4_countContinuations 23 = .ok (.invokevirtual 33, 3) := by decide +kernel
theorem dX4_countContinuations_26 : decode cX4_countContinuations 26 = .ok (.iadd, 1) := by decide +kernel
theorem dX4_countContinuations_27 : decode cX4_countContinuations 27 = .ok (.lconst 1, 1) := by decide +kernel
theorem dX4_countContinuations_28 : decode cX4_countContinuations 28 = .ok (.invokestatic 37, 3) := by decide +kernel
theorem dX4_countContinuations_31 : decode cX4_countContinuations 31 = .ok (.aload_n 1, 1) := by decide +kernel
theorem dX4_countContinuations_32 : decode cX4_countContinuations 32 = .ok (.getfield 28, 3) := by decide +kernel
theorem dX4_countContinuations_35 : decode cX4_countContinuations 35 = .ok (.iconst 1, 1) := by decide +kernel
theorem dX4_countContinuations_36 : decode cX4_countContinuations 36 = .ok (.isub, 1) := by decide +kernel
theorem dX4_countContinuations_37 : decode cX4_countContinuations 37 = .ok (.istore_n 3, 1) := by decide +kernel
theorem dX4_countContinuations_38 : decode cX4_countContinuations 38 = .ok (.iload_n 3, 1) := by decide +kernel
theorem dX4_countContinuations_39 : decode cX4_countContinuations 39 = .ok (.ifCond .lt 84, 3) := by decide +kernel
theorem dX4_countContinuations_42 : decode cX4_countContinuations 42 = .ok (.aload_n 1, 1) := by decide +kernel
theorem dX4_countContinuations_43 : decode cX4_countContinuations 43 = .ok (.getfield 40, 3) := by decide +kernel
theorem dX4_countContinuations_46 : decode cX4_countContinuations 46 = .ok (.iload_n 3, 1) := by decide +kernel
theorem dX4_countContinuations_47 : decode cX4_countContinuations 47 = .ok (.iaload, 1) := by decide +kernel
theorem dX4_countContinuations_48 : decode cX4_countContinuations 48 = .ok (.istore 4, 2) := by decide +kernel
theorem dX4_countContinuations_50 : decode cX4_countContinuations 50 = .ok (.iload 4, 2) := by decide +kernel
theorem dX4_countContinuations_52 : decode cX4_countContinuations 52 = .ok (.aload_n 1, 1) := by decide +kernel
theorem dX4_countContinuations_53 : decode cX4_countContinuations 53 = .ok (.getfield 40, 3) := by decide +kernel
theorem dX4_countContinuations_56 : decode cX4_countContinuations 56 = .ok (.iload_n 3, 1) := by decide +kernel
theorem dX4_countContinuations_57 : decode cX4_countContinuations 57 = .ok (.iconst 1, 1) := by decide +kernel
theorem dX4_countContinuations_58 : decode cX4_countContinuations 58 = .ok (.iadd, 1) := by decide +kernel
theorem dX4_countContinuations_59 : decode cX4_countContinuations 59 = .ok (.iaload, 1) := by decide +kernel
theorem dX4_countContinuations_60 : decode cX4_countContinuations 60 = .ok (.if_icmp .ge 57, 3) := by decide +kernel
theorem dX4_countContinuations_63 : decode cX4_countContinuations 63 = .ok (.aload_n 1, 1) := by decide +kernel
theorem dX4_countContinuations_64 : decode cX4_countContinuations 64 = .ok (.getfield 44, 3) := by decide +kernel
theorem dX4_countContinuations_67 : decode cX4_countContinuations 67 = .ok (.iload 4, 2) := by decide +kernel
theorem dX4_countContinuations_69 : decode cX4_countContinuations 69 = .ok (.iaload, 1) := by decide +kernel
theorem dX4_countContinuations_70 : decode cX4_countContinuations 70 = .ok (.istore 5, 2) := by decide +kernel
theorem dX4_countContinuations_72 : decode cX4_countContinuations 72 = .ok (.iload_n 3, 1) := by decide +kernel
theorem dX4_countContinuations_73 : decode cX4_countContinuations 73 = .ok (.iload 5, 2) := by decide +kernel
theorem dX4_countContinuations_75 : decode cX4_countContinuations 75 = .ok (.invokestatic 47, 3) := by decide +kernel
theorem dX4_countContinuations_78 : decode cX4_countContinuations 78 = .ok (.invokestatic 51, 3) := by decide +kernel
theorem dX4_countContinuations_81 : decode cX4_countContinuations 81 = .ok (.istore 6, 2) := by decide +kernel
theorem dX4_countContinuations_83 : decode cX4_countContinuations 83 = .ok (.iload 6, 2) := by decide +kernel
theorem dX4_countContinuations_85 : decode cX4_countContinuations 85 = .ok (.iconst (-1), 1) := by decide +kernel
theorem dX4_countContinuations_86 : decode cX4_countContinuations 86 = .ok (.if_icmp .eq 25, 3) := by decide +kernel
theorem dX4_countContinuations_89 : decode cX4_countContinuations 89 = .ok (.aload_n 0, 1) := by decide +kernel
theorem dX4_countContinuations_90 : decode cX4_countContinuations 90 = .ok (.getfield 19, 3) := by decide +kernel
theorem dX4_countContinuations_93 : decode cX4_countContinuations 93 = .ok (.iload 6, 2) := by decide +kernel
theorem dX4_countContinuations_95 : decode cX4_countContinuations 95 = .ok (.dup2, 1) := by decide +kernel
theorem dX4_countContinuations_96 : decode cX4_countContinuations 96 = .ok (.laload, 1) := by decide +kernel
theorem dX4_countContinuations_97 : decode cX4_countContinuations 97 = .ok (.aload_n 0, 1) := by decide +kernel
theorem dX4_countContinuations_98 : decode cX4_countContinuations 98 = .ok (.iload_n 3, 1) := by decide +kernel
theorem dX4_countContinuations_99 : decode cX4_countContinuations 99 = .ok (.iconst 1, 1) := by decide +kernel
theorem dX4_countContinuations_100 : decode cX4_countContinuations 100 = .ok (.iadd, 1) := by decide +kernel
theorem dX4_countContinuations_101 : decode cX4_countContinuations 101 = .ok (.iload 5, 2) := by decide +kernel
theorem dX4_countContinuations_103 : decode cX4_countContinuations 103 = .ok (.invokestatic 55, 3) := by decide +kernel
theorem dX4_countContinuations_106 : decode cX4_countContinuations 106 = .ok (.invokevirtual 58, 3) := by decide +kernel
theorem dX4_countContinuations_109 : decode cX4_countContinuations 109 = .ok (.ladd, 1) := by decide +kernel
theorem dX4_countContinuations_110 : decode cX4_countContinuations 110 = .ok (.lastore, 1) := by decide +kernel
theorem dX4_countContinuations_111 : decode cX4_countContinuations 111 = .ok (.iinc 4 1, 3) := by decide +kernel
theorem dX4_countContinuations_114 : decode cX4_countContinuations 114 = .ok (.goto (-64), 3) := by decide +kernel
theorem dX4_countContinuations_117 : decode cX4_countContinuations 117 = .ok (.iinc 3 (-1), 3) := by decide +kernel
theorem dX4_countContinuations_120 : decode cX4_countContinuations 120 = .ok (.goto (-82), 3) := by decide +kernel
theorem dX4_countContinuations_123 : decode cX4_countContinuations 123 = .ok (.return_, 1) := by decide +kernel
theorem dX4_continuationsAt_0 : decode cX4_continuationsAt 0 = .ok (.iload_n 1, 1) := by decide +kernel
theorem dX4_continuationsAt_1 : decode cX4_continuationsAt 1 = .ok (.iload_n 2, 1) := by decide +kernel
theorem dX4_continuationsAt_2 : decode cX4_continuationsAt 2 = .ok (.invokestatic 51, 3) := by decide +kernel
theorem dX4_continuationsAt_5 : decode cX4_continuationsAt 5 = .ok (.istore_n 3, 1) := by decide +kernel
theorem dX4_continuationsAt_6 : decode cX4_continuationsAt 6 = .ok (.iload_n 3, 1) := by decide +kernel
theorem dX4_continuationsAt_7 : decode cX4_continuationsAt 7 = .ok (.iconst (-1), 1) := by decide +kernel
theorem dX4_continuationsAt_8 : decode cX4_continuationsAt 8 = .ok (.if_icmp .ne 7, 3) := by decide +kernel
theorem dX4_continuationsAt_11 : decode cX4_continuationsAt 11 = .ok (.lconst 0, 1) := by decide +kernel
theorem dX4_continuationsAt_12 : decode cX4_continuationsAt 12 = .ok (.goto 9, 3) := by decide +kernel
theorem dX4_continuationsAt_15 : decode cX4_continuationsAt 15 = .ok (.aload_n 0, 1) := by decide +kernel
theorem dX4_continuationsAt_16 : decode cX4_continuationsAt 16 = .ok (.getfield 19, 3) := by decide +kernel
theorem dX4_continuationsAt_19 : decode cX4_continuationsAt 19 = .ok (.iload_n 3, 1) := by decide +kernel
theorem dX4_continuationsAt_20 : decode cX4_continuationsAt 20 = .ok (.laload, 1) := by decide +kernel
theorem dX4_continuationsAt_21 : decode cX4_continuationsAt 21 = .ok (.lreturn, 1) := by decide +kernel
theorem dX4_countGames_0 : decode cX4_countGames 0 = .ok (.aload_n 0, 1) := by decide +kernel
theorem dX4_countGames_1 : decode cX4_countGames 1 = .ok (.aload_n 1, 1) := by decide +kernel
theorem dX4_countGames_2 : decode cX4_countGames 2 = .ok (.getfield 62, 3) := by decide +kernel
theorem dX4_countGames_5 : decode cX4_countGames 5 = .ok (.invokevirtual 66, 3) := by decide +kernel
theorem dX4_countGames_8 : decode cX4_countGames 8 = .ok (.bipush 6, 2) := by decide +kernel
theorem dX4_countGames_10 : decode cX4_countGames 10 = .ok (.ishl, 1) := by decide +kernel
theorem dX4_countGames_11 : decode cX4_countGames 11 = .ok (.putfield 15, 3) := by decide +kernel
theorem dX4_countGames_14 : decode cX4_countGames 14 = .ok (.aload_n 0, 1) := by decide +kernel
theorem dX4_countGames_15 : decode cX4_countGames 15 = .ok (.getfield 9, 3) := by decide +kernel
theorem dX4_countGames_18 : decode cX4_countGames 18 = .ok (.iconst 0, 1) := by decide +kernel
theorem dX4_countGames_19 : decode cX4_countGames 19 = .ok (.aload_n 0, 1) := by decide +kernel
theorem dX4_countGames_20 : decode cX4_countGames 20 = .ok (.getfield 15, 3) := by decide +kernel
theorem dX4_countGames_23 : decode cX4_countGames 23 = .ok (.lconst 0, 1) := by decide +kernel
theorem dX4_countGames_24 : decode cX4_countGames 24 = .ok (.invokestatic 37, 3) := by decide +kernel
theorem dX4_countGames_27 : decode cX4_countGames 27 = .ok (.aload_n 1, 1) := by decide +kernel
theorem dX4_countGames_28 : decode cX4_countGames 28 = .ok (.getfield 40, 3) := by decide +kernel
theorem dX4_countGames_31 : decode cX4_countGames 31 = .ok (.iload_n 2, 1) := by decide +kernel
theorem dX4_countGames_32 : decode cX4_countGames 32 = .ok (.iaload, 1) := by decide +kernel
theorem dX4_countGames_33 : decode cX4_countGames 33 = .ok (.istore_n 3, 1) := by decide +kernel
theorem dX4_countGames_34 : decode cX4_countGames 34 = .ok (.iload_n 3, 1) := by decide +kernel
theorem dX4_countGames_35 : decode cX4_countGames 35 = .ok (.aload_n 1, 1) := by decide +kernel
theorem dX4_countGames_36 : decode cX4_countGames 36 = .ok (.getfield 40, 3) := by decide +kernel
theorem dX4_countGames_39 : decode cX4_countGames 39 = .ok (.iload_n 2, 1) := by decide +kernel
theorem dX4_countGames_40 : decode cX4_countGames 40 = .ok (.iconst 1, 1) := by decide +kernel
theorem dX4_countGames_41 : decode cX4_countGames 41 = .ok (.iadd, 1) := by decide +kernel
theorem dX4_countGames_42 : decode cX4_countGames 42 = .ok (.iaload, 1) := by decide +kernel
theorem dX4_countGames_43 : decode cX4_countGames 43 = .ok (.if_icmp .ge 66, 3) := by decide +kernel
theorem dX4_countGames_46 : decode cX4_countGames 46 = .ok (.aload_n 1, 1) := by decide +kernel
theorem dX4_countGames_47 : decode cX4_countGames 47 = .ok (.getfield 44, 3) := by decide +kernel
theorem dX4_countGames_50 : decode cX4_countGames 50 = .ok (.iload_n 3, 1) := by decide +kernel
theorem dX4_countGames_51 : decode cX4_countGames 51 = .ok (.iaload, 1) := by decide +kernel
theorem dX4_countGames_52 : decode cX4_countGames 52 = .ok (.istore 4, 2) := by decide +kernel
theorem dX4_countGames_54 : decode cX4_countGames 54 = .ok (.iload 4, 2) := by decide +kernel
theorem dX4_countGames_56 : decode cX4_countGames 56 = .ok (.invokestatic 71, 3) := by decide +kernel
theorem dX4_countGames_59 : decode cX4_countGames 59 = .ok (.istore 5, 2) := by decide +kernel
theorem dX4_countGames_61 : decode cX4_countGames 61 = .ok (.iload 5, 2) := by decide +kernel
theorem dX4_countGames_63 : decode cX4_countGames 63 = .ok (.aload_n 0, 1) := by decide +kernel
theorem dX4_countGames_64 : decode cX4_countGames 64 = .ok (.getfield 15, 3) := by decide +kernel
theorem dX4_countGames_67 : decode cX4_countGames 67 = .ok (.if_icmp .ge 36, 3) := by decide +kernel
theorem dX4_countGames_70 : decode cX4_countGames 70 = .ok (.aload_n 0, 1) := by decide +kernel
theorem dX4_countGames_71 : decode cX4_countGames 71 = .ok (.getfield 9, 3) := by decide +kernel
theorem dX4_countGames_74 : decode cX4_countGames 74 = .ok (.iload 5, 2) := by decide +kernel
theorem dX4_countGames_76 : decode cX4_countGames 76 = .ok (.dup2, 1) := by decide +kernel
theorem dX4_countGames_77 : decode cX4_countGames 77 = .ok (.laload, 1) := by decide +kernel
theorem dX4_countGames_78 : decode cX4_countGames 78 = .ok (.aload_n 1, 1) := by decide +kernel
theorem dX4_countGames_79 : decode cX4_countGames 79 = .ok (.iload_n 2, 1) := by decide +kernel
theorem dX4_countGames_80 : decode cX4_countGames 80 = .ok (.iload 4, 2) := by decide +kernel
theorem dX4_countGames_82 : decode cX4_countGames 82 = .ok (.invokestatic 47, 3) := by decide +kernel
theorem dX4_countGames_85 : decode cX4_countGames 85 = .ok (.invokevirtual 74, 3) := by decide +kernel
theorem dX4_countGames_88 : decode cX4_countGames 88 = .ok (.aload_n 0, 1) := by decide +kernel
theorem dX4_countGames_89 : decode cX4_countGames 89 = .ok (.iload_n 2, 1) := by decide +kernel
theorem dX4_countGames_90 : decode cX4_countGames 90 = .ok (.iconst 1, 1) := by decide +kernel
theorem dX4_countGames_91 : decode cX4_countGames 91 = .ok (.iadd, 1) := by decide +kernel
theorem dX4_countGames_92 : decode cX4_countGames 92 = .ok (.iload 4, 2) := by decide +kernel
theorem dX4_countGames_94 : decode cX4_countGames 94 = .ok (.invokestatic 55, 3) := by decide +kernel
theorem dX4_countGames_97 : decode cX4_countGames 97 = .ok (.invokevirtual 58, 3) := by decide +kernel
theorem dX4_countGames_100 : decode cX4_countGames 100 = .ok (.lmul, 1) := by decide +kernel
theorem dX4_countGames_101 : decode cX4_countGames 101 = .ok (.ladd, 1) := by decide +kernel
theorem dX4_countGames_102 : decode cX4_countGames 102 = .ok (.lastore, 1) := by decide +kernel
theorem dX4_countGames_103 : decode cX4_countGames 103 = .ok (.iinc 3 1, 3) := by decide +kernel
theorem dX4_countGames_106 : decode cX4_countGames 106 = .ok (.goto (-72), 3) := by decide +kernel
theorem dX4_countGames_109 : decode cX4_countGames 109 = .ok (.return_, 1) := by decide +kernel
theorem dX4_gamesFromStart_0 : decode cX4_gamesFromStart 0 = .ok (.aload_n 0, 1) := by decide +kernel
theorem dX4_gamesFromStart_1 : decode cX4_gamesFromStart 1 = .ok (.getfield 19, 3) := by decide +kernel
theorem dX4_gamesFromStart_4 : decode cX4_gamesFromStart 4 = .ok (.iconst 0, 1) := by decide +kernel
theorem dX4_gamesFromStart_5 : decode cX4_gamesFromStart 5 = .ok (.laload, 1) := by decide +kernel
theorem dX4_gamesFromStart_6 : decode cX4_gamesFromStart 6 = .ok (.lreturn, 1) := by decide +kernel
theorem dX4_moveCount_0 : decode cX4_moveCount 0 = .ok (.iconst 0, 1) := by decide +kernel
theorem dX4_moveCount_1 : decode cX4_moveCount 1 = .ok (.istore_n 1, 1) := by decide +kernel
theorem dX4_moveCount_2 : decode cX4_moveCount 2 = .ok (.iconst 0, 1) := by decide +kernel
theorem dX4_moveCount_3 : decode cX4_moveCount 3 = .ok (.istore_n 2, 1) := by decide +kernel
theorem dX4_moveCount_4 : decode cX4_moveCount 4 = .ok (.iload_n 2, 1) := by decide +kernel
theorem dX4_moveCount_5 : decode cX4_moveCount 5 = .ok (.aload_n 0, 1) := by decide +kernel
theorem dX4_moveCount_6 : decode cX4_moveCount 6 = .ok (.getfield 15, 3) := by decide +kernel
theorem dX4_moveCount_9 : decode cX4_moveCount 9 = .ok (.if_icmp .ge 23, 3) := by decide +kernel
theorem dX4_moveCount_12 : decode cX4_moveCount 12 = .ok (.aload_n 0, 1) := by decide +kernel
theorem dX4_moveCount_13 : decode cX4_moveCount 13 = .ok (.getfield 9, 3) := by decide +kernel
theorem dX4_moveCount_16 : decode cX4_moveCount 16 = .ok (.iload_n 2, 1) := by decide +kernel
theorem dX4_moveCount_17 : decode cX4_moveCount 17 = .ok (.laload, 1) := by decide +kernel
theorem dX4_moveCount_18 : decode cX4_moveCount 18 = .ok (.lconst 0, 1) := by decide +kernel
theorem dX4_moveCount_19 : decode cX4_moveCount 19 = .ok (.lcmp, 1) := by decide +kernel
theorem dX4_moveCount_20 : decode cX4_moveCount 20 = .ok (.ifCond .eq 6, 3) := by decide +kernel
theorem dX4_moveCount_23 : decode cX4_moveCount 23 = .ok (.iinc 1 1, 3) := by decide +kernel
theorem dX4_moveCount_26 : decode cX4_moveCount 26 = .ok (.iinc 2 1, 3) := by decide +kernel
theorem dX4_moveCount_29 : decode cX4_moveCount 29 = .ok (.goto (-25), 3) := by decide +kernel
theorem dX4_moveCount_32 : decode cX4_moveCount 32 = .ok (.iload_n 1, 1) := by decide +kernel
theorem dX4_moveCount_33 : decode cX4_moveCount 33 = .ok (.ireturn, 1) := by decide +kernel
theorem dX4_moveAt_0 : decode cX4_moveAt 0 = .ok (.iconst 0, 1) := by decide +kernel
theorem dX4_moveAt_1 : decode cX4_moveAt 1 = .ok (.istore_n 2, 1) := by decide +kernel
theorem dX4_moveAt_2 : decode cX4_moveAt 2 = .ok (.iconst 0, 1) := by decide +kernel
theorem dX4_moveAt_3 : decode cX4_moveAt 3 = .ok (.istore_n 3, 1) := by decide +kernel
theorem dX4_moveAt_4 : decode cX4_moveAt 4 = .ok (.iload_n 3, 1) := by decide +kernel
theorem dX4_moveAt_5 : decode cX4_moveAt 5 = .ok (.aload_n 0, 1) := by decide +kernel
theorem dX4_moveAt_6 : decode cX4_moveAt 6 = .ok (.getfield 15, 3) := by decide +kernel
theorem dX4_moveAt_9 : decode cX4_moveAt 9 = .ok (.if_icmp .ge 30, 3) := by decide +kernel
theorem dX4_moveAt_12 : decode cX4_moveAt 12 = .ok (.aload_n 0, 1) := by decide +kernel
theorem dX4_moveAt_13 : decode cX4_moveAt 13 = .ok (.getfield 9, 3) := by decide +kernel
theorem dX4_moveAt_16 : decode cX4_moveAt 16 = .ok (.iload_n 3, 1) := by decide +kernel
theorem dX4_moveAt_17 : decode cX4_moveAt 17 = .ok (.laload, 1) := by decide +kernel
theorem dX4_moveAt_18 : decode cX4_moveAt 18 = .ok (.lconst 0, 1) := by decide +kernel
theorem dX4_moveAt_19 : decode cX4_moveAt 19 = .ok (.lcmp, 1) := by decide +kernel
theorem dX4_moveAt_20 : decode cX4_moveAt 20 = .ok (.ifCond .eq 13, 3) := by decide +kernel
theorem dX4_moveAt_23 : decode cX4_moveAt 23 = .ok (.iload_n 2, 1) := by decide +kernel
theorem dX4_moveAt_24 : decode cX4_moveAt 24 = .ok (.iload_n 1, 1) := by decide +kernel
theorem dX4_moveAt_25 : decode cX4_moveAt 25 = .ok (.if_icmp .ne 5, 3) := by decide +kernel
theorem dX4_moveAt_28 : decode cX4_moveAt 28 = .ok (.iload_n 3, 1) := by decide +kernel
theorem dX4_moveAt_29 : decode cX4_moveAt 29 = .ok (.ireturn, 1) := by decide +kernel
theorem dX4_moveAt_30 : decode cX4_moveAt 30 = .ok (.iinc 2 1, 3) := by decide +kernel
theorem dX4_moveAt_33 : decode cX4_moveAt 33 = .ok (.iinc 3 1, 3) := by decide +kernel
theorem dX4_moveAt_36 : decode cX4_moveAt 36 = .ok (.goto (-32), 3) := by decide +kernel
theorem dX4_moveAt_39 : decode cX4_moveAt 39 = .ok (.iconst (-1), 1) := by decide +kernel
theorem dX4_moveAt_40 : decode cX4_moveAt 40 = .ok (.ireturn, 1) := by decide +kernel
theorem dX4_total_0 : decode cX4_total 0 = .ok (.lconst 0, 1) := by decide +kernel
theorem dX4_total_1 : decode cX4_total 1 = .ok (.lstore_n 1, 1) := by decide +kernel
theorem dX4_total_2 : decode cX4_total 2 = .ok (.iconst 0, 1) := by decide +kernel
theorem dX4_total_3 : decode cX4_total 3 = .ok (.istore_n 3, 1) := by decide +kernel
theorem dX4_total_4 : decode cX4_total 4 = .ok (.iload_n 3, 1) := by decide +kernel
theorem dX4_total_5 : decode cX4_total 5 = .ok (.aload_n 0, 1) := by decide +kernel
theorem dX4_total_6 : decode cX4_total 6 = .ok (.getfield 15, 3) := by decide +kernel
theorem dX4_total_9 : decode cX4_total 9 = .ok (.if_icmp .ge 18, 3) := by decide +kernel
theorem dX4_total_12 : decode cX4_total 12 = .ok (.lload_n 1, 1) := by decide +kernel
theorem dX4_total_13 : decode cX4_total 13 = .ok (.aload_n 0, 1) := by decide +kernel
theorem dX4_total_14 : decode cX4_total 14 = .ok (.getfield 9, 3) := by decide +kernel
theorem dX4_total_17 : decode cX4_total 17 = .ok (.iload_n 3, 1) := by decide +kernel
theorem dX4_total_18 : decode cX4_total 18 = .ok (.laload, 1) := by decide +kernel
theorem dX4_total_19 : decode cX4_total 19 = .ok (.ladd, 1) := by decide +kernel
theorem dX4_total_20 : decode cX4_total 20 = .ok (.lstore_n 1, 1) := by decide +kernel
theorem dX4_total_21 : decode cX4_total 21 = .ok (.iinc 3 1, 3) := by decide +kernel
theorem dX4_total_24 : decode cX4_total 24 = .ok (.goto (-20), 3) := by decide +kernel
theorem dX4_total_27 : decode cX4_total 27 = .ok (.lload_n 1, 1) := by decide +kernel
theorem dX4_total_28 : decode cX4_total 28 = .ok (.lreturn, 1) := by decide +kernel
theorem dX5_init_0 : decode cX5_init 0 = .ok (.aload_n 0, 1) := by decide +kernel
theorem dX5_init_1 : decode cX5_init 1 = .ok (.invokespecial 3, 3) := by decide +kernel
theorem dX5_init_4 : decode cX5_init 4 = .ok (.aload_n 0, 1) := by decide +kernel
theorem dX5_init_5 : decode cX5_init 5 = .ok (.iconst 0, 1) := by decide +kernel
theorem dX5_init_6 : decode cX5_init 6 = .ok (.putfield 9, 3) := by decide +kernel
theorem dX5_init_9 : decode cX5_init 9 = .ok (.aload_n 0, 1) := by decide +kernel
theorem dX5_init_10 : decode cX5_init 10 = .ok (.iconst 0, 1) := by decide +kernel
theorem dX5_init_11 : decode cX5_init 11 = .ok (.putfield 15, 3) := by decide +kernel
theorem dX5_init_14 : decode cX5_init 14 = .ok (.aload_n 0, 1) := by decide +kernel
theorem dX5_init_15 : decode cX5_init 15 = .ok (.iconst 0, 1) := by decide +kernel
theorem dX5_init_16 : decode cX5_init 16 = .ok (.putfield 18, 3) := by decide +kernel
theorem dX5_init_19 : decode cX5_init 19 = .ok (.aload_n 0, 1) := by decide +kernel
theorem dX5_init_20 : decode cX5_init 20 = .ok (.iconst 0, 1) := by decide +kernel
theorem dX5_init_21 : decode cX5_init 21 = .ok (.putfield 21, 3) := by decide +kernel
theorem dX5_init_24 : decode cX5_init 24 = .ok (.aload_n 0, 1) := by decide +kernel
theorem dX5_init_25 : decode cX5_init 25 = .ok (.iconst 0, 1) := by decide +kernel
theorem dX5_init_26 : decode cX5_init 26 = .ok (.putfield 24, 3) := by decide +kernel
theorem dX5_init_29 : decode cX5_init 29 = .ok (.aload_n 0, 1) := by decide +kernel
theorem dX5_init_30 : decode cX5_init 30 = .ok (.sipush 600, 3) := by decide +kernel
theorem dX5_init_33 : decode cX5_init 33 = .ok (.newarray .byte, 2) := by decide +kernel
theorem dX5_init_35 : decode cX5_init 35 = .ok (.putfield 27, 3) := by decide +kernel
theorem dX5_init_38 : decode cX5_init 38 = .ok (.return_, 1) := by decide +kernel
theorem dX5_hasRoom_0 : decode cX5_hasRoom 0 = .ok (.aload_n 0, 1) := by decide +kernel
theorem dX5_hasRoom_1 : decode cX5_hasRoom 1 = .ok (.getfield 9, 3) := by decide +kernel
theorem dX5_hasRoom_4 : decode cX5_hasRoom 4 = .ok (.bipush 20, 2) := by decide +kernel
theorem dX5_hasRoom_6 : decode cX5_hasRoom 6 = .ok (.iadd, 1) := by decide +kernel
theorem dX5_hasRoom_7 : decode cX5_hasRoom 7 = .ok (.aload_n 0, 1) := by decide +kernel
theorem dX5_hasRoom_8 : decode cX5_hasRoom 8 = .ok (.getfield 27, 3) := by decide +kernel
theorem dX5_hasRoom_11 : decode cX5_hasRoom 11 = .ok (.arraylength, 1) := by decide +kernel
theorem dX5_hasRoom_12 : decode cX5_hasRoom 12 = .ok (.if_icmp .gt 7, 3) := by decide +kernel
theorem dX5_hasRoom_15 : decode cX5_hasRoom 15 = .ok (.iconst 1, 1) := by decide +kernel
theorem dX5_hasRoom_16 : decode cX5_hasRoom 16 = .ok (.goto 4, 3) := by decide +kernel
theorem dX5_hasRoom_19 : decode cX5_hasRoom 19 = .ok (.iconst 0, 1) := by decide +kernel
theorem dX5_hasRoom_20 : decode cX5_hasRoom 20 = .ok (.ireturn, 1) := by decide +kernel
theorem dX5_put_0 : decode cX5_put 0 = .ok (.bipush 24, 2) := by decide +kernel
theorem dX5_put_2 : decode cX5_put 2 = .ok (.istore_n 2, 1) := by decide +kernel
theorem dX5_put_3 : decode cX5_put 3 = .ok (.iload_n 2, 1) := by decide +kernel
theorem dX5_put_4 : decode cX5_put 4 = .ok (.ifCond .lt 41, 3) := by decide +kernel
theorem dX5_put_7 : decode cX5_put 7 = .ok (.aload_n 0, 1) := by decide +kernel
theorem dX5_put_8 : decode cX5_put 8 = .ok (.getfield 9, 3) := by decide +kernel
theorem dX5_put_11 : decode cX5_put 11 = .ok (.aload_n 0, 1) := by decide +kernel
theorem dX5_put_12 : decode cX5_put 12 = .ok (.getfield 27, 3) := by decide +kernel
theorem dX5_put_15 : decode cX5_put 15 = .ok (.arraylength, 1) := by decide +kernel
theorem dX5_put_16 : decode cX5_put 16 = .ok (.if_icmp .ge 29, 3) := by decide +kernel
theorem dX5_put_19 : decode cX5_put 19 = .ok (.aload_n 0, 1) := by decide +kernel
theorem dX5_put_20 : decode cX5_put 20 = .ok (.getfield 27, 3) := by decide +kernel
theorem dX5_put_23 : decode cX5_put 23 = .ok (.aload_n 0, 1) := by decide +kernel
theorem dX5_put_24 : decode cX5_put 24 = .ok (.dup, 1) := by decide +kernel
theorem dX5_put_25 : decode cX5_put 25 = .ok (.getfield 9, 3) := by decide +kernel
theorem dX5_put_28 : decode cX5_put 28 = .ok (.dup_x1, 1) := by decide +kernel
theorem dX5_put_29 : decode cX5_put 29 = .ok (.iconst 1, 1) := by decide +kernel
theorem dX5_put_30 : decode cX5_put 30 = .ok (.iadd, 1) := by decide +kernel
theorem dX5_put_31 : decode cX5_put 31 = .ok (.putfield 9, 3) := by decide +kernel
theorem dX5_put_34 : decode cX5_put 34 = .ok (.iload_n 1, 1) := by decide +kernel
theorem dX5_put_35 : decode cX5_put 35 = .ok (.iload_n 2, 1) := by decide +kernel
theorem dX5_put_36 : decode cX5_put 36 = .ok (.ishr, 1) := by decide +kernel
theorem dX5_put_37 : decode cX5_put 37 = .ok (.i2b, 1) := by decide +kernel
theorem dX5_put_38 : decode cX5_put 38 = .ok (.bastore, 1) := by decide +kernel
theorem dX5_put_39 : decode cX5_put 39 = .ok (.iinc 2 (-8), 3) := by decide +kernel
theorem dX5_put_42 : decode cX5_put 42 = .ok (.goto (-39), 3) := by decide +kernel
theorem dX5_put_45 : decode cX5_put 45 = .ok (.return_, 1) := by decide +kernel
theorem dX5_readFirst_0 : decode cX5_readFirst 0 = .ok (.aload_n 0, 1) := by decide +kernel
theorem dX5_readFirst_1 : decode cX5_readFirst 1 = .ok (.iconst 0, 1) := by decide +kernel
theorem dX5_readFirst_2 : decode cX5_readFirst 2 = .ok (.putfield 24, 3) := by decide +kernel
theorem dX5_readFirst_5 : decode cX5_readFirst 5 = .ok (.aload_n 0, 1) := by decide +kernel
theorem dX5_readFirst_6 : decode cX5_readFirst 6 = .ok (.invokevirtual 31, 3) := by decide +kernel
theorem dX5_readFirst_9 : decode cX5_readFirst 9 = .ok (.return_, 1) := by decide +kernel
theorem dX5_readNext_0 : decode cX5_readNext 0 = .ok (.aload_n 0, 1) := by decide +kernel
theorem dX5_readNext_1 : decode cX5_readNext 1 = .ok (.aload_n 0, 1) := by decide +kernel
theorem dX5_readNext_2 : decode cX5_readNext 2 = .ok (.getfield 24, 3) := by decide +kernel
theorem dX5_readNext_5 : decode cX5_readNext 5 = .ok (.putfield 18, 3) := by decide +kernel
theorem dX5_readNext_8 : decode cX5_readNext 8 = .ok (.iconst 0, 1) := by decide +kernel
theorem dX5_readNext_9 : decode cX5_readNext 9 = .ok (.istore_n 1, 1) := by decide +kernel
theorem dX5_readNext_10 : decode cX5_readNext 10 = .ok (.iload_n 1, 1) := by decide +kernel
theorem dX5_readNext_11 : decode cX5_readNext 11 = .ok (.sipush 600, 3) := by decide +kernel
theorem dX5_readNext_14 : decode cX5_readNext 14 = .ok (.if_icmp .ge 32, 3) := by decide +kernel
theorem dX5_readNext_17 : decode cX5_readNext 17 = .ok (.aload_n 0, 1) := by decide +kernel
theorem dX5_readNext_18 : decode cX5_readNext 18 = .ok (.aload_n 0, 1) := by decide +kernel
theorem dX5_readNext_19 : decode cX5_readNext 19 = .ok (.getfield 18, 3) := by decide +kernel
theorem dX5_readNext_22 : decode cX5_readNext 22 = .ok (.invokevirtual 34, 3) := by decide +kernel
theorem dX5_readNext_25 : decode cX5_readNext 25 = .ok (.bipush 32, 2) := by decide +kernel
theorem dX5_readNext_27 : decode cX5_readNext 27 = .ok (.if_icmp .ne 19, 3) := by decide +kernel
theorem dX5_readNext_30 : decode cX5_readNext 30 = .ok (.aload_n 0, 1) := by decide +kernel
theorem dX5_readNext_31 : decode cX5_readNext 31 = .ok (.dup, 1) := by decide +kernel
theorem dX5_readNext_32 : decode cX5_readNext 32 = .ok (.getfield 18, 3) := by decide +kernel
theorem dX5_readNext_35 : decode cX5_readNext 35 = .ok (.iconst 1, 1) := by decide +kernel
theorem dX5_readNext_36 : decode cX5_readNext 36 = .ok (.iadd, 1) := by decide +kernel
theorem dX5_readNext_37 : decode cX5_readNext 37 = .ok (.putfield 18, 3) := by decide +kernel
theorem dX5_readNext_40 : decode cX5_readNext 40 = .ok (.iinc 1 1, 3) := by decide +kernel
theorem dX5_readNext_43 : decode cX5_readNext 43 = .ok (.goto (-33), 3) := by decide +kernel
theorem dX5_readNext_46 : decode cX5_readNext 46 = .ok (.aload_n 0, 1) := by decide +kernel
theorem dX5_readNext_47 : decode cX5_readNext 47 = .ok (.aload_n 0, 1) := by decide +kernel
theorem dX5_readNext_48 : decode cX5_readNext 48 = .ok (.getfield 18, 3) := by decide +kernel
theorem dX5_readNext_51 : decode cX5_readNext 51 = .ok (.putfield 24, 3) := by decide +kernel
theorem dX5_readNext_54 : decode cX5_readNext 54 = .ok (.aload_n 0, 1) := by decide +kernel
theorem dX5_readNext_55 : decode cX5_readNext 55 = .ok (.aload_n 0, 1) := by decide +kernel
theorem dX5_readNext_56 : decode cX5_readNext 56 = .ok (.aload_n 0, 1) := by decide +kernel
theorem dX5_readNext_57 : decode cX5_readNext 57 = .ok (.getfield 18, 3) := by decide +kernel
theorem dX5_readNext_60 : decode cX5_readNext 60 = .ok (.invokevirtual 34, 3) := by decide +kernel
theorem dX5_readNext_63 : decode cX5_readNext 63 = .ok (.invokestatic 38, 3) := by decide +kernel
theorem dX5_readNext_66 : decode cX5_readNext 66 = .ok (.putfield 15, 3) := by decide +kernel
theorem dX5_readNext_69 : decode cX5_readNext 69 = .ok (.aload_n 0, 1) := by decide +kernel
theorem dX5_readNext_70 : decode cX5_readNext 70 = .ok (.iconst 0, 1) := by decide +kernel
theorem dX5_readNext_71 : decode cX5_readNext 71 = .ok (.putfield 21, 3) := by decide +kernel
theorem dX5_readNext_74 : decode cX5_readNext 74 = .ok (.aload_n 0, 1) := by decide +kernel
theorem dX5_readNext_75 : decode cX5_readNext 75 = .ok (.getfield 15, 3) := by decide +kernel
theorem dX5_readNext_78 : decode cX5_readNext 78 = .ok (.ifCond .eq 7, 3) := by decide +kernel
theorem dX5_readNext_81 : decode cX5_readNext 81 = .ok (.iconst 1, 1) := by decide +kernel
theorem dX5_readNext_82 : decode cX5_readNext 82 = .ok (.goto 4, 3) := by decide +kernel
theorem dX5_readNext_85 : decode cX5_readNext 85 = .ok (.iconst 0, 1) := by decide +kernel
theorem dX5_readNext_86 : decode cX5_readNext 86 = .ok (.istore_n 1, 1) := by decide +kernel
theorem dX5_readNext_87 : decode cX5_readNext 87 = .ok (.iconst 0, 1) := by decide +kernel
theorem dX5_readNext_88 : decode cX5_readNext 88 = .ok (.istore_n 2, 1) := by decide +kernel
theorem dX5_readNext_89 : decode cX5_readNext 89 = .ok (.iload_n 2, 1) := by decide +kernel
theorem dX5_readNext_90 : decode cX5_readNext 90 = .ok (.sipush 600, 3) := by decide +kernel
theorem dX5_readNext_93 : decode cX5_readNext 93 = .ok (.if_icmp .ge 100, 3) := by decide +kernel
theorem dX5_readNext_96 : decode cX5_readNext 96 = .ok (.iload_n 1, 1) := by decide +kernel
theorem dX5_readNext_97 : decode cX5_readNext 97 = .ok (.ifCond .eq 96, 3) := by decide +kernel
theorem dX5_readNext_100 : decode cX5_readNext 100 = .ok (.aload_n 0, 1) := by decide +kernel
theorem dX5_readNext_101 : decode cX5_readNext 101 = .ok (.getfield 15, 3) := by decide +kernel
theorem dX5_readNext_104 : decode cX5_readNext 104 = .ok (.iconst 3, 1) := by decide +kernel
theorem dX5_readNext_105 : decode cX5_readNext 105 = .ok (.if_icmp .ne 32, 3) := by decide +kernel
theorem dX5_readNext_108 : decode cX5_readNext 108 = .ok (.aload_n 0, 1) := by decide +kernel
theorem dX5_readNext_109 : decode cX5_readNext 109 = .ok (.bipush 10, 2) := by decide +kernel
theorem dX5_readNext_111 : decode cX5_readNext 111 = .ok (.aload_n 0, 1) := by decide +kernel
theorem dX5_readNext_112 : decode cX5_readNext 112 = .ok (.getfield 21, 3) := by decide +kernel
theorem dX5_readNext_115 : decode cX5_readNext 115 = .ok (.imul, 1) := by decide +kernel
theorem dX5_readNext_116 : decode cX5_readNext 116 = .ok (.aload_n 0, 1) := by decide +kernel
theorem dX5_readNext_117 : decode cX5_readNext 117 = .ok (.aload_n 0, 1) := by decide +kernel
theorem dX5_readNext_118 : decode cX5_readNext 118 = .ok (.getfield 24, 3) := by decide +kernel
theorem dX5_readNext_121 : decode cX5_readNext 121 = .ok (.invokevirtual 34, 3) := by decide +kernel
theorem dX5_readNext_124 : decode cX5_readNext 124 = .ok (.iadd, 1) := by decide +kernel
theorem dX5_readNext_125 : decode cX5_readNext 125 = .ok (.bipush 48, 2) := by decide +kernel
theorem dX5_readNext_127 : decode cX5_readNext 127 = .ok (.isub, 1) := by decide +kernel
theorem dX5_readNext_128 : decode cX5_readNext 128 = .ok (.sipush 1000, 3) := by decide +kernel
theorem dX5_readNext_131 : decode cX5_readNext 131 = .ok (.invokestatic 41, 3) := by decide +kernel
theorem dX5_readNext_134 : decode cX5_readNext 134 = .ok (.putfield 21, 3) := by decide +kernel
theorem dX5_readNext_137 : decode cX5_readNext 137 = .ok (.aload_n 0, 1) := by decide +kernel
theorem dX5_readNext_138 : decode cX5_readNext 138 = .ok (.dup, 1) := by decide +kernel
theorem dX5_readNext_139 : decode cX5_readNext 139 = .ok (.getfield 24, 3) := by decide +kernel
theorem dX5_readNext_142 : decode cX5_readNext 142 = .ok (.iconst 1, 1) := by decide +kernel
theorem dX5_readNext_143 : decode cX5_readNext 143 = .ok (.iadd, 1) := by decide +kernel
theorem dX5_readNext_144 : decode cX5_readNext 144 = .ok (.putfield 24, 3) := by decide +kernel
theorem dX5_readNext_147 : decode cX5_readNext 147 = .ok (.aload_n 0, 1) := by decide +kernel
theorem dX5_readNext_148 : decode cX5_readNext 148 = .ok (.getfield 15, 3) := by decide +kernel
theorem dX5_readNext_151 : decode cX5_readNext 151 = .ok (.iconst 2, 1) := by decide +kernel
theorem dX5_readNext_152 : decode cX5_readNext 152 = .ok (.if_icmp .eq 11, 3) := by decide +kernel
theorem dX5_readNext_155 : decode cX5_readNext 155 = .ok (.aload_n 0, 1) := by decide +kernel
theorem dX5_readNext_156 : decode cX5_readNext 156 = .ok (.getfield 15, 3) := by decide +kernel
theorem dX5_readNext_159 : decode cX5_readNext 159 = .ok (.iconst 3, 1) := by decide +kernel
theorem dX5_readNext_160 : decode cX5_readNext 160 = .ok (.if_icmp .ne 25, 3) := by decide +kernel
theorem dX5_readNext_163 : decode cX5_readNext 163 = .ok (.aload_n 0, 1) := by decide +kernel
theorem dX5_readNext_164 : decode cX5_readNext 164 = .ok (.aload_n 0, 1) := by decide +kernel
theorem dX5_readNext_165 : decode cX5_readNext 165 = .ok (.getfield 24, 3) := by decide +kernel
theorem dX5_readNext_168 : decode cX5_readNext 168 = .ok (.invokevirtual 34, 3) := by decide +kernel
theorem dX5_readNext_171 : decode cX5_readNext 171 = .ok (.invokestatic 38, 3) := by decide +kernel
theorem dX5_readNext_174 : decode cX5_readNext 174 = .ok (.aload_n 0, 1) := by decide +kernel
theorem dX5_readNext_175 : decode cX5_readNext 175 = .ok (.getfield 15, 3) := by decide +kernel
theorem dX5_readNext_178 : decode cX5_readNext 178 = .ok (.if_icmp .ne 7, 3) := by decide +kernel
theorem dX5_readNext_181 : decode cX5_readNext 181 = .ok (.iconst 1, 1) := by decide +kernel
theorem dX5_readNext_182 : decode cX5_readNext 182 = .ok (.goto 4, 3) := by decide +kernel
theorem dX5_readNext_185 : decode cX5_readNext 185 = .ok (.iconst 0, 1) := by decide +kernel
theorem dX5_readNext_186 : decode cX5_readNext 186 = .ok (.istore_n 1, 1) := by decide +kernel
theorem dX5_readNext_187 : decode cX5_readNext 187 = .ok (.iinc 2 1, 3) := by decide +kernel
theorem dX5_readNext_190 : decode cX5_readNext 190 = .ok (.goto (-101), 3) := by decide +kernel
theorem dX5_readNext_193 : decode cX5_readNext 193 = .ok (.return_, 1) := by decide +kernel
theorem dX5_is_0 : decode cX5_is 0 = .ok (.aload_n 0, 1) := by decide +kernel
theorem dX5_is_1 : decode cX5_is 1 = .ok (.getfield 15, 3) := by decide +kernel
theorem dX5_is_4 : decode cX5_is 4 = .ok (.iconst 2, 1) := by decide +kernel
theorem dX5_is_5 : decode cX5_is 5 = .ok (.if_icmp .ne 19, 3) := by decide +kernel
theorem dX5_is_8 : decode cX5_is 8 = .ok (.aload_n 0, 1) := by decide +kernel
theorem dX5_is_9 : decode cX5_is 9 = .ok (.getfield 24, 3) := by decide +kernel
theorem dX5_is_12 : decode cX5_is 12 = .ok (.aload_n 0, 1) := by decide +kernel
theorem dX5_is_13 : decode cX5_is 13 = .ok (.getfield 18, 3) := by decide +kernel
theorem dX5_is_16 : decode cX5_is 16 = .ok (.isub, 1) := by decide +kernel
theorem dX5_is_17 : decode cX5_is 17 = .ok (.aload_n 1, 1) := by decide +kernel
theorem dX5_is_18 : decode cX5_is 18 = .ok (.invokevirtual 47, 3) := by decide +kernel
theorem dX5_is_21 : decode cX5_is 21 = .ok (.if_icmp .eq 5, 3) := by decide +kernel
theorem dX5_is_24 : decode cX5_is 24 = .ok (.iconst 0, 1) := by decide +kernel
theorem dX5_is_25 : decode cX5_is 25 = .ok (.ireturn, 1) := by decide +kernel
theorem dX5_is_26 : decode cX5_is 26 = .ok (.iconst 0, 1) := by decide +kernel
theorem dX5_is_27 : decode cX5_is 27 = .ok (.istore_n 2, 1) := by decide +kernel
theorem dX5_is_28 : decode cX5_is 28 = .ok (.iload_n 2, 1) := by decide +kernel
theorem dX5_is_29 : decode cX5_is 29 = .ok (.aload_n 1, 1) := by decide +kernel
theorem dX5_is_30 : decode cX5_is 30 = .ok (.invokevirtual 47, 3) := by decide +kernel
theorem dX5_is_33 : decode cX5_is 33 = .ok (.if_icmp .ge 29, 3) := by decide +kernel
theorem dX5_is_36 : decode cX5_is 36 = .ok (.aload_n 0, 1) := by decide +kernel
theorem dX5_is_37 : decode cX5_is 37 = .ok (.aload_n 0, 1) := by decide +kernel
theorem dX5_is_38 : decode cX5_is 38 = .ok (.getfield 18, 3) := by decide +kernel
theorem dX5_is_41 : decode cX5_is 41 = .ok (.iload_n 2, 1) := by decide +kernel
theorem dX5_is_42 : decode cX5_is 42 = .ok (.iadd, 1) := by decide +kernel
theorem dX5_is_43 : decode cX5_is 43 = .ok (.invokevirtual 34, 3) := by decide +kernel
theorem dX5_is_46 : decode cX5_is 46 = .ok (.aload_n 1, 1) := by decide +kernel
theorem dX5_is_47 : decode cX5_is 47 = .ok (.iload_n 2, 1) := by decide +kernel
theorem dX5_is_48 : decode cX5_is 48 = .ok (.invokevirtual 52, 3) := by decide +kernel
theorem dX5_is_51 : decode cX5_is 51 = .ok (.if_icmp .eq 5, 3) := by decide +kernel
theorem dX5_is_54 : decode cX5_is 54 = .ok (.iconst 0, 1) := by decide +kernel
theorem dX5_is_55 : decode cX5_is 55 = .ok (.ireturn, 1) := by decide +kernel
theorem dX5_is_56 : decode cX5_is 56 = .ok (.iinc 2 1, 3) := by decide +kernel
theorem dX5_is_59 : decode cX5_is 59 = .ok (.goto (-31), 3) := by decide +kernel
theorem dX5_is_62 : decode cX5_is 62 = .ok (.iconst 1, 1) := by decide +kernel
theorem dX5_is_63 : decode cX5_is 63 = .ok (.ireturn, 1) := by decide +kernel
theorem dX5_sortOf_0 : decode cX5_sortOf 0 = .ok (.iload_n 0, 1) := by decide +kernel
theorem dX5_sortOf_1 : decode cX5_sortOf 1 = .ok (.iconst (-1), 1) := by decide +kernel
theorem dX5_sortOf_2 : decode cX5_sortOf 2 = .ok (.if_icmp .ne 5, 3) := by decide +kernel
theorem dX5_sortOf_5 : decode cX5_sortOf 5 = .ok (.iconst 0, 1) := by decide +kernel
theorem dX5_sortOf_6 : decode cX5_sortOf 6 = .ok (.ireturn, 1) := by decide +kernel
theorem dX5_sortOf_7 : decode cX5_sortOf 7 = .ok (.iload_n 0, 1) := by decide +kernel
theorem dX5_sortOf_8 : decode cX5_sortOf 8 = .ok (.bipush 97, 2) := by decide +kernel
theorem dX5_sortOf_10 : decode cX5_sortOf 10 = .ok (.if_icmp .lt 11, 3) := by decide +kernel
theorem dX5_sortOf_13 : decode cX5_sortOf 13 = .ok (.iload_n 0, 1) := by decide +kernel
theorem dX5_sortOf_14 : decode cX5_sortOf 14 = .ok (.bipush 122, 2) := by decide +kernel
theorem dX5_sortOf_16 : decode cX5_sortOf 16 = .ok (.if_icmp .gt 5, 3) := by decide +kernel
theorem dX5_sortOf_19 : decode cX5_sortOf 19 = .ok (.iconst 2, 1) := by decide +kernel
theorem dX5_sortOf_20 : decode cX5_sortOf 20 = .ok (.ireturn, 1) := by decide +kernel
theorem dX5_sortOf_21 : decode cX5_sortOf 21 = .ok (.iload_n 0, 1) := by decide +kernel
theorem dX5_sortOf_22 : decode cX5_sortOf 22 = .ok (.bipush 48, 2) := by decide +kernel
theorem dX5_sortOf_24 : decode cX5_sortOf 24 = .ok (.if_icmp .lt 11, 3) := by decide +kernel
theorem dX5_sortOf_27 : decode cX5_sortOf 27 = .ok (.iload_n 0, 1) := by decide +kernel
theorem dX5_sortOf_28 : decode cX5_sortOf 28 = .ok (.bipush 57, 2) := by decide +kernel
theorem dX5_sortOf_30 : decode cX5_sortOf 30 = .ok (.if_icmp .gt 5, 3) := by decide +kernel
theorem dX5_sortOf_33 : decode cX5_sortOf 33 = .ok (.iconst 3, 1) := by decide +kernel
theorem dX5_sortOf_34 : decode cX5_sortOf 34 = .ok (.ireturn, 1) := by decide +kernel
theorem dX5_sortOf_35 : decode cX5_sortOf 35 = .ok (.iload_n 0, 1) := by decide +kernel
theorem dX5_sortOf_36 : decode cX5_sortOf 36 = .ok (.bipush 59, 2) := by decide +kernel
theorem dX5_sortOf_38 : decode cX5_sortOf 38 = .ok (.if_icmp .ne 7, 3) := by decide +kernel
theorem dX5_sortOf_41 : decode cX5_sortOf 41 = .ok (.iconst 4, 1) := by decide +kernel
theorem dX5_sortOf_42 : decode cX5_sortOf 42 = .ok (.goto 4, 3) := by decide +kernel
theorem dX5_sortOf_45 : decode cX5_sortOf 45 = .ok (.iconst 1, 1) := by decide +kernel
theorem dX5_sortOf_46 : decode cX5_sortOf 46 = .ok (.ireturn, 1) := by decide +kernel
theorem dX5_byteAt_0 : decode cX5_byteAt 0 = .ok (.iload_n 1, 1) := by decide +kernel
theorem dX5_byteAt_1 : decode cX5_byteAt 1 = .ok (.ifCond .lt 33, 3) := by decide +kernel
theorem dX5_byteAt_4 : decode cX5_byteAt 4 = .ok (.iload_n 1, 1) := by decide +kernel
theorem dX5_byteAt_5 : decode cX5_byteAt 5 = .ok (.aload_n 0, 1) := by decide +kernel
theorem dX5_byteAt_6 : decode cX5_byteAt 6 = .ok (.getfield 9, 3) := by decide +kernel
theorem dX5_byteAt_9 : decode cX5_byteAt 9 = .ok (.if_icmp .ge 25, 3) := by decide +kernel
theorem dX5_byteAt_12 : decode cX5_byteAt 12 = .ok (.iload_n 1, 1) := by decide +kernel
theorem dX5_byteAt_13 : decode cX5_byteAt 13 = .ok (.aload_n 0, 1) := by decide +kernel
theorem dX5_byteAt_14 : decode cX5_byteAt 14 = .ok (.getfield 27, 3) := by decide +kernel
theorem dX5_byteAt_17 : decode cX5_byteAt 17 = .ok (.arraylength, 1) := by decide +kernel
theorem dX5_byteAt_18 : decode cX5_byteAt 18 = .ok (.if_icmp .ge 16, 3) := by decide +kernel
theorem dX5_byteAt_21 : decode cX5_byteAt 21 = .ok (.aload_n 0, 1) := by decide +kernel
theorem dX5_byteAt_22 : decode cX5_byteAt 22 = .ok (.getfield 27, 3) := by decide +kernel
theorem dX5_byteAt_25 : decode cX5_byteAt 25 = .ok (.iload_n 1, 1) := by decide +kernel
theorem dX5_byteAt_26 : decode cX5_byteAt 26 = .ok (.baload, 1) := by decide +kernel
theorem dX5_byteAt_27 : decode cX5_byteAt 27 = .ok (.sipush 255, 3) := by decide +kernel
theorem dX5_byteAt_30 : decode cX5_byteAt 30 = .ok (.iand, 1) := by decide +kernel
theorem dX5_byteAt_31 : decode cX5_byteAt 31 = .ok (.goto 4, 3) := by decide +kernel
theorem dX5_byteAt_34 : decode cX5_byteAt 34 = .ok (.iconst (-1), 1) := by decide +kernel
theorem dX5_byteAt_35 : decode cX5_byteAt 35 = .ok (.ireturn, 1) := by decide +kernel
theorem dX6_init_0 : decode cX6_init 0 = .ok (.aload_n 0, 1) := by decide +kernel
theorem dX6_init_1 : decode cX6_init 1 = .ok (.invokespecial 3, 3) := by decide +kernel
theorem dX6_init_4 : decode cX6_init 4 = .ok (.aload_n 0, 1) := by decide +kernel
theorem dX6_init_5 : decode cX6_init 5 = .ok (.new 9, 3) := by decide +kernel
theorem dX6_init_8 : decode cX6_init 8 = .ok (.dup, 1) := by decide +kernel
theorem dX6_init_9 : decode cX6_init 9 = .ok (.invokespecial 11, 3) := by decide +kernel
theorem dX6_init_12 : decode cX6_init 12 = .ok (.putfield 12, 3) := by decide +kernel
theorem dX6_init_15 : decode cX6_init 15 = .ok (.aload_n 0, 1) := by decide +kernel
theorem dX6_init_16 : decode cX6_init 16 = .ok (.new 16, 3) := by decide +kernel
theorem dX6_init_19 : decode cX6_init 19 = .ok (.dup, 1) := by decide +kernel
theorem dX6_init_20 : decode cX6_init 20 = .ok (.invokespecial 18, 3) := by decide +kernel
theorem dX6_init_23 : decode cX6_init 23 = .ok (.putfield 19, 3) := by decide +kernel
theorem dX6_init_26 : decode cX6_init 26 = .ok (.aload_n 0, 1) := by decide +kernel
theorem dX6_init_27 : decode cX6_init 27 = .ok (.new 23, 3) := by decide +kernel
theorem dX6_init_30 : decode cX6_init 30 = .ok (.dup, 1) := by decide +kernel
theorem dX6_init_31 : decode cX6_init 31 = .ok (.invokespecial 25, 3) := by decide +kernel
theorem dX6_init_34 : decode cX6_init 34 = .ok (.putfield 26, 3) := by decide +kernel
theorem dX6_init_37 : decode cX6_init 37 = .ok (.aload_n 0, 1) := by decide +kernel
theorem dX6_init_38 : decode cX6_init 38 = .ok (.new 30, 3) := by decide +kernel
theorem dX6_init_41 : decode cX6_init 41 = .ok (.dup, 1) := by decide +kernel
theorem dX6_init_42 : decode cX6_init 42 = .ok (.invokespecial 32, 3) := by decide +kernel
theorem dX6_init_45 : decode cX6_init 45 = .ok (.putfield 33, 3) := by decide +kernel
theorem dX6_init_48 : decode cX6_init 48 = .ok (.aload_n 0, 1) := by decide +kernel
theorem dX6_init_49 : decode cX6_init 49 = .ok (.new 30, 3) := by decide +kernel
theorem dX6_init_52 : decode cX6_init 52 = .ok (.dup, 1) := by decide +kernel
theorem dX6_init_53 : decode cX6_init 53 = .ok (.invokespecial 32, 3) := by decide +kernel
theorem dX6_init_56 : decode cX6_init 56 = .ok (.putfield 37, 3) := by decide +kernel
theorem dX6_init_59 : decode cX6_init 59 = .ok (.aload_n 0, 1) := by decide +kernel
theorem dX6_init_60 : decode cX6_init 60 = .ok (.bipush 8, 2) := by decide +kernel
theorem dX6_init_62 : decode cX6_init 62 = .ok (.anewarray 30, 3) := by decide +kernel
theorem dX6_init_65 : decode cX6_init 65 = .ok (.putfield 40, 3) := by decide +kernel
theorem dX6_init_68 : decode cX6_init 68 = .ok (.aload_n 0, 1) := by decide +kernel
theorem dX6_init_69 : decode cX6_init 69 = .ok (.iconst 0, 1) := by decide +kernel
theorem dX6_init_70 : decode cX6_init 70 = .ok (.putfield 44, 3) := by decide +kernel
theorem dX6_init_73 : decode cX6_init 73 = .ok (.aload_n 0, 1) := by decide +kernel
theorem dX6_init_74 : decode cX6_init 74 = .ok (.iconst 0, 1) := by decide +kernel
theorem dX6_init_75 : decode cX6_init 75 = .ok (.putfield 48, 3) := by decide +kernel
theorem dX6_init_78 : decode cX6_init 78 = .ok (.aload_n 0, 1) := by decide +kernel
theorem dX6_init_79 : decode cX6_init 79 = .ok (.iconst 2, 1) := by decide +kernel
theorem dX6_init_80 : decode cX6_init 80 = .ok (.anewarray 30, 3) := by decide +kernel
theorem dX6_init_83 : decode cX6_init 83 = .ok (.putfield 51, 3) := by decide +kernel
theorem dX6_init_86 : decode cX6_init 86 = .ok (.aload_n 0, 1) := by decide +kernel
theorem dX6_init_87 : decode cX6_init 87 = .ok (.iconst 2, 1) := by decide +kernel
theorem dX6_init_88 : decode cX6_init 88 = .ok (.newarray .boolean, 2) := by decide +kernel
theorem dX6_init_90 : decode cX6_init 90 = .ok (.putfield 54, 3) := by decide +kernel
theorem dX6_init_93 : decode cX6_init 93 = .ok (.aload_n 0, 1) := by decide +kernel
theorem dX6_init_94 : decode cX6_init 94 = .ok (.bipush 41, 2) := by decide +kernel
theorem dX6_init_96 : decode cX6_init 96 = .ok (.newarray .byte, 2) := by decide +kernel
theorem dX6_init_98 : decode cX6_init 98 = .ok (.putfield 58, 3) := by decide +kernel
theorem dX6_init_101 : decode cX6_init 101 = .ok (.aload_n 0, 1) := by decide +kernel
theorem dX6_init_102 : decode cX6_init 102 = .ok (.iconst 0, 1) := by decide +kernel
theorem dX6_init_103 : decode cX6_init 103 = .ok (.putfield 62, 3) := by decide +kernel
theorem dX6_init_106 : decode cX6_init 106 = .ok (.iconst 0, 1) := by decide +kernel
theorem dX6_init_107 : decode cX6_init 107 = .ok (.istore_n 1, 1) := by decide +kernel
theorem dX6_init_108 : decode cX6_init 108 = .ok (.iload_n 1, 1) := by decide +kernel
theorem dX6_init_109 : decode cX6_init 109 = .ok (.aload_n 0, 1) := by decide +kernel
theorem dX6_init_110 : decode cX6_init 110 = .ok (.getfield 40, 3) := by decide +kernel
theorem dX6_init_113 : decode cX6_init 113 = .ok (.arraylength, 1) := by decide +kernel
theorem dX6_init_114 : decode cX6_init 114 = .ok (.if_icmp .ge 22, 3) := by decide +kernel
theorem dX6_init_117 : decode cX6_init 117 = .ok (.aload_n 0, 1) := by decide +kernel
theorem dX6_init_118 : decode cX6_init 118 = .ok (.getfield 40, 3) := by decide +kernel
theorem dX6_init_121 : decode cX6_init 121 = .ok (.iload_n 1, 1) := by decide +kernel
theorem dX6_init_122 : decode cX6_init 122 = .ok (.new 30, 3) := by decide +kernel
theorem dX6_init_125 : decode cX6_init 125 = .ok (.dup, 1) := by decide +kernel
theorem dX6_init_126 : decode cX6_init 126 = .ok (.invokespecial 32, 3) := by decide +kernel
theorem dX6_init_129 : decode cX6_init 129 = .ok (.aastore, 1) := by decide +kernel
theorem dX6_init_130 : decode cX6_init 130 = .ok (.iinc 1 1, 3) := by decide +kernel
theorem dX6_init_133 : decode cX6_init 133 = .ok (.goto (-25), 3) := by decide +kernel
theorem dX6_init_136 : decode cX6_init 136 = .ok (.iconst 0, 1) := by decide +kernel
theorem dX6_init_137 : decode cX6_init 137 = .ok (.istore_n 1, 1) := by decide +kernel
theorem dX6_init_138 : decode cX6_init 138 = .ok (.iload_n 1, 1) := by decide +kernel
theorem dX6_init_139 : decode cX6_init 139 = .ok (.aload_n 0, 1) := by decide +kernel
theorem dX6_init_140 : decode cX6_init 140 = .ok (.getfield 51, 3) := by decide +kernel
theorem dX6_init_143 : decode cX6_init 143 = .ok (.arraylength, 1) := by decide +kernel
theorem dX6_init_144 : decode cX6_init 144 = .ok (.if_icmp .ge 22, 3) := by decide +kernel
theorem dX6_init_147 : decode cX6_init 147 = .ok (.aload_n 0, 1) := by decide +kernel
theorem dX6_init_148 : decode cX6_init 148 = .ok (.getfield 51, 3) := by decide +kernel
theorem dX6_init_151 : decode cX6_init 151 = .ok (.iload_n 1, 1) := by decide +kernel
theorem dX6_init_152 : decode cX6_init 152 = .ok (.new 30, 3) := by decide +kernel
theorem dX6_init_155 : decode cX6_init 155 = .ok (.dup, 1) := by decide +kernel
theorem dX6_init_156 : decode cX6_init 156 = .ok (.invokespecial 32, 3) := by decide +kernel
theorem dX6_init_159 : decode cX6_init 159 = .ok (.aastore, 1) := by decide +kernel
theorem dX6_init_160 : decode cX6_init 160 = .ok (.iinc 1 1, 3) := by decide +kernel
theorem dX6_init_163 : decode cX6_init 163 = .ok (.goto (-25), 3) := by decide +kernel
theorem dX6_init_166 : decode cX6_init 166 = .ok (.aload_n 0, 1) := by decide +kernel
theorem dX6_init_167 : decode cX6_init 167 = .ok (.getfield 33, 3) := by decide +kernel
theorem dX6_init_170 : decode cX6_init 170 = .ok (.invokevirtual 65, 3) := by decide +kernel
theorem dX6_init_173 : decode cX6_init 173 = .ok (.return_, 1) := by decide +kernel
theorem dX6_append_0 : decode cX6_append 0 = .ok (.aload_n 0, 1) := by decide +kernel
theorem dX6_append_1 : decode cX6_append 1 = .ok (.getfield 12, 3) := by decide +kernel
theorem dX6_append_4 : decode cX6_append 4 = .ok (.getfield 68, 3) := by decide +kernel
theorem dX6_append_7 : decode cX6_append 7 = .ok (.astore 6, 2) := by decide +kernel
theorem dX6_append_9 : decode cX6_append 9 = .ok (.aload 6, 2) := by decide +kernel
theorem dX6_append_11 : decode cX6_append 11 = .ok (.invokevirtual 72, 3) := by decide +kernel
theorem dX6_append_14 : decode cX6_append 14 = .ok (.ifCond .ne 5, 3) := by decide +kernel
theorem dX6_append_17 : decode cX6_append 17 = .ok (.iconst (-1), 1) := by decide +kernel
theorem dX6_append_18 : decode cX6_append 18 = .ok (.ireturn, 1) := by decide +kernel
theorem dX6_append_19 : decode cX6_append 19 = .ok (.aload 6, 2) := by decide +kernel
theorem dX6_append_21 : decode cX6_append 21 = .ok (.iload_n 1, 1) := by decide +kernel
theorem dX6_append_22 : decode cX6_append 22 = .ok (.invokevirtual 78, 3) := by decide +kernel
theorem dX6_append_25 : decode cX6_append 25 = .ok (.aload 6, 2) := by decide +kernel
theorem dX6_append_27 : decode cX6_append 27 = .ok (.iload_n 2, 1) := by decide +kernel
theorem dX6_append_28 : decode cX6_append 28 = .ok (.invokevirtual 78, 3) := by decide +kernel
theorem dX6_append_31 : decode cX6_append 31 = .ok (.aload 6, 2) := by decide +kernel
theorem dX6_append_33 : decode cX6_append 33 = .ok (.iload_n 3, 1) := by decide +kernel
theorem dX6_append_34 : decode cX6_append 34 = .ok (.invokevirtual 78, 3) := by decide +kernel
theorem dX6_append_37 : decode cX6_append 37 = .ok (.aload 6, 2) := by decide +kernel
theorem dX6_append_39 : decode cX6_append 39 = .ok (.iload 4, 2) := by decide +kernel
theorem dX6_append_41 : decode cX6_append 41 = .ok (.invokevirtual 78, 3) := by decide +kernel
theorem dX6_append_44 : decode cX6_append 44 = .ok (.aload 6, 2) := by decide +kernel
theorem dX6_append_46 : decode cX6_append 46 = .ok (.iload 5, 2) := by decide +kernel
theorem dX6_append_48 : decode cX6_append 48 = .ok (.invokevirtual 78, 3) := by decide +kernel
theorem dX6_append_51 : decode cX6_append 51 = .ok (.aload 6, 2) := by decide +kernel
theorem dX6_append_53 : decode cX6_append 53 = .ok (.getfield 82, 3) := by decide +kernel
theorem dX6_append_56 : decode cX6_append 56 = .ok (.ireturn, 1) := by decide +kernel
theorem dX6_truncateInput_0 : decode cX6_truncateInput 0 = .ok (.aload_n 0, 1) := by decide +kernel
theorem dX6_truncateInput_1 : decode cX6_truncateInput 1 = .ok (.getfield 12, 3) := by decide +kernel
theorem dX6_truncateInput_4 : decode cX6_truncateInput 4 = .ok (.getfield 68, 3) := by decide +kernel
theorem dX6_truncateInput_7 : decode cX6_truncateInput 7 = .ok (.astore_n 2, 1) := by decide +kernel
theorem dX6_truncateInput_8 : decode cX6_truncateInput 8 = .ok (.iload_n 1, 1) := by decide +kernel
theorem dX6_truncateInput_9 : decode cX6_truncateInput 9 = .ok (.ifCond .lt 11, 3) := by decide +kernel
theorem dX6_truncateInput_12 : decode cX6_truncateInput 12 = .ok (.iload_n 1, 1) := by decide +kernel
theorem dX6_truncateInput_13 : decode cX6_truncateInput 13 = .ok (.aload_n 2, 1) := by decide +kernel
theorem dX6_truncateInput_14 : decode cX6_truncateInput 14 = .ok (.getfield 82, 3) := by decide +kernel
theorem dX6_truncateInput_17 : decode cX6_truncateInput 17 = .ok (.if_icmp .le 13, 3) := by decide +kernel
theorem dX6_truncateInput_20 : decode cX6_truncateInput 20 = .ok (.new 85, 3) := by decide +kernel
theorem dX6_truncateInput_23 : decode cX6_truncateInput 23 = .ok (.dup, 1) := by decide +kernel
theorem dX6_truncateInput_24 : decode cX6_truncateInput 24 = .ok (.ldc 87, 2) := by decide +kernel
theorem dX6_truncateInput_26 : decode cX6_truncateInput 26 = .ok (.invokespecial 89, 3) := by decide +kernel
theorem dX6_truncateInput_29 : decode cX6_truncateInput 29 = .ok (.athrow, 1) := by decide +kernel
theorem dX6_truncateInput_30 : decode cX6_truncateInput 30 = .ok (.aload_n 2, 1) := by decide +kernel
theorem dX6_truncateInput_31 : decode cX6_truncateInput 31 = .ok (.iload_n 1, 1) := by decide +kernel
theorem dX6_truncateInput_32 : decode cX6_truncateInput 32 = .ok (.putfield 82, 3) := by decide +kernel
theorem dX6_truncateInput_35 : decode cX6_truncateInput 35 = .ok (.iload_n 1, 1) := by decide +kernel
theorem dX6_truncateInput_36 : decode cX6_truncateInput 36 = .ok (.ireturn, 1) := by decide +kernel
theorem dX6_load_0 : decode cX6_load 0 = .ok (.aload_n 0, 1) := by decide +kernel
theorem dX6_load_1 : decode cX6_load 1 = .ok (.getfield 12, 3) := by decide +kernel
theorem dX6_load_4 : decode cX6_load 4 = .ok (.invokevirtual 92, 3) := by decide +kernel
theorem dX6_load_7 : decode cX6_load 7 = .ok (.aload_n 0, 1) := by decide +kernel
theorem dX6_load_8 : decode cX6_load 8 = .ok (.getfield 12, 3) := by decide +kernel
theorem dX6_load_11 : decode cX6_load 11 = .ok (.aload_n 0, 1) := by decide +kernel
theorem dX6_load_12 : decode cX6_load 12 = .ok (.getfield 37, 3) := by decide +kernel
theorem dX6_load_15 : decode cX6_load 15 = .ok (.getfield 95, 3) := by decide +kernel
theorem dX6_load_18 : decode cX6_load 18 = .ok (.invokevirtual 99, 3) := by decide +kernel
theorem dX6_load_21 : decode cX6_load 21 = .ok (.istore_n 1, 1) := by decide +kernel
theorem dX6_load_22 : decode cX6_load 22 = .ok (.iload_n 1, 1) := by decide +kernel
theorem dX6_load_23 : decode cX6_load 23 = .ok (.ifCond .eq 15, 3) := by decide +kernel
theorem dX6_load_26 : decode cX6_load 26 = .ok (.aload_n 0, 1) := by decide +kernel
theorem dX6_load_27 : decode cX6_load 27 = .ok (.getfield 37, 3) := by decide +kernel
theorem dX6_load_30 : decode cX6_load 30 = .ok (.invokevirtual 103, 3) := by decide +kernel
theorem dX6_load_33 : decode cX6_load 33 = .ok (.aload_n 0, 1) := by decide +kernel
theorem dX6_load_34 : decode cX6_load 34 = .ok (.invokevirtual 104, 3) := by decide +kernel
theorem dX6_load_37 : decode cX6_load 37 = .ok (.istore_n 1, 1) := by decide +kernel
theorem dX6_load_38 : decode cX6_load 38 = .ok (.aload_n 0, 1) := by decide +kernel
theorem dX6_load_39 : decode cX6_load 39 = .ok (.iload_n 1, 1) := by decide +kernel
theorem dX6_load_40 : decode cX6_load 40 = .ok (.invokevirtual 107, 3) := by decide +kernel
theorem dX6_load_43 : decode cX6_load 43 = .ok (.ifCond .eq 13, 3) := by decide +kernel
theorem dX6_load_46 : decode cX6_load 46 = .ok (.aload_n 0, 1) := by decide +kernel
theorem dX6_load_47 : decode cX6_load 47 = .ok (.getfield 12, 3) := by decide +kernel
theorem dX6_load_50 : decode cX6_load 50 = .ok (.getfield 111, 3) := by decide +kernel
theorem dX6_load_53 : decode cX6_load 53 = .ok (.goto 4, 3) := by decide +kernel
theorem dX6_load_56 : decode cX6_load 56 = .ok (.iconst (-1), 1) := by decide +kernel
theorem dX6_load_57 : decode cX6_load 57 = .ok (.ireturn, 1) := by decide +kernel
theorem dX6_addNote_0 : decode cX6_addNote 0 = .ok (.aload_n 0, 1) := by decide +kernel
theorem dX6_addNote_1 : decode cX6_addNote 1 = .ok (.iload_n 1, 1) := by decide +kernel
theorem dX6_addNote_2 : decode cX6_addNote 2 = .ok (.iload_n 2, 1) := by decide +kernel
theorem dX6_addNote_3 : decode cX6_addNote 3 = .ok (.iload_n 3, 1) := by decide +kernel
theorem dX6_addNote_4 : decode cX6_addNote 4 = .ok (.iload 4, 2) := by decide +kernel
theorem dX6_addNote_6 : decode cX6_addNote 6 = .ok (.invokevirtual 127, 3) := by decide +kernel
theorem dX6_addNote_9 : decode cX6_addNote 9 = .ok (.aload_n 0, 1) := by decide +kernel
theorem dX6_addNote_10 : decode cX6_addNote 10 = .ok (.getfield 26, 3) := by decide +kernel
theorem dX6_addNote_13 : decode cX6_addNote 13 = .ok (.iload_n 1, 1) := by decide +kernel
theorem dX6_addNote_14 : decode cX6_addNote 14 = .ok (.iload_n 2, 1) := by decide +kernel
theorem dX6_addNote_15 : decode cX6_addNote 15 = .ok (.iload_n 3, 1) := by decide +kernel
theorem dX6_addNote_16 : decode cX6_addNote 16 = .ok (.iload 4, 2) := by decide +kernel
theorem dX6_addNote_18 : decode cX6_addNote 18 = .ok (.iload 5, 2) := by decide +kernel
theorem dX6_addNote_20 : decode cX6_addNote 20 = .ok (.iload 6, 2) := by decide +kernel
theorem dX6_addNote_22 : decode cX6_addNote 22 = .ok (.invokevirtual 131, 3) := by decide +kernel
theorem dX6_addNote_25 : decode cX6_addNote 25 = .ok (.aload_n 0, 1) := by decide +kernel
theorem dX6_addNote_26 : decode cX6_addNote 26 = .ok (.invokevirtual 135, 3) := by decide +kernel
theorem dX6_addNote_29 : decode cX6_addNote 29 = .ok (.istore 7, 2) := by decide +kernel
theorem dX6_addNote_31 : decode cX6_addNote 31 = .ok (.iload 7, 2) := by decide +kernel
theorem dX6_addNote_33 : decode cX6_addNote 33 = .ok (.iconst 1, 1) := by decide +kernel
theorem dX6_addNote_34 : decode cX6_addNote 34 = .ok (.if_icmp .ge 13, 3) := by decide +kernel
theorem dX6_addNote_37 : decode cX6_addNote 37 = .ok (.new 139, 3) := by decide +kernel
theorem dX6_addNote_40 : decode cX6_addNote 40 = .ok (.dup, 1) := by decide +kernel
theorem dX6_addNote_41 : decode cX6_addNote 41 = .ok (.ldc 141, 2) := by decide +kernel
theorem dX6_addNote_43 : decode cX6_addNote 43 = .ok (.invokespecial 143, 3) := by decide +kernel
theorem dX6_addNote_46 : decode cX6_addNote 46 = .ok (.athrow, 1) := by decide +kernel
theorem dX6_addNote_47 : decode cX6_addNote 47 = .ok (.aload_n 0, 1) := by decide +kernel
theorem dX6_addNote_48 : decode cX6_addNote 48 = .ok (.invokevirtual 144, 3) := by decide +kernel
theorem dX6_addNote_51 : decode cX6_addNote 51 = .ok (.iload 7, 2) := by decide +kernel
theorem dX6_addNote_53 : decode cX6_addNote 53 = .ok (.ireturn, 1) := by decide +kernel
theorem dX6_clarify_0 : decode cX6_clarify 0 = .ok (.aload_n 0, 1) := by decide +kernel
theorem dX6_clarify_1 : decode cX6_clarify 1 = .ok (.iload_n 1, 1) := by decide +kernel
theorem dX6_clarify_2 : decode cX6_clarify 2 = .ok (.invokevirtual 147, 3) := by decide +kernel
theorem dX6_clarify_5 : decode cX6_clarify 5 = .ok (.iload_n 2, 1) := by decide +kernel
theorem dX6_clarify_6 : decode cX6_clarify 6 = .ok (.aload_n 0, 1) := by decide +kernel
theorem dX6_clarify_7 : decode cX6_clarify 7 = .ok (.getfield 33, 3) := by decide +kernel
theorem dX6_clarify_10 : decode cX6_clarify 10 = .ok (.getfield 95, 3) := by decide +kernel
theorem dX6_clarify_13 : decode cX6_clarify 13 = .ok (.getfield 150, 3) := by decide +kernel
theorem dX6_clarify_16 : decode cX6_clarify 16 = .ok (.invokestatic 155, 3) := by decide +kernel
theorem dX6_clarify_19 : decode cX6_clarify 19 = .ok (.ifCond .eq 20, 3) := by decide +kernel
theorem dX6_clarify_22 : decode cX6_clarify 22 = .ok (.iload_n 3, 1) := by decide +kernel
theorem dX6_clarify_23 : decode cX6_clarify 23 = .ok (.aload_n 0, 1) := by decide +kernel
theorem dX6_clarify_24 : decode cX6_clarify 24 = .ok (.getfield 33, 3) := by decide +kernel
theorem dX6_clarify_27 : decode cX6_clarify 27 = .ok (.getfield 95, 3) := by decide +kernel
theorem dX6_clarify_30 : decode cX6_clarify 30 = .ok (.getfield 159, 3) := by decide +kernel
theorem dX6_clarify_33 : decode cX6_clarify 33 = .ok (.invokestatic 155, 3) := by decide +kernel
theorem dX6_clarify_36 : decode cX6_clarify 36 = .ok (.ifCond .ne 13, 3) := by decide +kernel
theorem dX6_clarify_39 : decode cX6_clarify 39 = .ok (.new 85, 3) := by decide +kernel
theorem dX6_clarify_42 : decode cX6_clarify 42 = .ok (.dup, 1) := by decide +kernel
theorem dX6_clarify_43 : decode cX6_clarify 43 = .ok (.ldc 162, 2) := by decide +kernel
theorem dX6_clarify_45 : decode cX6_clarify 45 = .ok (.invokespecial 89, 3) := by decide +kernel
theorem dX6_clarify_48 : decode cX6_clarify 48 = .ok (.athrow, 1) := by decide +kernel
theorem dX6_clarify_49 : decode cX6_clarify 49 = .ok (.aload_n 0, 1) := by decide +kernel
theorem dX6_clarify_50 : decode cX6_clarify 50 = .ok (.getfield 37, 3) := by decide +kernel
theorem dX6_clarify_53 : decode cX6_clarify 53 = .ok (.aload_n 0, 1) := by decide +kernel
theorem dX6_clarify_54 : decode cX6_clarify 54 = .ok (.getfield 33, 3) := by decide +kernel
theorem dX6_clarify_57 : decode cX6_clarify 57 = .ok (.invokevirtual 114, 3) := by decide +kernel
theorem dX6_clarify_60 : decode cX6_clarify 60 = .ok (.aload_n 0, 1) := by decide +kernel
theorem dX6_clarify_61 : decode cX6_clarify 61 = .ok (.getfield 37, 3) := by decide +kernel
theorem dX6_clarify_64 : decode cX6_clarify 64 = .ok (.iload_n 1, 1) := by decide +kernel
theorem dX6_clarify_65 : decode cX6_clarify 65 = .ok (.iload_n 2, 1) := by decide +kernel
theorem dX6_clarify_66 : decode cX6_clarify 66 = .ok (.iload_n 3, 1) := by decide +kernel
theorem dX6_clarify_67 : decode cX6_clarify 67 = .ok (.invokevirtual 164, 3) := by decide +kernel
theorem dX6_clarify_70 : decode cX6_clarify 70 = .ok (.aload_n 0, 1) := by decide +kernel
theorem dX6_clarify_71 : decode cX6_clarify 71 = .ok (.getfield 37, 3) := by decide +kernel
theorem dX6_clarify_74 : decode cX6_clarify 74 = .ok (.iload_n 1, 1) := by decide +kernel
theorem dX6_clarify_75 : decode cX6_clarify 75 = .ok (.invokevirtual 168, 3) := by decide +kernel
theorem dX6_clarify_78 : decode cX6_clarify 78 = .ok (.istore 4, 2) := by decide +kernel
theorem dX6_clarify_80 : decode cX6_clarify 80 = .ok (.iload 4, 2) := by decide +kernel
theorem dX6_clarify_82 : decode cX6_clarify 82 = .ok (.iconst 1, 1) := by decide +kernel
theorem dX6_clarify_83 : decode cX6_clarify 83 = .ok (.if_icmp .ge 13, 3) := by decide +kernel
theorem dX6_clarify_86 : decode cX6_clarify 86 = .ok (.new 139, 3) := by decide +kernel
theorem dX6_clarify_89 : decode cX6_clarify 89 = .ok (.dup, 1) := by decide +kernel
theorem dX6_clarify_90 : decode cX6_clarify 90 = .ok (.ldc 172, 2) := by decide +kernel
theorem dX6_clarify_92 : decode cX6_clarify 92 = .ok (.invokespecial 143, 3) := by decide +kernel
theorem dX6_clarify_95 : decode cX6_clarify 95 = .ok (.athrow, 1) := by decide +kernel
theorem dX6_clarify_96 : decode cX6_clarify 96 = .ok (.aload_n 0, 1) := by decide +kernel
theorem dX6_clarify_97 : decode cX6_clarify 97 = .ok (.invokevirtual 144, 3) := by decide +kernel
theorem dX6_clarify_100 : decode cX6_clarify 100 = .ok (.iload 4, 2) := by decide +kernel
theorem dX6_clarify_102 : decode cX6_clarify 102 = .ok (.ireturn, 1) := by decide +kernel
theorem dX6_dropNote_0 : decode cX6_dropNote 0 = .ok (.aload_n 0, 1) := by decide +kernel
theorem dX6_dropNote_1 : decode cX6_dropNote 1 = .ok (.getfield 33, 3) := by decide +kernel
theorem dX6_dropNote_4 : decode cX6_dropNote 4 = .ok (.getfield 174, 3) := by decide +kernel
theorem dX6_dropNote_7 : decode cX6_dropNote 7 = .ok (.ifCond .ne 13, 3) := by decide +kernel
theorem dX6_dropNote_10 : decode cX6_dropNote 10 = .ok (.new 139, 3) := by decide +kernel
theorem dX6_dropNote_13 : decode cX6_dropNote 13 = .ok (.dup, 1) := by decide +kernel
theorem dX6_dropNote_14 : decode cX6_dropNote 14 = .ok (.ldc 177, 2) := by decide +kernel
theorem dX6_dropNote_16 : decode cX6_dropNote 16 = .ok (.invokespecial 143, 3) := by decide +kernel
theorem dX6_dropNote_19 : decode cX6_dropNote 19 = .ok (.athrow, 1) := by decide +kernel
theorem dX6_dropNote_20 : decode cX6_dropNote 20 = .ok (.aload_n 0, 1) := by decide +kernel
theorem dX6_dropNote_21 : decode cX6_dropNote 21 = .ok (.getfield 37, 3) := by decide +kernel
theorem dX6_dropNote_24 : decode cX6_dropNote 24 = .ok (.aload_n 0, 1) := by decide +kernel
theorem dX6_dropNote_25 : decode cX6_dropNote 25 = .ok (.getfield 33, 3) := by decide +kernel
theorem dX6_dropNote_28 : decode cX6_dropNote 28 = .ok (.invokevirtual 114, 3) := by decide +kernel
theorem dX6_dropNote_31 : decode cX6_dropNote 31 = .ok (.aload_n 0, 1) := by decide +kernel
theorem dX6_dropNote_32 : decode cX6_dropNote 32 = .ok (.getfield 37, 3) := by decide +kernel
theorem dX6_dropNote_35 : decode cX6_dropNote 35 = .ok (.dup, 1) := by decide +kernel
theorem dX6_dropNote_36 : decode cX6_dropNote 36 = .ok (.getfield 174, 3) := by decide +kernel
theorem dX6_dropNote_39 : decode cX6_dropNote 39 = .ok (.iconst 1, 1) := by decide +kernel
theorem dX6_dropNote_40 : decode cX6_dropNote 40 = .ok (.isub, 1) := by decide +kernel
theorem dX6_dropNote_41 : decode cX6_dropNote 41 = .ok (.putfield 174, 3) := by decide +kernel
theorem dX6_dropNote_44 : decode cX6_dropNote 44 = .ok (.aload_n 0, 1) := by decide +kernel
theorem dX6_dropNote_45 : decode cX6_dropNote 45 = .ok (.invokevirtual 144, 3) := by decide +kernel
theorem dX6_dropNote_48 : decode cX6_dropNote 48 = .ok (.aload_n 0, 1) := by decide +kernel
theorem dX6_dropNote_49 : decode cX6_dropNote 49 = .ok (.getfield 33, 3) := by decide +kernel
theorem dX6_dropNote_52 : decode cX6_dropNote 52 = .ok (.getfield 174, 3) := by decide +kernel
theorem dX6_dropNote_55 : decode cX6_dropNote 55 = .ok (.ireturn, 1) := by decide +kernel
theorem dX6_undo_0 : decode cX6_undo 0 = .ok (.aload_n 0, 1) := by decide +kernel
theorem dX6_undo_1 : decode cX6_undo 1 = .ok (.getfield 48, 3) := by decide +kernel
theorem dX6_undo_4 : decode cX6_undo 4 = .ok (.ifCond .ne 13, 3) := by decide +kernel
theorem dX6_undo_7 : decode cX6_undo 7 = .ok (.new 139, 3) := by decide +kernel
theorem dX6_undo_10 : decode cX6_undo 10 = .ok (.dup, 1) := by decide +kernel
theorem dX6_undo_11 : decode cX6_undo 11 = .ok (.ldc 179, 2) := by decide +kernel
theorem dX6_undo_13 : decode cX6_undo 13 = .ok (.invokespecial 143, 3) := by decide +kernel
theorem dX6_undo_16 : decode cX6_undo 16 = .ok (.athrow, 1) := by decide +kernel
theorem dX6_undo_17 : decode cX6_undo 17 = .ok (.aload_n 0, 1) := by decide +kernel
theorem dX6_undo_18 : decode cX6_undo 18 = .ok (.getfield 33, 3) := by decide +kernel
theorem dX6_undo_21 : decode cX6_undo 21 = .ok (.astore_n 1, 1) := by decide +kernel
theorem dX6_undo_22 : decode cX6_undo 22 = .ok (.aload_n 0, 1) := by decide +kernel
theorem dX6_undo_23 : decode cX6_undo 23 = .ok (.aload_n 0, 1) := by decide +kernel
theorem dX6_undo_24 : decode cX6_undo 24 = .ok (.getfield 40, 3) := by decide +kernel
theorem dX6_undo_27 : decode cX6_undo 27 = .ok (.aload_n 0, 1) := by decide +kernel
theorem dX6_undo_28 : decode cX6_undo 28 = .ok (.getfield 44, 3) := by decide +kernel
theorem dX6_undo_31 : decode cX6_undo 31 = .ok (.aaload, 1) := by decide +kernel
theorem dX6_undo_32 : decode cX6_undo 32 = .ok (.putfield 33, 3) := by decide +kernel
theorem dX6_undo_35 : decode cX6_undo 35 = .ok (.aload_n 0, 1) := by decide +kernel
theorem dX6_undo_36 : decode cX6_undo 36 = .ok (.getfield 40, 3) := by decide +kernel
theorem dX6_undo_39 : decode cX6_undo 39 = .ok (.aload_n 0, 1) := by decide +kernel
theorem dX6_undo_40 : decode cX6_undo 40 = .ok (.getfield 44, 3) := by decide +kernel
theorem dX6_undo_43 : decode cX6_undo 43 = .ok (.aload_n 1, 1) := by decide +kernel
theorem dX6_undo_44 : decode cX6_undo 44 = .ok (.aastore, 1) := by decide +kernel
theorem dX6_undo_45 : decode cX6_undo 45 = .ok (.aload_n 0, 1) := by decide +kernel
theorem dX6_undo_46 : decode cX6_undo 46 = .ok (.aload_n 0, 1) := by decide +kernel
theorem dX6_undo_47 : decode cX6_undo 47 = .ok (.getfield 44, 3) := by decide +kernel
theorem dX6_undo_50 : decode cX6_undo 50 = .ok (.ifCond .ne 8, 3) := by decide +kernel
theorem dX6_undo_53 : decode cX6_undo 53 = .ok (.bipush 7, 2) := by decide +kernel
theorem dX6_undo_55 : decode cX6_undo 55 = .ok (.goto 9, 3) := by decide +kernel
theorem dX6_undo_58 : decode cX6_undo 58 = .ok (.aload_n 0, 1) := by decide +kernel
theorem dX6_undo_59 : decode cX6_undo 59 = .ok (.getfield 44, 3) := by decide +kernel
theorem dX6_undo_62 : decode cX6_undo 62 = .ok (.iconst 1, 1) := by decide +kernel
theorem dX6_undo_63 : decode cX6_undo 63 = .ok (.isub, 1) := by decide +kernel
theorem dX6_undo_64 : decode cX6_undo 64 = .ok (.putfield 44, 3) := by decide +kernel
theorem dX6_undo_67 : decode cX6_undo 67 = .ok (.aload_n 0, 1) := by decide +kernel
theorem dX6_undo_68 : decode cX6_undo 68 = .ok (.dup, 1) := by decide +kernel
theorem dX6_undo_69 : decode cX6_undo 69 = .ok (.getfield 48, 3) := by decide +kernel
theorem dX6_undo_72 : decode cX6_undo 72 = .ok (.iconst 1, 1) := by decide +kernel
theorem dX6_undo_73 : decode cX6_undo 73 = .ok (.isub, 1) := by decide +kernel
theorem dX6_undo_74 : decode cX6_undo 74 = .ok (.putfield 48, 3) := by decide +kernel
theorem dX6_undo_77 : decode cX6_undo 77 = .ok (.aload_n 0, 1) := by decide +kernel
theorem dX6_undo_78 : decode cX6_undo 78 = .ok (.getfield 19, 3) := by decide +kernel
theorem dX6_undo_81 : decode cX6_undo 81 = .ok (.aload_n 0, 1) := by decide +kernel
theorem dX6_undo_82 : decode cX6_undo 82 = .ok (.getfield 33, 3) := by decide +kernel
theorem dX6_undo_85 : decode cX6_undo 85 = .ok (.invokevirtual 181, 3) := by decide +kernel
theorem dX6_undo_88 : decode cX6_undo 88 = .ok (.aload_n 0, 1) := by decide +kernel
theorem dX6_undo_89 : decode cX6_undo 89 = .ok (.getfield 48, 3) := by decide +kernel
theorem dX6_undo_92 : decode cX6_undo 92 = .ok (.ireturn, 1) := by decide +kernel
theorem dX6_columns_0 : decode cX6_columns 0 = .ok (.aload_n 0, 1) := by decide +kernel
theorem dX6_columns_1 : decode cX6_columns 1 = .ok (.getfield 33, 3) := by decide +kernel
theorem dX6_columns_4 : decode cX6_columns 4 = .ok (.getfield 95, 3) := by decide +kernel
theorem dX6_columns_7 : decode cX6_columns 7 = .ok (.getfield 150, 3) := by decide +kernel
theorem dX6_columns_10 : decode cX6_columns 10 = .ok (.ireturn, 1) := by decide +kernel
theorem dX6_rows_0 : decode cX6_rows 0 = .ok (.aload_n 0, 1) := by decide +kernel
theorem dX6_rows_1 : decode cX6_rows 1 = .ok (.getfield 33, 3) := by decide +kernel
theorem dX6_rows_4 : decode cX6_rows 4 = .ok (.getfield 95, 3) := by decide +kernel
theorem dX6_rows_7 : decode cX6_rows 7 = .ok (.getfield 159, 3) := by decide +kernel
theorem dX6_rows_10 : decode cX6_rows 10 = .ok (.ireturn, 1) := by decide +kernel
theorem dX6_noteCount_0 : decode cX6_noteCount 0 = .ok (.aload_n 0, 1) := by decide +kernel
theorem dX6_noteCount_1 : decode cX6_noteCount 1 = .ok (.getfield 33, 3) := by decide +kernel
theorem dX6_noteCount_4 : decode cX6_noteCount 4 = .ok (.getfield 174, 3) := by decide +kernel
theorem dX6_noteCount_7 : decode cX6_noteCount 7 = .ok (.ireturn, 1) := by decide +kernel
theorem dX6_colourToMove_0 : decode cX6_colourToMove 0 = .ok (.aload_n 0, 1) := by decide +kernel
theorem dX6_colourToMove_1 : decode cX6_colourToMove 1 = .ok (.getfield 33, 3) := by decide +kernel
theorem dX6_colourToMove_4 : decode cX6_colourToMove 4 = .ok (.aload_n 0, 1) := by decide +kernel
theorem dX6_colourToMove_5 : decode cX6_colourToMove 5 = .ok (.getfield 33, 3) := by decide +kernel
theorem dX6_colourToMove_8 : decode cX6_colourToMove 8 = .ok (.getfield 174, 3) := by decide +kernel
theorem dX6_colourToMove_11 : decode cX6_colourToMove 11 = .ok (.invokevirtual 189, 3) := by decide +kernel
theorem dX6_colourToMove_14 : decode cX6_colourToMove 14 = .ok (.ireturn, 1) := by decide +kernel
theorem dX6_undoableChanges_0 : decode cX6_undoableChanges 0 = .ok (.aload_n 0, 1) := by decide +kernel
theorem dX6_undoableChanges_1 : decode cX6_undoableChanges 1 = .ok (.getfield 48, 3) := by decide +kernel
theorem dX6_undoableChanges_4 : decode cX6_undoableChanges 4 = .ok (.ireturn, 1) := by decide +kernel
theorem dX6_noteKind_0 : decode cX6_noteKind 0 = .ok (.aload_n 0, 1) := by decide +kernel
theorem dX6_noteKind_1 : decode cX6_noteKind 1 = .ok (.iload_n 1, 1) := by decide +kernel
theorem dX6_noteKind_2 : decode cX6_noteKind 2 = .ok (.invokevirtual 147, 3) := by decide +kernel
theorem dX6_noteKind_5 : decode cX6_noteKind 5 = .ok (.aload_n 0, 1) := by decide +kernel
theorem dX6_noteKind_6 : decode cX6_noteKind 6 = .ok (.getfield 33, 3) := by decide +kernel
theorem dX6_noteKind_9 : decode cX6_noteKind 9 = .ok (.getfield 192, 3) := by decide +kernel
theorem dX6_noteKind_12 : decode cX6_noteKind 12 = .ok (.iload_n 1, 1) := by decide +kernel
theorem dX6_noteKind_13 : decode cX6_noteKind 13 = .ok (.aaload, 1) := by decide +kernel
theorem dX6_noteKind_14 : decode cX6_noteKind 14 = .ok (.getfield 196, 3) := by decide +kernel
theorem dX6_noteKind_17 : decode cX6_noteKind 17 = .ok (.ireturn, 1) := by decide +kernel
theorem dX6_noteFromColumn_0 : decode cX6_noteFromColumn 0 = .ok (.aload_n 0, 1) := by decide +kernel
theorem dX6_noteFromColumn_1 : decode cX6_noteFromColumn 1 = .ok (.iload_n 1, 1) := by decide +kernel
theorem dX6_noteFromColumn_2 : decode cX6_noteFromColumn 2 = .ok (.invokevirtual 147, 3) := by decide +kernel
theorem dX6_noteFromColumn_5 : decode cX6_noteFromColumn 5 = .ok (.aload_n 0, 1) := by decide +kernel
theorem dX6_noteFromColumn_6 : decode cX6_noteFromColumn 6 = .ok (.getfield 33, 3) := by decide +kernel
theorem dX6_noteFromColumn_9 : decode cX6_noteFromColumn 9 = .ok (.getfield 192, 3) := by decide +kernel
theorem dX6_noteFromColumn_12 : decode cX6_noteFromColumn 12 = .ok (.iload_n 1, 1) := by decide +kernel
theorem dX6_noteFromColumn_13 : decode cX6_noteFromColumn 13 = .ok (.aaload, 1) := by decide +kernel
theorem dX6_noteFromColumn_14 : decode cX6_noteFromColumn 14 = .ok (.getfield 199, 3) := by decide +kernel
theorem dX6_noteFromColumn_17 : decode cX6_noteFromColumn 17 = .ok (.ireturn, 1) := by decide +kernel
theorem dX6_noteFromRow_0 : decode cX6_noteFromRow 0 = .ok (.aload_n 0, 1) := by decide +kernel
theorem dX6_noteFromRow_1 : decode cX6_noteFromRow 1 = .ok (.iload_n 1, 1) := by decide +kernel
theorem dX6_noteFromRow_2 : decode cX6_noteFromRow 2 = .ok (.invokevirtual 147, 3) := by decide +kernel
theorem dX6_noteFromRow_5 : decode cX6_noteFromRow 5 = .ok (.aload_n 0, 1) := by decide +kernel
theorem dX6_noteFromRow_6 : decode cX6_noteFromRow 6 = .ok (.getfield 33, 3) := by decide +kernel
theorem dX6_noteFromRow_9 : decode cX6_noteFromRow 9 = .ok (.getfield 192, 3) := by decide +kernel
theorem dX6_noteFromRow_12 : decode cX6_noteFromRow 12 = .ok (.iload_n 1, 1) := by decide +kernel
theorem dX6_noteFromRow_13 : decode cX6_noteFromRow 13 = .ok (.aaload, 1) := by decide +kernel
theorem dX6_noteFromRow_14 : decode cX6_noteFromRow 14 = .ok (.getfield 202, 3) := by decide +kernel
theorem dX6_noteFromRow_17 : decode cX6_noteFromRow 17 = .ok (.ireturn, 1) := by decide +kernel
theorem dX6_noteToColumn_0 : decode cX6_noteToColumn 0 = .ok (.aload_n 0, 1) := by decide +kernel
theorem dX6_noteToColumn_1 : decode cX6_noteToColumn 1 = .ok (.iload_n 1, 1) := by decide +kernel
theorem dX6_noteToColumn_2 : decode cX6_noteToColumn 2 = .ok (.invokevirtual 147, 3) := by decide +kernel
theorem dX6_noteToColumn_5 : decode cX6_noteToColumn 5 = .ok (.aload_n 0, 1) := by decide +kernel
theorem dX6_noteToColumn_6 : decode cX6_noteToColumn 6 = .ok (.getfield 33, 3) := by decide +kernel
theorem dX6_noteToColumn_9 : decode cX6_noteToColumn 9 = .ok (.getfield 192, 3) := by decide +kernel
theorem dX6_noteToColumn_12 : decode cX6_noteToColumn 12 = .ok (.iload_n 1, 1) := by decide +kernel
theorem dX6_noteToColumn_13 : decode cX6_noteToColumn 13 = .ok (.aaload, 1) := by decide +kernel
theorem dX6_noteToColumn_14 : decode cX6_noteToColumn 14 = .ok (.getfield 205, 3) := by decide +kernel
theorem dX6_noteToColumn_17 : decode cX6_noteToColumn 17 = .ok (.ireturn, 1) := by decide +kernel
theorem dX6_noteToRow_0 : decode cX6_noteToRow 0 = .ok (.aload_n 0, 1) := by decide +kernel
theorem dX6_noteToRow_1 : decode cX6_noteToRow 1 = .ok (.iload_n 1, 1) := by decide +kernel
theorem dX6_noteToRow_2 : decode cX6_noteToRow 2 = .ok (.invokevirtual 147, 3) := by decide +kernel
theorem dX6_noteToRow_5 : decode cX6_noteToRow 5 = .ok (.aload_n 0, 1) := by decide +kernel
theorem dX6_noteToRow_6 : decode cX6_noteToRow 6 = .ok (.getfield 33, 3) := by decide +kernel
theorem dX6_noteToRow_9 : decode cX6_noteToRow 9 = .ok (.getfield 192, 3) := by decide +kernel
theorem dX6_noteToRow_12 : decode cX6_noteToRow 12 = .ok (.iload_n 1, 1) := by decide +kernel
theorem dX6_noteToRow_13 : decode cX6_noteToRow 13 = .ok (.aaload, 1) := by decide +kernel
theorem dX6_noteToRow_14 : decode cX6_noteToRow 14 = .ok (.getfield 208, 3) := by decide +kernel
theorem dX6_noteToRow_17 : decode cX6_noteToRow 17 = .ok (.ireturn, 1) := by decide +kernel
theorem dX6_noteTakes_0 : decode cX6_noteTakes 0 = .ok (.aload_n 0, 1) := by decide +kernel
theorem dX6_noteTakes_1 : decode cX6_noteTakes 1 = .ok (.iload_n 1, 1) := by decide +kernel
theorem dX6_noteTakes_2 : decode cX6_noteTakes 2 = .ok (.invokevirtual 147, 3) := by decide +kernel
theorem dX6_noteTakes_5 : decode cX6_noteTakes 5 = .ok (.aload_n 0, 1) := by decide +kernel
theorem dX6_noteTakes_6 : decode cX6_noteTakes 6 = .ok (.getfield 33, 3) := by decide +kernel
theorem dX6_noteTakes_9 : decode cX6_noteTakes 9 = .ok (.getfield 192, 3) := by decide +kernel
theorem dX6_noteTakes_12 : decode cX6_noteTakes 12 = .ok (.iload_n 1, 1) := by decide +kernel
theorem dX6_noteTakes_13 : decode cX6_noteTakes 13 = .ok (.aaload, 1) := by decide +kernel
theorem dX6_noteTakes_14 : decode cX6_noteTakes 14 = .ok (.getfield 211, 3) := by decide +kernel
theorem dX6_noteTakes_17 : decode cX6_noteTakes 17 = .ok (.ireturn, 1) := by decide +kernel
theorem dX6_positionsAfter_0 : decode cX6_positionsAfter 0 = .ok (.iload_n 1, 1) := by decide +kernel
theorem dX6_positionsAfter_1 : decode cX6_positionsAfter 1 = .ok (.ifCond .lt 14, 3) := by decide +kernel
theorem dX6_positionsAfter_4 : decode cX6_positionsAfter 4 = .ok (.iload_n 1, 1) := by decide +kernel
theorem dX6_positionsAfter_5 : decode cX6_positionsAfter 5 = .ok (.aload_n 0, 1) := by decide +kernel
theorem dX6_positionsAfter_6 : decode cX6_positionsAfter 6 = .ok (.getfield 33, 3) := by decide +kernel
theorem dX6_positionsAfter_9 : decode cX6_positionsAfter 9 = .ok (.getfield 174, 3) := by decide +kernel
theorem dX6_positionsAfter_12 : decode cX6_positionsAfter 12 = .ok (.if_icmp .le 13, 3) := by decide +kernel
theorem dX6_positionsAfter_15 : decode cX6_positionsAfter 15 = .ok (.new 85, 3) := by decide +kernel
theorem dX6_positionsAfter_18 : decode cX6_positionsAfter 18 = .ok (.dup, 1) := by decide +kernel
theorem dX6_positionsAfter_19 : decode cX6_positionsAfter 19 = .ok (.ldc 218, 2) := by decide +kernel
theorem dX6_positionsAfter_21 : decode cX6_positionsAfter 21 = .ok (.invokespecial 89, 3) := by decide +kernel
theorem dX6_positionsAfter_24 : decode cX6_positionsAfter 24 = .ok (.athrow, 1) := by decide +kernel
theorem dX6_positionsAfter_25 : decode cX6_positionsAfter 25 = .ok (.aload_n 0, 1) := by decide +kernel
theorem dX6_positionsAfter_26 : decode cX6_positionsAfter 26 = .ok (.getfield 33, 3) := by decide +kernel
theorem dX6_positionsAfter_29 : decode cX6_positionsAfter 29 = .ok (.getfield 220, 3) := by decide +kernel
theorem dX6_positionsAfter_32 : decode cX6_positionsAfter 32 = .ok (.iload_n 1, 1) := by decide +kernel
theorem dX6_positionsAfter_33 : decode cX6_positionsAfter 33 = .ok (.iaload, 1) := by decide +kernel
theorem dX6_positionsAfter_34 : decode cX6_positionsAfter 34 = .ok (.ireturn, 1) := by decide +kernel
theorem dX6_kindAt_0 : decode cX6_kindAt 0 = .ok (.aload_n 0, 1) := by decide +kernel
theorem dX6_kindAt_1 : decode cX6_kindAt 1 = .ok (.iload_n 1, 1) := by decide +kernel
theorem dX6_kindAt_2 : decode cX6_kindAt 2 = .ok (.invokevirtual 224, 3) := by decide +kernel
theorem dX6_kindAt_5 : decode cX6_kindAt 5 = .ok (.aload_n 0, 1) := by decide +kernel
theorem dX6_kindAt_6 : decode cX6_kindAt 6 = .ok (.iload_n 2, 1) := by decide +kernel
theorem dX6_kindAt_7 : decode cX6_kindAt 7 = .ok (.iload_n 3, 1) := by decide +kernel
theorem dX6_kindAt_8 : decode cX6_kindAt 8 = .ok (.invokevirtual 227, 3) := by decide +kernel
theorem dX6_kindAt_11 : decode cX6_kindAt 11 = .ok (.aload_n 0, 1) := by decide +kernel
theorem dX6_kindAt_12 : decode cX6_kindAt 12 = .ok (.getfield 33, 3) := by decide +kernel
theorem dX6_kindAt_15 : decode cX6_kindAt 15 = .ok (.iload_n 1, 1) := by decide +kernel
theorem dX6_kindAt_16 : decode cX6_kindAt 16 = .ok (.aload_n 0, 1) := by decide +kernel
theorem dX6_kindAt_17 : decode cX6_kindAt 17 = .ok (.getfield 33, 3) := by decide +kernel
theorem dX6_kindAt_20 : decode cX6_kindAt 20 = .ok (.getfield 95, 3) := by decide +kernel
theorem dX6_kindAt_23 : decode cX6_kindAt 23 = .ok (.iload_n 2, 1) := by decide +kernel
theorem dX6_kindAt_24 : decode cX6_kindAt 24 = .ok (.iload_n 3, 1) := by decide +kernel
theorem dX6_kindAt_25 : decode cX6_kindAt 25 = .ok (.invokevirtual 231, 3) := by decide +kernel
theorem dX6_kindAt_28 : decode cX6_kindAt 28 = .ok (.invokevirtual 235, 3) := by decide +kernel
theorem dX6_kindAt_31 : decode cX6_kindAt 31 = .ok (.invokestatic 238, 3) := by decide +kernel
theorem dX6_kindAt_34 : decode cX6_kindAt 34 = .ok (.ireturn, 1) := by decide +kernel
theorem dX6_colourAt_0 : decode cX6_colourAt 0 = .ok (.aload_n 0, 1) := by decide +kernel
theorem dX6_colourAt_1 : decode cX6_colourAt 1 = .ok (.iload_n 1, 1) := by decide +kernel
theorem dX6_colourAt_2 : decode cX6_colourAt 2 = .ok (.invokevirtual 224, 3) := by decide +kernel
theorem dX6_colourAt_5 : decode cX6_colourAt 5 = .ok (.aload_n 0, 1) := by decide +kernel
theorem dX6_colourAt_6 : decode cX6_colourAt 6 = .ok (.iload_n 2, 1) := by decide +kernel
theorem dX6_colourAt_7 : decode cX6_colourAt 7 = .ok (.iload_n 3, 1) := by decide +kernel
theorem dX6_colourAt_8 : decode cX6_colourAt 8 = .ok (.invokevirtual 227, 3) := by decide +kernel
theorem dX6_colourAt_11 : decode cX6_colourAt 11 = .ok (.aload_n 0, 1) := by decide +kernel
theorem dX6_colourAt_12 : decode cX6_colourAt 12 = .ok (.getfield 33, 3) := by decide +kernel
theorem dX6_colourAt_15 : decode cX6_colourAt 15 = .ok (.iload_n 1, 1) := by decide +kernel
theorem dX6_colourAt_16 : decode cX6_colourAt 16 = .ok (.aload_n 0, 1) := by decide +kernel
theorem dX6_colourAt_17 : decode cX6_colourAt 17 = .ok (.getfield 33, 3) := by decide +kernel
theorem dX6_colourAt_20 : decode cX6_colourAt 20 = .ok (.getfield 95, 3) := by decide +kernel
theorem dX6_colourAt_23 : decode cX6_colourAt 23 = .ok (.iload_n 2, 1) := by decide +kernel
theorem dX6_colourAt_24 : decode cX6_colourAt 24 = .ok (.iload_n 3, 1) := by decide +kernel
theorem dX6_colourAt_25 : decode cX6_colourAt 25 = .ok (.invokevirtual 231, 3) := by decide +kernel
theorem dX6_colourAt_28 : decode cX6_colourAt 28 = .ok (.invokevirtual 235, 3) := by decide +kernel
theorem dX6_colourAt_31 : decode cX6_colourAt 31 = .ok (.invokestatic 241, 3) := by decide +kernel
theorem dX6_colourAt_34 : decode cX6_colourAt 34 = .ok (.ireturn, 1) := by decide +kernel
theorem dX6_isAttacked_0 : decode cX6_isAttacked 0 = .ok (.aload_n 0, 1) := by decide +kernel
theorem dX6_isAttacked_1 : decode cX6_isAttacked 1 = .ok (.iload_n 1, 1) := by decide +kernel
theorem dX6_isAttacked_2 : decode cX6_isAttacked 2 = .ok (.invokevirtual 224, 3) := by decide +kernel
theorem dX6_isAttacked_5 : decode cX6_isAttacked 5 = .ok (.aload_n 0, 1) := by decide +kernel
theorem dX6_isAttacked_6 : decode cX6_isAttacked 6 = .ok (.iload_n 2, 1) := by decide +kernel
theorem dX6_isAttacked_7 : decode cX6_isAttacked 7 = .ok (.iload_n 3, 1) := by decide +kernel
theorem dX6_isAttacked_8 : decode cX6_isAttacked 8 = .ok (.invokevirtual 227, 3) := by decide +kernel
theorem dX6_isAttacked_11 : decode cX6_isAttacked 11 = .ok (.aload_n 0, 1) := by decide +kernel
theorem dX6_isAttacked_12 : decode cX6_isAttacked 12 = .ok (.iload 4, 2) := by decide +kernel
theorem dX6_isAttacked_14 : decode cX6_isAttacked 14 = .ok (.invokevirtual 244, 3) := by decide +kernel
theorem dX6_isAttacked_17 : decode cX6_isAttacked 17 = .ok (.aload_n 0, 1) := by decide +kernel
theorem dX6_isAttacked_18 : decode cX6_isAttacked 18 = .ok (.getfield 33, 3) := by decide +kernel
theorem dX6_isAttacked_21 : decode cX6_isAttacked 21 = .ok (.aload_n 0, 1) := by decide +kernel
theorem dX6_isAttacked_22 : decode cX6_isAttacked 22 = .ok (.getfield 33, 3) := by decide +kernel
theorem dX6_isAttacked_25 : decode cX6_isAttacked 25 = .ok (.getfield 174, 3) := by decide +kernel
theorem dX6_isAttacked_28 : decode cX6_isAttacked 28 = .ok (.iload_n 1, 1) := by decide +kernel
theorem dX6_isAttacked_29 : decode cX6_isAttacked 29 = .ok (.invokevirtual 247, 3) := by decide +kernel
theorem dX6_isAttacked_32 : decode cX6_isAttacked 32 = .ok (.aload_n 0, 1) := by decide +kernel
theorem dX6_isAttacked_33 : decode cX6_isAttacked 33 = .ok (.getfield 33, 3) := by decide +kernel
theorem dX6_isAttacked_36 : decode cX6_isAttacked 36 = .ok (.getfield 95, 3) := by decide +kernel
theorem dX6_isAttacked_39 : decode cX6_isAttacked 39 = .ok (.aload_n 0, 1) := by decide +kernel
theorem dX6_isAttacked_40 : decode cX6_isAttacked 40 = .ok (.getfield 33, 3) := by decide +kernel
theorem dX6_isAttacked_43 : decode cX6_isAttacked 43 = .ok (.getfield 95, 3) := by decide +kernel
theorem dX6_isAttacked_46 : decode cX6_isAttacked 46 = .ok (.iload_n 2, 1) := by decide +kernel
theorem dX6_isAttacked_47 : decode cX6_isAttacked 47 = .ok (.iload_n 3, 1) := by decide +kernel
theorem dX6_isAttacked_48 : decode cX6_isAttacked 48 = .ok (.invokevirtual 250, 3) := by decide +kernel
theorem dX6_isAttacked_51 : decode cX6_isAttacked 51 = .ok (.iload 4, 2) := by decide +kernel
theorem dX6_isAttacked_53 : decode cX6_isAttacked 53 = .ok (.invokevirtual 253, 3) := by decide +kernel
theorem dX6_isAttacked_56 : decode cX6_isAttacked 56 = .ok (.ireturn, 1) := by decide +kernel
theorem dX6_gamesTo_0 : decode cX6_gamesTo 0 = .ok (.aload_n 0, 1) := by decide +kernel
theorem dX6_gamesTo_1 : decode cX6_gamesTo 1 = .ok (.iload_n 1, 1) := by decide +kernel
theorem dX6_gamesTo_2 : decode cX6_gamesTo 2 = .ok (.invokevirtual 224, 3) := by decide +kernel
theorem dX6_gamesTo_5 : decode cX6_gamesTo 5 = .ok (.aload_n 0, 1) := by decide +kernel
theorem dX6_gamesTo_6 : decode cX6_gamesTo 6 = .ok (.getfield 33, 3) := by decide +kernel
theorem dX6_gamesTo_9 : decode cX6_gamesTo 9 = .ok (.iload_n 1, 1) := by decide +kernel
theorem dX6_gamesTo_10 : decode cX6_gamesTo 10 = .ok (.invokevirtual 260, 3) := by decide +kernel
theorem dX6_gamesTo_13 : decode cX6_gamesTo 13 = .ok (.lreturn, 1) := by decide +kernel
theorem dX6_gameCount_0 : decode cX6_gameCount 0 = .ok (.aload_n 0, 1) := by decide +kernel
theorem dX6_gameCount_1 : decode cX6_gameCount 1 = .ok (.getfield 33, 3) := by decide +kernel
theorem dX6_gameCount_4 : decode cX6_gameCount 4 = .ok (.invokevirtual 271, 3) := by decide +kernel
theorem dX6_gameCount_7 : decode cX6_gameCount 7 = .ok (.lreturn, 1) := by decide +kernel
theorem dX6_isCertain_0 : decode cX6_isCertain 0 = .ok (.aload_n 0, 1) := by decide +kernel
theorem dX6_isCertain_1 : decode cX6_isCertain 1 = .ok (.getfield 33, 3) := by decide +kernel
theorem dX6_isCertain_4 : decode cX6_isCertain 4 = .ok (.invokevirtual 271, 3) := by decide +kernel
theorem dX6_isCertain_7 : decode cX6_isCertain 7 = .ok (.lconst 1, 1) := by decide +kernel
theorem dX6_isCertain_8 : decode cX6_isCertain 8 = .ok (.lcmp, 1) := by decide +kernel
theorem dX6_isCertain_9 : decode cX6_isCertain 9 = .ok (.ifCond .ne 7, 3) := by decide +kernel
theorem dX6_isCertain_12 : decode cX6_isCertain 12 = .ok (.iconst 1, 1) := by decide +kernel
theorem dX6_isCertain_13 : decode cX6_isCertain 13 = .ok (.goto 4, 3) := by decide +kernel
theorem dX6_isCertain_16 : decode cX6_isCertain 16 = .ok (.iconst 0, 1) := by decide +kernel
theorem dX6_isCertain_17 : decode cX6_isCertain 17 = .ok (.ireturn, 1) := by decide +kernel
theorem dX6_doubt_0 : decode cX6_doubt 0 = .ok (.aload_n 0, 1) := by decide +kernel
theorem dX6_doubt_1 : decode cX6_doubt 1 = .ok (.iload_n 1, 1) := by decide +kernel
theorem dX6_doubt_2 : decode cX6_doubt 2 = .ok (.invokevirtual 147, 3) := by decide +kernel
theorem dX6_doubt_5 : decode cX6_doubt 5 = .ok (.aload_n 0, 1) := by decide +kernel
theorem dX6_doubt_6 : decode cX6_doubt 6 = .ok (.getfield 19, 3) := by decide +kernel
theorem dX6_doubt_9 : decode cX6_doubt 9 = .ok (.aload_n 0, 1) := by decide +kernel
theorem dX6_doubt_10 : decode cX6_doubt 10 = .ok (.getfield 33, 3) := by decide +kernel
theorem dX6_doubt_13 : decode cX6_doubt 13 = .ok (.iload_n 1, 1) := by decide +kernel
theorem dX6_doubt_14 : decode cX6_doubt 14 = .ok (.invokevirtual 275, 3) := by decide +kernel
theorem dX6_doubt_17 : decode cX6_doubt 17 = .ok (.aload_n 0, 1) := by decide +kernel
theorem dX6_doubt_18 : decode cX6_doubt 18 = .ok (.getfield 19, 3) := by decide +kernel
theorem dX6_doubt_21 : decode cX6_doubt 21 = .ok (.invokevirtual 279, 3) := by decide +kernel
theorem dX6_doubt_24 : decode cX6_doubt 24 = .ok (.ireturn, 1) := by decide +kernel
theorem dX6_moveOrigin_0 : decode cX6_moveOrigin 0 = .ok (.aload_n 0, 1) := by decide +kernel
theorem dX6_moveOrigin_1 : decode cX6_moveOrigin 1 = .ok (.iload_n 1, 1) := by decide +kernel
theorem dX6_moveOrigin_2 : decode cX6_moveOrigin 2 = .ok (.iload_n 2, 1) := by decide +kernel
theorem dX6_moveOrigin_3 : decode cX6_moveOrigin 3 = .ok (.invokevirtual 282, 3) := by decide +kernel
theorem dX6_moveOrigin_6 : decode cX6_moveOrigin 6 = .ok (.bipush 6, 2) := by decide +kernel
theorem dX6_moveOrigin_8 : decode cX6_moveOrigin 8 = .ok (.ishr, 1) := by decide +kernel
theorem dX6_moveOrigin_9 : decode cX6_moveOrigin 9 = .ok (.ireturn, 1) := by decide +kernel
theorem dX6_moveTarget_0 : decode cX6_moveTarget 0 = .ok (.aload_n 0, 1) := by decide +kernel
theorem dX6_moveTarget_1 : decode cX6_moveTarget 1 = .ok (.iload_n 1, 1) := by decide +kernel
theorem dX6_moveTarget_2 : decode cX6_moveTarget 2 = .ok (.iload_n 2, 1) := by decide +kernel
theorem dX6_moveTarget_3 : decode cX6_moveTarget 3 = .ok (.invokevirtual 282, 3) := by decide +kernel
theorem dX6_moveTarget_6 : decode cX6_moveTarget 6 = .ok (.bipush 63, 2) := by decide +kernel
theorem dX6_moveTarget_8 : decode cX6_moveTarget 8 = .ok (.iand, 1) := by decide +kernel
theorem dX6_moveTarget_9 : decode cX6_moveTarget 9 = .ok (.ireturn, 1) := by decide +kernel
theorem dX6_gamesWithMove_0 : decode cX6_gamesWithMove 0 = .ok (.aload_n 0, 1) := by decide +kernel
theorem dX6_gamesWithMove_1 : decode cX6_gamesWithMove 1 = .ok (.getfield 19, 3) := by decide +kernel
theorem dX6_gamesWithMove_4 : decode cX6_gamesWithMove 4 = .ok (.getfield 285, 3) := by decide +kernel
theorem dX6_gamesWithMove_7 : decode cX6_gamesWithMove 7 = .ok (.aload_n 0, 1) := by decide +kernel
theorem dX6_gamesWithMove_8 : decode cX6_gamesWithMove 8 = .ok (.iload_n 1, 1) := by decide +kernel
theorem dX6_gamesWithMove_9 : decode cX6_gamesWithMove 9 = .ok (.iload_n 2, 1) := by decide +kernel
theorem dX6_gamesWithMove_10 : decode cX6_gamesWithMove 10 = .ok (.invokevirtual 282, 3) := by decide +kernel
theorem dX6_gamesWithMove_13 : decode cX6_gamesWithMove 13 = .ok (.laload, 1) := by decide +kernel
theorem dX6_gamesWithMove_14 : decode cX6_gamesWithMove 14 = .ok (.lreturn, 1) := by decide +kernel
theorem dX6_mostDoubtfulNote_0 : decode cX6_mostDoubtfulNote 0 = .ok (.iconst (-1), 1) := by decide +kernel
theorem dX6_mostDoubtfulNote_1 : decode cX6_mostDoubtfulNote 1 = .ok (.istore_n 1, 1) := by decide +kernel
theorem dX6_mostDoubtfulNote_2 : decode cX6_mostDoubtfulNote 2 = .ok (.iconst 1, 1) := by decide +kernel
theorem dX6_mostDoubtfulNote_3 : decode cX6_mostDoubtfulNote 3 = .ok (.istore_n 2, 1) := by decide +kernel
theorem dX6_mostDoubtfulNote_4 : decode cX6_mostDoubtfulNote 4 = .ok (.iconst 0, 1) := by decide +kernel
theorem dX6_mostDoubtfulNote_5 : decode cX6_mostDoubtfulNote 5 = .ok (.istore_n 3, 1) := by decide +kernel
theorem dX6_mostDoubtfulNote_6 : decode cX6_mostDoubtfulNote 6 = .ok (.iload_n 3, 1) := by decide +kernel
theorem dX6_mostDoubtfulNote_7 : decode cX6_mostDoubtfulNote 7 = .ok (.aload_n 0, 1) := by decide +kernel
theorem dX6_mostDoubtfulNote_8 : decode cX6_mostDoubtfulNote 8 = .ok (.getfield 33, 3) := by decide +kernel
theorem dX6_mostDoubtfulNote_11 : decode cX6_mostDoubtfulNote 11 = .ok (.getfield 174, 3) := by decide +kernel
theorem dX6_mostDoubtfulNote_14 : decode cX6_mostDoubtfulNote 14 = .ok (.if_icmp .ge 41, 3) := by decide +kernel
theorem dX6_mostDoubtfulNote_17 : decode cX6_mostDoubtfulNote 17 = .ok (.aload_n 0, 1) := by decide +kernel
theorem dX6_mostDoubtfulNote_18 : decode cX6_mostDoubtfulNote 18 = .ok (.getfield 19, 3) := by decide +kernel
theorem dX6_mostDoubtfulNote_21 : decode cX6_mostDoubtfulNote 21 = .ok (.aload_n 0, 1) := by decide +kernel
theorem dX6_mostDoubtfulNote_22 : decode cX6_mostDoubtfulNote 22 = .ok (.getfield 33, 3) := by decide +kernel
theorem dX6_mostDoubtfulNote_25 : decode cX6_mostDoubtfulNote 25 = .ok (.iload_n 3, 1) := by decide +kernel
theorem dX6_mostDoubtfulNote_26 : decode cX6_mostDoubtfulNote 26 = .ok (.invokevirtual 275, 3) := by decide +kernel
theorem dX6_mostDoubtfulNote_29 : decode cX6_mostDoubtfulNote 29 = .ok (.aload_n 0, 1) := by decide +kernel
theorem dX6_mostDoubtfulNote_30 : decode cX6_mostDoubtfulNote 30 = .ok (.getfield 19, 3) := by decide +kernel
theorem dX6_mostDoubtfulNote_33 : decode cX6_mostDoubtfulNote 33 = .ok (.invokevirtual 279, 3) := by decide +kernel
theorem dX6_mostDoubtfulNote_36 : decode cX6_mostDoubtfulNote 36 = .ok (.istore 4, 2) := by decide +kernel
theorem dX6_mostDoubtfulNote_38 : decode cX6_mostDoubtfulNote 38 = .ok (.iload 4, 2) := by decide +kernel
theorem dX6_mostDoubtfulNote_40 : decode cX6_mostDoubtfulNote 40 = .ok (.iload_n 2, 1) := by decide +kernel
theorem dX6_mostDoubtfulNote_41 : decode cX6_mostDoubtfulNote 41 = .ok (.if_icmp .le 8, 3) := by decide +kernel
theorem dX6_mostDoubtfulNote_44 : decode cX6_mostDoubtfulNote 44 = .ok (.iload 4, 2) := by decide +kernel
theorem dX6_mostDoubtfulNote_46 : decode cX6_mostDoubtfulNote 46 = .ok (.istore_n 2, 1) := by decide +kernel
theorem dX6_mostDoubtfulNote_47 : decode cX6_mostDoubtfulNote 47 = .ok (.iload_n 3, 1) := by decide +kernel
theorem dX6_mostDoubtfulNote_48 : decode cX6_mostDoubtfulNote 48 = .ok (.istore_n 1, 1) := by decide +kernel
theorem dX6_mostDoubtfulNote_49 : decode cX6_mostDoubtfulNote 49 = .ok (.iinc 3 1, 3) := by decide +kernel
theorem dX6_mostDoubtfulNote_52 : decode cX6_mostDoubtfulNote 52 = .ok (.goto (-46), 3) := by decide +kernel
theorem dX6_mostDoubtfulNote_55 : decode cX6_mostDoubtfulNote 55 = .ok (.iload_n 1, 1) := by decide +kernel
theorem dX6_mostDoubtfulNote_56 : decode cX6_mostDoubtfulNote 56 = .ok (.ireturn, 1) := by decide +kernel
theorem dX6_gamesIfNoted_0 : decode cX6_gamesIfNoted 0 = .ok (.aload_n 0, 1) := by decide +kernel
theorem dX6_gamesIfNoted_1 : decode cX6_gamesIfNoted 1 = .ok (.iload_n 1, 1) := by decide +kernel
theorem dX6_gamesIfNoted_2 : decode cX6_gamesIfNoted 2 = .ok (.iload_n 2, 1) := by decide +kernel
theorem dX6_gamesIfNoted_3 : decode cX6_gamesIfNoted 3 = .ok (.iload_n 3, 1) := by decide +kernel
theorem dX6_gamesIfNoted_4 : decode cX6_gamesIfNoted 4 = .ok (.iload 4, 2) := by decide +kernel
theorem dX6_gamesIfNoted_6 : decode cX6_gamesIfNoted 6 = .ok (.invokevirtual 127, 3) := by decide +kernel
theorem dX6_gamesIfNoted_9 : decode cX6_gamesIfNoted 9 = .ok (.aload_n 0, 1) := by decide +kernel
theorem dX6_gamesIfNoted_10 : decode cX6_gamesIfNoted 10 = .ok (.getfield 26, 3) := by decide +kernel
theorem dX6_gamesIfNoted_13 : decode cX6_gamesIfNoted 13 = .ok (.iload_n 1, 1) := by decide +kernel
theorem dX6_gamesIfNoted_14 : decode cX6_gamesIfNoted 14 = .ok (.iload_n 2, 1) := by decide +kernel
theorem dX6_gamesIfNoted_15 : decode cX6_gamesIfNoted 15 = .ok (.iload_n 3, 1) := by decide +kernel
theorem dX6_gamesIfNoted_16 : decode cX6_gamesIfNoted 16 = .ok (.iload 4, 2) := by decide +kernel
theorem dX6_gamesIfNoted_18 : decode cX6_gamesIfNoted 18 = .ok (.iload 5, 2) := by decide +kernel
theorem dX6_gamesIfNoted_20 : decode cX6_gamesIfNoted 20 = .ok (.iload 6, 2) := by decide +kernel
theorem dX6_gamesIfNoted_22 : decode cX6_gamesIfNoted 22 = .ok (.invokevirtual 131, 3) := by decide +kernel
theorem dX6_gamesIfNoted_25 : decode cX6_gamesIfNoted 25 = .ok (.aload_n 0, 1) := by decide +kernel
theorem dX6_gamesIfNoted_26 : decode cX6_gamesIfNoted 26 = .ok (.invokevirtual 135, 3) := by decide +kernel
theorem dX6_gamesIfNoted_29 : decode cX6_gamesIfNoted 29 = .ok (.istore 7, 2) := by decide +kernel
theorem dX6_gamesIfNoted_31 : decode cX6_gamesIfNoted 31 = .ok (.iload 7, 2) := by decide +kernel
theorem dX6_gamesIfNoted_33 : decode cX6_gamesIfNoted 33 = .ok (.iconst 1, 1) := by decide +kernel
theorem dX6_gamesIfNoted_34 : decode cX6_gamesIfNoted 34 = .ok (.if_icmp .ge 9, 3) := by decide +kernel
theorem dX6_gamesIfNoted_37 : decode cX6_gamesIfNoted 37 = .ok (.iload 7, 2) := by decide +kernel
theorem dX6_gamesIfNoted_39 : decode cX6_gamesIfNoted 39 = .ok (.i2l, 1) := by decide +kernel
theorem dX6_gamesIfNoted_40 : decode cX6_gamesIfNoted 40 = .ok (.goto 10, 3) := by decide +kernel
theorem dX6_gamesIfNoted_43 : decode cX6_gamesIfNoted 43 = .ok (.aload_n 0, 1) := by decide +kernel
theorem dX6_gamesIfNoted_44 : decode cX6_gamesIfNoted 44 = .ok (.getfield 37, 3) := by decide +kernel
theorem dX6_gamesIfNoted_47 : decode cX6_gamesIfNoted 47 = .ok (.invokevirtual 271, 3) := by decide +kernel
theorem dX6_gamesIfNoted_50 : decode cX6_gamesIfNoted 50 = .ok (.lreturn, 1) := by decide +kernel
theorem dX6_inconsistencies_0 : decode cX6_inconsistencies 0 = .ok (.iconst 0, 1) := by decide +kernel
theorem dX6_inconsistencies_1 : decode cX6_inconsistencies 1 = .ok (.istore_n 1, 1) := by decide +kernel
theorem dX6_inconsistencies_2 : decode cX6_inconsistencies 2 = .ok (.aload_n 0, 1) := by decide +kernel
theorem dX6_inconsistencies_3 : decode cX6_inconsistencies 3 = .ok (.getfield 33, 3) := by decide +kernel
theorem dX6_inconsistencies_6 : decode cX6_inconsistencies 6 = .ok (.invokevirtual 271, 3) := by decide +kernel
theorem dX6_inconsistencies_9 : decode cX6_inconsistencies 9 = .ok (.lstore_n 2, 1) := by decide +kernel
theorem dX6_inconsistencies_10 : decode cX6_inconsistencies 10 = .ok (.iconst 0, 1) := by decide +kernel
theorem dX6_inconsistencies_11 : decode cX6_inconsistencies 11 = .ok (.istore 4, 2) := by decide +kernel
theorem dX6_inconsistencies_13 : decode cX6_inconsistencies 13 = .ok (.iload 4, 2) := by decide +kernel
theorem dX6_inconsistencies_15 : decode cX6_inconsistencies 15 = .ok (.aload_n 0, 1) := by decide +kernel
theorem dX6_inconsistencies_16 : decode cX6_inconsistencies 16 = .ok (.getfield 33, 3) := by decide +kernel
theorem dX6_inconsistencies_19 : decode cX6_inconsistencies 19 = .ok (.getfield 174, 3) := by decide +kernel
theorem dX6_inconsistencies_22 : decode cX6_inconsistencies 22 = .ok (.if_icmp .ge 37, 3) := by decide +kernel
theorem dX6_inconsistencies_25 : decode cX6_inconsistencies 25 = .ok (.aload_n 0, 1) := by decide +kernel
theorem dX6_inconsistencies_26 : decode cX6_inconsistencies 26 = .ok (.getfield 19, 3) := by decide +kernel
theorem dX6_inconsistencies_29 : decode cX6_inconsistencies 29 = .ok (.aload_n 0, 1) := by decide +kernel
theorem dX6_inconsistencies_30 : decode cX6_inconsistencies 30 = .ok (.getfield 33, 3) := by decide +kernel
theorem dX6_inconsistencies_33 : decode cX6_inconsistencies 33 = .ok (.iload 4, 2) := by decide +kernel
theorem dX6_inconsistencies_35 : decode cX6_inconsistencies 35 = .ok (.invokevirtual 275, 3) := by decide +kernel
theorem dX6_inconsistencies_38 : decode cX6_inconsistencies 38 = .ok (.aload_n 0, 1) := by decide +kernel
theorem dX6_inconsistencies_39 : decode cX6_inconsistencies 39 = .ok (.getfield 19, 3) := by decide +kernel
theorem dX6_inconsistencies_42 : decode cX6_inconsistencies 42 = .ok (.invokevirtual 297, 3) := by decide +kernel
theorem dX6_inconsistencies_45 : decode cX6_inconsistencies 45 = .ok (.lload_n 2, 1) := by decide +kernel
theorem dX6_inconsistencies_46 : decode cX6_inconsistencies 46 = .ok (.lcmp, 1) := by decide +kernel
theorem dX6_inconsistencies_47 : decode cX6_inconsistencies 47 = .ok (.ifCond .eq 6, 3) := by decide +kernel
theorem dX6_inconsistencies_50 : decode cX6_inconsistencies 50 = .ok (.iinc 1 1, 3) := by decide +kernel
theorem dX6_inconsistencies_53 : decode cX6_inconsistencies 53 = .ok (.iinc 4 1, 3) := by decide +kernel
theorem dX6_inconsistencies_56 : decode cX6_inconsistencies 56 = .ok (.goto (-43), 3) := by decide +kernel
theorem dX6_inconsistencies_59 : decode cX6_inconsistencies 59 = .ok (.iconst 0, 1) := by decide +kernel
theorem dX6_inconsistencies_60 : decode cX6_inconsistencies 60 = .ok (.istore 4, 2) := by decide +kernel
theorem dX6_inconsistencies_62 : decode cX6_inconsistencies 62 = .ok (.iload 4, 2) := by decide +kernel
theorem dX6_inconsistencies_64 : decode cX6_inconsistencies 64 = .ok (.aload_n 0, 1) := by decide +kernel
theorem dX6_inconsistencies_65 : decode cX6_inconsistencies 65 = .ok (.getfield 33, 3) := by decide +kernel
theorem dX6_inconsistencies_68 : decode cX6_inconsistencies 68 = .ok (.invokevirtual 294, 3) := by decide +kernel
theorem dX6_inconsistencies_71 : decode cX6_inconsistencies 71 = .ok (.if_icmp .ge 35, 3) := by decide +kernel
theorem dX6_inconsistencies_74 : decode cX6_inconsistencies 74 = .ok (.aload_n 0, 1) := by decide +kernel
theorem dX6_inconsistencies_75 : decode cX6_inconsistencies 75 = .ok (.getfield 33, 3) := by decide +kernel
theorem dX6_inconsistencies_78 : decode cX6_inconsistencies 78 = .ok (.aload_n 0, 1) := by decide +kernel
theorem dX6_inconsistencies_79 : decode cX6_inconsistencies 79 = .ok (.getfield 33, 3) := by decide +kernel
theorem dX6_inconsistencies_82 : decode cX6_inconsistencies 82 = .ok (.getfield 174, 3) := by decide +kernel
theorem dX6_inconsistencies_85 : decode cX6_inconsistencies 85 = .ok (.iload 4, 2) := by decide +kernel
theorem dX6_inconsistencies_87 : decode cX6_inconsistencies 87 = .ok (.invokevirtual 247, 3) := by decide +kernel
theorem dX6_inconsistencies_90 : decode cX6_inconsistencies 90 = .ok (.aload_n 0, 1) := by decide +kernel
theorem dX6_inconsistencies_91 : decode cX6_inconsistencies 91 = .ok (.invokevirtual 300, 3) := by decide +kernel
theorem dX6_inconsistencies_94 : decode cX6_inconsistencies 94 = .ok (.ifCond .ne 6, 3) := by decide +kernel
theorem dX6_inconsistencies_97 : decode cX6_inconsistencies 97 = .ok (.iinc 1 1, 3) := by decide +kernel
theorem dX6_inconsistencies_100 : decode cX6_inconsistencies 100 = .ok (.iinc 4 1, 3) := by decide +kernel
theorem dX6_inconsistencies_103 : decode cX6_inconsistencies 103 = .ok (.goto (-41), 3) := by decide +kernel
theorem dX6_inconsistencies_106 : decode cX6_inconsistencies 106 = .ok (.aload_n 0, 1) := by decide +kernel
theorem dX6_inconsistencies_107 : decode cX6_inconsistencies 107 = .ok (.getfield 19, 3) := by decide +kernel
theorem dX6_inconsistencies_110 : decode cX6_inconsistencies 110 = .ok (.invokevirtual 303, 3) := by decide +kernel
theorem dX6_inconsistencies_113 : decode cX6_inconsistencies 113 = .ok (.lload_n 2, 1) := by decide +kernel
theorem dX6_inconsistencies_114 : decode cX6_inconsistencies 114 = .ok (.lcmp, 1) := by decide +kernel
theorem dX6_inconsistencies_115 : decode cX6_inconsistencies 115 = .ok (.ifCond .ne 7, 3) := by decide +kernel
theorem dX6_inconsistencies_118 : decode cX6_inconsistencies 118 = .ok (.iload_n 1, 1) := by decide +kernel
theorem dX6_inconsistencies_119 : decode cX6_inconsistencies 119 = .ok (.goto 6, 3) := by decide +kernel
theorem dX6_inconsistencies_122 : decode cX6_inconsistencies 122 = .ok (.iload_n 1, 1) := by decide +kernel
theorem dX6_inconsistencies_123 : decode cX6_inconsistencies 123 = .ok (.iconst 1, 1) := by decide +kernel
theorem dX6_inconsistencies_124 : decode cX6_inconsistencies 124 = .ok (.iadd, 1) := by decide +kernel
theorem dX6_inconsistencies_125 : decode cX6_inconsistencies 125 = .ok (.ireturn, 1) := by decide +kernel
theorem dX6_contentOf_0 : decode cX6_contentOf 0 = .ok (.bipush 8, 2) := by decide +kernel
theorem dX6_contentOf_2 : decode cX6_contentOf 2 = .ok (.iload_n 0, 1) := by decide +kernel
theorem dX6_contentOf_3 : decode cX6_contentOf 3 = .ok (.imul, 1) := by decide +kernel
theorem dX6_contentOf_4 : decode cX6_contentOf 4 = .ok (.iload_n 1, 1) := by decide +kernel
theorem dX6_contentOf_5 : decode cX6_contentOf 5 = .ok (.iadd, 1) := by decide +kernel
theorem dX6_contentOf_6 : decode cX6_contentOf 6 = .ok (.iconst 1, 1) := by decide +kernel
theorem dX6_contentOf_7 : decode cX6_contentOf 7 = .ok (.iadd, 1) := by decide +kernel
theorem dX6_contentOf_8 : decode cX6_contentOf 8 = .ok (.ireturn, 1) := by decide +kernel
theorem dX6_kindOf_0 : decode cX6_kindOf 0 = .ok (.iload_n 0, 1) := by decide +kernel
theorem dX6_kindOf_1 : decode cX6_kindOf 1 = .ok (.bipush 7, 2) := by decide +kernel
theorem dX6_kindOf_3 : decode cX6_kindOf 3 = .ok (.iand, 1) := by decide +kernel
theorem dX6_kindOf_4 : decode cX6_kindOf 4 = .ok (.iconst 1, 1) := by decide +kernel
theorem dX6_kindOf_5 : decode cX6_kindOf 5 = .ok (.isub, 1) := by decide +kernel
theorem dX6_kindOf_6 : decode cX6_kindOf 6 = .ok (.ireturn, 1) := by decide +kernel
theorem dX6_colourOf_0 : decode cX6_colourOf 0 = .ok (.iload_n 0, 1) := by decide +kernel
theorem dX6_colourOf_1 : decode cX6_colourOf 1 = .ok (.ifCond .ne 7, 3) := by decide +kernel
theorem dX6_colourOf_4 : decode cX6_colourOf 4 = .ok (.iconst (-1), 1) := by decide +kernel
theorem dX6_colourOf_5 : decode cX6_colourOf 5 = .ok (.goto 6, 3) := by decide +kernel
theorem dX6_colourOf_8 : decode cX6_colourOf 8 = .ok (.iload_n 0, 1) := by decide +kernel
theorem dX6_colourOf_9 : decode cX6_colourOf 9 = .ok (.iconst 3, 1) := by decide +kernel
theorem dX6_colourOf_10 : decode cX6_colourOf 10 = .ok (.ishr, 1) := by decide +kernel
theorem dX6_colourOf_11 : decode cX6_colourOf 11 = .ok (.ireturn, 1) := by decide +kernel
theorem dX6_isOpenOrBelow_0 : decode cX6_isOpenOrBelow 0 = .ok (.iload_n 0, 1) := by decide +kernel
theorem dX6_isOpenOrBelow_1 : decode cX6_isOpenOrBelow 1 = .ok (.iconst (-1), 1) := by decide +kernel
theorem dX6_isOpenOrBelow_2 : decode cX6_isOpenOrBelow 2 = .ok (.if_icmp .lt 12, 3) := by decide +kernel
theorem dX6_isOpenOrBelow_5 : decode cX6_isOpenOrBelow 5 = .ok (.iload_n 0, 1) := by decide +kernel
theorem dX6_isOpenOrBelow_6 : decode cX6_isOpenOrBelow 6 = .ok (.iload_n 1, 1) := by decide +kernel
theorem dX6_isOpenOrBelow_7 : decode cX6_isOpenOrBelow 7 = .ok (.if_icmp .ge 7, 3) := by decide +kernel
theorem dX6_isOpenOrBelow_10 : decode cX6_isOpenOrBelow 10 = .ok (.iconst 1, 1) := by decide +kernel
theorem dX6_isOpenOrBelow_11 : decode cX6_isOpenOrBelow 11 = .ok (.goto 4, 3) := by decide +kernel
theorem dX6_isOpenOrBelow_14 : decode cX6_isOpenOrBelow 14 = .ok (.iconst 0, 1) := by decide +kernel
theorem dX6_isOpenOrBelow_15 : decode cX6_isOpenOrBelow 15 = .ok (.ireturn, 1) := by decide +kernel
theorem dX6_requireNote_0 : decode cX6_requireNote 0 = .ok (.iload_n 1, 1) := by decide +kernel
theorem dX6_requireNote_1 : decode cX6_requireNote 1 = .ok (.ifCond .lt 14, 3) := by decide +kernel
theorem dX6_requireNote_4 : decode cX6_requireNote 4 = .ok (.iload_n 1, 1) := by decide +kernel
theorem dX6_requireNote_5 : decode cX6_requireNote 5 = .ok (.aload_n 0, 1) := by decide +kernel
theorem dX6_requireNote_6 : decode cX6_requireNote 6 = .ok (.getfield 33, 3) := by decide +kernel
theorem dX6_requireNote_9 : decode cX6_requireNote 9 = .ok (.getfield 174, 3) := by decide +kernel
theorem dX6_requireNote_12 : decode cX6_requireNote 12 = .ok (.if_icmp .lt 14, 3) := by decide +kernel
theorem dX6_requireNote_15 : decode cX6_requireNote 15 = .ok (.new 319, 3) := by decide +kernel
theorem dX6_requireNote_18 : decode cX6_requireNote 18 = .ok (.dup, 1) := by decide +kernel
theorem dX6_requireNote_19 : decode cX6_requireNote 19 = .ok (.ldc_w 321, 3) := by decide +kernel
theorem dX6_requireNote_22 : decode cX6_requireNote 22 = .ok (.invokespecial 323, 3) := by decide +kernel
theorem dX6_requireNote_25 : decode cX6_requireNote 25 = .ok (.athrow, 1) := by decide +kernel
theorem dX6_requireNote_26 : decode cX6_requireNote 26 = .ok (.return_, 1) := by decide +kernel
theorem dX6_requirePosition_0 : decode cX6_requirePosition 0 = .ok (.iload_n 1, 1) := by decide +kernel
theorem dX6_requirePosition_1 : decode cX6_requirePosition 1 = .ok (.ifCond .lt 14, 3) := by decide +kernel
theorem dX6_requirePosition_4 : decode cX6_requirePosition 4 = .ok (.iload_n 1, 1) := by decide +kernel
theorem dX6_requirePosition_5 : decode cX6_requirePosition 5 = .ok (.aload_n 0, 1) := by decide +kernel
theorem dX6_requirePosition_6 : decode cX6_requirePosition 6 = .ok (.getfield 33, 3) := by decide +kernel
theorem dX6_requirePosition_9 : decode cX6_requirePosition 9 = .ok (.invokevirtual 294, 3) := by decide +kernel
theorem dX6_requirePosition_12 : decode cX6_requirePosition 12 = .ok (.if_icmp .lt 14, 3) := by decide +kernel
theorem dX6_requirePosition_15 : decode cX6_requirePosition 15 = .ok (.new 319, 3) := by decide +kernel
theorem dX6_requirePosition_18 : decode cX6_requirePosition 18 = .ok (.dup, 1) := by decide +kernel
theorem dX6_requirePosition_19 : decode cX6_requirePosition 19 = .ok (.ldc_w 324, 3) := by decide +kernel
theorem dX6_requirePosition_22 : decode cX6_requirePosition 22 = .ok (.invokespecial 323, 3) := by decide +kernel
theorem dX6_requirePosition_25 : decode cX6_requirePosition 25 = .ok (.athrow, 1) := by decide +kernel
theorem dX6_requirePosition_26 : decode cX6_requirePosition 26 = .ok (.return_, 1) := by decide +kernel
theorem dX6_requireSquare_0 : decode cX6_requireSquare 0 = .ok (.iload_n 1, 1) := by decide +kernel
theorem dX6_requireSquare_1 : decode cX6_requireSquare 1 = .ok (.ifCond .lt 35, 3) := by decide +kernel
theorem dX6_requireSquare_4 : decode cX6_requireSquare 4 = .ok (.iload_n 1, 1) := by decide +kernel
theorem dX6_requireSquare_5 : decode cX6_requireSquare 5 = .ok (.aload_n 0, 1) := by decide +kernel
theorem dX6_requireSquare_6 : decode cX6_requireSquare 6 = .ok (.getfield 33, 3) := by decide +kernel
theorem dX6_requireSquare_9 : decode cX6_requireSquare 9 = .ok (.getfield 95, 3) := by decide +kernel
theorem dX6_requireSquare_12 : decode cX6_requireSquare 12 = .ok (.getfield 150, 3) := by decide +kernel
theorem dX6_requireSquare_15 : decode cX6_requireSquare 15 = .ok (.if_icmp .ge 21, 3) := by decide +kernel
theorem dX6_requireSquare_18 : decode cX6_requireSquare 18 = .ok (.iload_n 2, 1) := by decide +kernel
theorem dX6_requireSquare_19 : decode cX6_requireSquare 19 = .ok (.ifCond .lt 17, 3) := by decide +kernel
theorem dX6_requireSquare_22 : decode cX6_requireSquare 22 = .ok (.iload_n 2, 1) := by decide +kernel
theorem dX6_requireSquare_23 : decode cX6_requireSquare 23 = .ok (.aload_n 0, 1) := by decide +kernel
theorem dX6_requireSquare_24 : decode cX6_requireSquare 24 = .ok (.getfield 33, 3) := by decide +kernel
theorem dX6_requireSquare_27 : decode cX6_requireSquare 27 = .ok (.getfield 95, 3) := by decide +kernel
theorem dX6_requireSquare_30 : decode cX6_requireSquare 30 = .ok (.getfield 159, 3) := by decide +kernel
theorem dX6_requireSquare_33 : decode cX6_requireSquare 33 = .ok (.if_icmp .lt 14, 3) := by decide +kernel
theorem dX6_requireSquare_36 : decode cX6_requireSquare 36 = .ok (.new 319, 3) := by decide +kernel
theorem dX6_requireSquare_39 : decode cX6_requireSquare 39 = .ok (.dup, 1) := by decide +kernel
theorem dX6_requireSquare_40 : decode cX6_requireSquare 40 = .ok (.ldc_w 326, 3) := by decide +kernel
theorem dX6_requireSquare_43 : decode cX6_requireSquare 43 = .ok (.invokespecial 323, 3) := by decide +kernel
theorem dX6_requireSquare_46 : decode cX6_requireSquare 46 = .ok (.athrow, 1) := by decide +kernel
theorem dX6_requireSquare_47 : decode cX6_requireSquare 47 = .ok (.return_, 1) := by decide +kernel
theorem dX6_requireColour_0 : decode cX6_requireColour 0 = .ok (.iload_n 1, 1) := by decide +kernel
theorem dX6_requireColour_1 : decode cX6_requireColour 1 = .ok (.ifCond .eq 19, 3) := by decide +kernel
theorem dX6_requireColour_4 : decode cX6_requireColour 4 = .ok (.iload_n 1, 1) := by decide +kernel
theorem dX6_requireColour_5 : decode cX6_requireColour 5 = .ok (.iconst 1, 1) := by decide +kernel
theorem dX6_requireColour_6 : decode cX6_requireColour 6 = .ok (.if_icmp .eq 14, 3) := by decide +kernel
theorem dX6_requireColour_9 : decode cX6_requireColour 9 = .ok (.new 85, 3) := by decide +kernel
theorem dX6_requireColour_12 : decode cX6_requireColour 12 = .ok (.dup, 1) := by decide +kernel
theorem dX6_requireColour_13 : decode cX6_requireColour 13 = .ok (.ldc_w 328, 3) := by decide +kernel
theorem dX6_requireColour_16 : decode cX6_requireColour 16 = .ok (.invokespecial 89, 3) := by decide +kernel
theorem dX6_requireColour_19 : decode cX6_requireColour 19 = .ok (.athrow, 1) := by decide +kernel
theorem dX6_requireColour_20 : decode cX6_requireColour 20 = .ok (.return_, 1) := by decide +kernel
theorem dX6_requireStatable_0 : decode cX6_requireStatable 0 = .ok (.aload_n 0, 1) := by decide +kernel
theorem dX6_requireStatable_1 : decode cX6_requireStatable 1 = .ok (.getfield 33, 3) := by decide +kernel
theorem dX6_requireStatable_4 : decode cX6_requireStatable 4 = .ok (.getfield 95, 3) := by decide +kernel
theorem dX6_requireStatable_7 : decode cX6_requireStatable 7 = .ok (.astore 5, 2) := by decide +kernel
theorem dX6_requireStatable_9 : decode cX6_requireStatable 9 = .ok (.iload_n 1, 1) := by decide +kernel
theorem dX6_requireStatable_10 : decode cX6_requireStatable 10 = .ok (.iconst 5, 1) := by decide +kernel
theorem dX6_requireStatable_11 : decode cX6_requireStatable 11 = .ok (.invokestatic 155, 3) := by decide +kernel
theorem dX6_requireStatable_14 : decode cX6_requireStatable 14 = .ok (.ifCond .eq 40, 3) := by decide +kernel
theorem dX6_requireStatable_17 : decode cX6_requireStatable 17 = .ok (.iload_n 2, 1) := by decide +kernel
theorem dX6_requireStatable_18 : decode cX6_requireStatable 18 = .ok (.aload 5, 2) := by decide +kernel
theorem dX6_requireStatable_20 : decode cX6_requireStatable 20 = .ok (.getfield 150, 3) := by decide +kernel
theorem dX6_requireStatable_23 : decode cX6_requireStatable 23 = .ok (.invokestatic 155, 3) := by decide +kernel
theorem dX6_requireStatable_26 : decode cX6_requireStatable 26 = .ok (.ifCond .eq 28, 3) := by decide +kernel
theorem dX6_requireStatable_29 : decode cX6_requireStatable 29 = .ok (.iload_n 3, 1) := by decide +kernel
theorem dX6_requireStatable_30 : decode cX6_requireStatable 30 = .ok (.aload 5, 2) := by decide +kernel
theorem dX6_requireStatable_32 : decode cX6_requireStatable 32 = .ok (.getfield 150, 3) := by decide +kernel
theorem dX6_requireStatable_35 : decode cX6_requireStatable 35 = .ok (.invokestatic 155, 3) := by decide +kernel
theorem dX6_requireStatable_38 : decode cX6_requireStatable 38 = .ok (.ifCond .eq 16, 3) := by decide +kernel
theorem dX6_requireStatable_41 : decode cX6_requireStatable 41 = .ok (.iload 4, 2) := by decide +kernel
theorem dX6_requireStatable_43 : decode cX6_requireStatable 43 = .ok (.aload 5, 2) := by decide +kernel
theorem dX6_requireStatable_45 : decode cX6_requireStatable 45 = .ok (.getfield 159, 3) := by decide +kernel
theorem dX6_requireStatable_48 : decode cX6_requireStatable 48 = .ok (.invokestatic 155, 3) := by decide +kernel
theorem dX6_requireStatable_51 : decode cX6_requireStatable 51 = .ok (.ifCond .ne 14, 3) := by decide +kernel
theorem dX6_requireStatable_54 : decode cX6_requireStatable 54 = .ok (.new 85, 3) := by decide +kernel
theorem dX6_requireStatable_57 : decode cX6_requireStatable 57 = .ok (.dup, 1) := by decide +kernel
theorem dX6_requireStatable_58 : decode cX6_requireStatable 58 = .ok (.ldc_w 332, 3) := by decide +kernel
theorem dX6_requireStatable_61 : decode cX6_requireStatable 61 = .ok (.invokespecial 89, 3) := by decide +kernel
theorem dX6_requireStatable_64 : decode cX6_requireStatable 64 = .ok (.athrow, 1) := by decide +kernel
theorem dX6_requireStatable_65 : decode cX6_requireStatable 65 = .ok (.return_, 1) := by decide +kernel
theorem dX6_requireMove_0 : decode cX6_requireMove 0 = .ok (.aload_n 0, 1) := by decide +kernel
theorem dX6_requireMove_1 : decode cX6_requireMove 1 = .ok (.iload_n 1, 1) := by decide +kernel
theorem dX6_requireMove_2 : decode cX6_requireMove 2 = .ok (.invokevirtual 147, 3) := by decide +kernel
theorem dX6_requireMove_5 : decode cX6_requireMove 5 = .ok (.aload_n 0, 1) := by decide +kernel
theorem dX6_requireMove_6 : decode cX6_requireMove 6 = .ok (.getfield 19, 3) := by decide +kernel
theorem dX6_requireMove_9 : decode cX6_requireMove 9 = .ok (.aload_n 0, 1) := by decide +kernel
theorem dX6_requireMove_10 : decode cX6_requireMove 10 = .ok (.getfield 33, 3) := by decide +kernel
theorem dX6_requireMove_13 : decode cX6_requireMove 13 = .ok (.iload_n 1, 1) := by decide +kernel
theorem dX6_requireMove_14 : decode cX6_requireMove 14 = .ok (.invokevirtual 275, 3) := by decide +kernel
theorem dX6_requireMove_17 : decode cX6_requireMove 17 = .ok (.aload_n 0, 1) := by decide +kernel
theorem dX6_requireMove_18 : decode cX6_requireMove 18 = .ok (.getfield 19, 3) := by decide +kernel
theorem dX6_requireMove_21 : decode cX6_requireMove 21 = .ok (.iload_n 2, 1) := by decide +kernel
theorem dX6_requireMove_22 : decode cX6_requireMove 22 = .ok (.invokevirtual 334, 3) := by decide +kernel
theorem dX6_requireMove_25 : decode cX6_requireMove 25 = .ok (.istore_n 3, 1) := by decide +kernel
theorem dX6_requireMove_26 : decode cX6_requireMove 26 = .ok (.iload_n 3, 1) := by decide +kernel
theorem dX6_requireMove_27 : decode cX6_requireMove 27 = .ok (.iconst (-1), 1) := by decide +kernel
theorem dX6_requireMove_28 : decode cX6_requireMove 28 = .ok (.if_icmp .ne 14, 3) := by decide +kernel
theorem dX6_requireMove_31 : decode cX6_requireMove 31 = .ok (.new 319, 3) := by decide +kernel
theorem dX6_requireMove_34 : decode cX6_requireMove 34 = .ok (.dup, 1) := by decide +kernel
theorem dX6_requireMove_35 : decode cX6_requireMove 35 = .ok (.ldc_w 337, 3) := by decide +kernel
theorem dX6_requireMove_38 : decode cX6_requireMove 38 = .ok (.invokespecial 323, 3) := by decide +kernel
theorem dX6_requireMove_41 : decode cX6_requireMove 41 = .ok (.athrow, 1) := by decide +kernel
theorem dX6_requireMove_42 : decode cX6_requireMove 42 = .ok (.iload_n 3, 1) := by decide +kernel
theorem dX6_requireMove_43 : decode cX6_requireMove 43 = .ok (.ireturn, 1) := by decide +kernel
theorem dX6_followAsked_0 : decode cX6_followAsked 0 = .ok (.aload_n 0, 1) := by decide +kernel
theorem dX6_followAsked_1 : decode cX6_followAsked 1 = .ok (.getfield 37, 3) := by decide +kernel
theorem dX6_followAsked_4 : decode cX6_followAsked 4 = .ok (.aload_n 0, 1) := by decide +kernel
theorem dX6_followAsked_5 : decode cX6_followAsked 5 = .ok (.getfield 33, 3) := by decide +kernel
theorem dX6_followAsked_8 : decode cX6_followAsked 8 = .ok (.invokevirtual 114, 3) := by decide +kernel
theorem dX6_followAsked_11 : decode cX6_followAsked 11 = .ok (.aload_n 0, 1) := by decide +kernel
theorem dX6_followAsked_12 : decode cX6_followAsked 12 = .ok (.getfield 37, 3) := by decide +kernel
theorem dX6_followAsked_15 : decode cX6_followAsked 15 = .ok (.aload_n 0, 1) := by decide +kernel
theorem dX6_followAsked_16 : decode cX6_followAsked 16 = .ok (.getfield 26, 3) := by decide +kernel
theorem dX6_followAsked_19 : decode cX6_followAsked 19 = .ok (.invokevirtual 339, 3) := by decide +kernel
theorem dX6_followAsked_22 : decode cX6_followAsked 22 = .ok (.ifCond .eq 22, 3) := by decide +kernel
theorem dX6_followAsked_25 : decode cX6_followAsked 25 = .ok (.aload_n 0, 1) := by decide +kernel
theorem dX6_followAsked_26 : decode cX6_followAsked 26 = .ok (.getfield 37, 3) := by decide +kernel
theorem dX6_followAsked_29 : decode cX6_followAsked 29 = .ok (.aload_n 0, 1) := by decide +kernel
theorem dX6_followAsked_30 : decode cX6_followAsked 30 = .ok (.getfield 37, 3) := by decide +kernel
theorem dX6_followAsked_33 : decode cX6_followAsked 33 = .ok (.getfield 174, 3) := by decide +kernel
theorem dX6_followAsked_36 : decode cX6_followAsked 36 = .ok (.iconst 1, 1) := by decide +kernel
theorem dX6_followAsked_37 : decode cX6_followAsked 37 = .ok (.isub, 1) := by decide +kernel
theorem dX6_followAsked_38 : decode cX6_followAsked 38 = .ok (.invokevirtual 168, 3) := by decide +kernel
theorem dX6_followAsked_41 : decode cX6_followAsked 41 = .ok (.goto 4, 3) := by decide +kernel
theorem dX6_followAsked_44 : decode cX6_followAsked 44 = .ok (.iconst (-1), 1) := by decide +kernel
theorem dX6_followAsked_45 : decode cX6_followAsked 45 = .ok (.ireturn, 1) := by decide +kernel
theorem dX6_runCommands_0 : decode cX6_runCommands 0 = .ok (.iconst 0, 1) := by decide +kernel
theorem dX6_runCommands_1 : decode cX6_runCommands 1 = .ok (.istore_n 1, 1) := by decide +kernel
theorem dX6_runCommands_2 : decode cX6_runCommands 2 = .ok (.iload_n 1, 1) := by decide +kernel
theorem dX6_runCommands_3 : decode cX6_runCommands 3 = .ok (.sipush 600, 3) := by decide +kernel
theorem dX6_runCommands_6 : decode cX6_runCommands 6 = .ok (.if_icmp .ge 198, 3) := by decide +kernel
theorem dX6_runCommands_9 : decode cX6_runCommands 9 = .ok (.aload_n 0, 1) := by decide +kernel
theorem dX6_runCommands_10 : decode cX6_runCommands 10 = .ok (.getfield 12, 3) := by decide +kernel
theorem dX6_runCommands_13 : decode cX6_runCommands 13 = .ok (.invokevirtual 343, 3) := by decide +kernel
theorem dX6_runCommands_16 : decode cX6_runCommands 16 = .ok (.ifCond .ne 188, 3) := by decide +kernel
theorem dX6_runCommands_19 : decode cX6_runCommands 19 = .ok (.aload_n 0, 1) := by decide +kernel
theorem dX6_runCommands_20 : decode cX6_runCommands 20 = .ok (.getfield 12, 3) := by decide +kernel
theorem dX6_runCommands_23 : decode cX6_runCommands 23 = .ok (.aload_n 0, 1) := by decide +kernel
theorem dX6_runCommands_24 : decode cX6_runCommands 24 = .ok (.getfield 37, 3) := by decide +kernel
theorem dX6_runCommands_27 : decode cX6_runCommands 27 = .ok (.invokevirtual 346, 3) := by decide +kernel
theorem dX6_runCommands_30 : decode cX6_runCommands 30 = .ok (.ifCond .ne 5, 3) := by decide +kernel
theorem dX6_runCommands_33 : decode cX6_runCommands 33 = .ok (.iconst 0, 1) := by decide +kernel
theorem dX6_runCommands_34 : decode cX6_runCommands 34 = .ok (.ireturn, 1) := by decide +kernel
theorem dX6_runCommands_35 : decode cX6_runCommands 35 = .ok (.iconst 1, 1) := by decide +kernel
theorem dX6_runCommands_36 : decode cX6_runCommands 36 = .ok (.istore_n 2, 1) := by decide +kernel
theorem dX6_runCommands_37 : decode cX6_runCommands 37 = .ok (.aload_n 0, 1) := by decide +kernel
theorem dX6_runCommands_38 : decode cX6_runCommands 38 = .ok (.getfield 12, 3) := by decide +kernel
theorem dX6_runCommands_41 : decode cX6_runCommands 41 = .ok (.getfield 350, 3) := by decide +kernel
theorem dX6_runCommands_44 : decode cX6_runCommands 44 = .ok (.ifCond .ne 48, 3) := by decide +kernel
theorem dX6_runCommands_47 : decode cX6_runCommands 47 = .ok (.aload_n 0, 1) := by decide +kernel
theorem dX6_runCommands_48 : decode cX6_runCommands 48 = .ok (.getfield 37, 3) := by decide +kernel
theorem dX6_runCommands_51 : decode cX6_runCommands 51 = .ok (.aload_n 0, 1) := by decide +kernel
theorem dX6_runCommands_52 : decode cX6_runCommands 52 = .ok (.getfield 12, 3) := by decide +kernel
theorem dX6_runCommands_55 : decode cX6_runCommands 55 = .ok (.getfield 353, 3) := by decide +kernel
theorem dX6_runCommands_58 : decode cX6_runCommands 58 = .ok (.invokevirtual 339, 3) := by decide +kernel
theorem dX6_runCommands_61 : decode cX6_runCommands 61 = .ok (.ifCond .eq 26, 3) := by decide +kernel
theorem dX6_runCommands_64 : decode cX6_runCommands 64 = .ok (.aload_n 0, 1) := by decide +kernel
theorem dX6_runCommands_65 : decode cX6_runCommands 65 = .ok (.getfield 37, 3) := by decide +kernel
theorem dX6_runCommands_68 : decode cX6_runCommands 68 = .ok (.aload_n 0, 1) := by decide +kernel
theorem dX6_runCommands_69 : decode cX6_runCommands 69 = .ok (.getfield 37, 3) := by decide +kernel
theorem dX6_runCommands_72 : decode cX6_runCommands 72 = .ok (.getfield 174, 3) := by decide +kernel
theorem dX6_runCommands_75 : decode cX6_runCommands 75 = .ok (.iconst 1, 1) := by decide +kernel
theorem dX6_runCommands_76 : decode cX6_runCommands 76 = .ok (.isub, 1) := by decide +kernel
theorem dX6_runCommands_77 : decode cX6_runCommands 77 = .ok (.invokevirtual 168, 3) := by decide +kernel
theorem dX6_runCommands_80 : decode cX6_runCommands 80 = .ok (.ifCond .le 7, 3) := by decide +kernel
theorem dX6_runCommands_83 : decode cX6_runCommands 83 = .ok (.iconst 1, 1) := by decide +kernel
theorem dX6_runCommands_84 : decode cX6_runCommands 84 = .ok (.goto 4, 3) := by decide +kernel
theorem dX6_runCommands_87 : decode cX6_runCommands 87 = .ok (.iconst 0, 1) := by decide +kernel
theorem dX6_runCommands_88 : decode cX6_runCommands 88 = .ok (.istore_n 2, 1) := by decide +kernel
theorem dX6_runCommands_89 : decode cX6_runCommands 89 = .ok (.goto 96, 3) := by decide +kernel
theorem dX6_runCommands_92 : decode cX6_runCommands 92 = .ok (.aload_n 0, 1) := by decide +kernel
theorem dX6_runCommands_93 : decode cX6_runCommands 93 = .ok (.getfield 12, 3) := by decide +kernel
theorem dX6_runCommands_96 : decode cX6_runCommands 96 = .ok (.getfield 350, 3) := by decide +kernel
theorem dX6_runCommands_99 : decode cX6_runCommands 99 = .ok (.iconst 1, 1) := by decide +kernel
theorem dX6_runCommands_100 : decode cX6_runCommands 100 = .ok (.if_icmp .ne 57, 3) := by decide +kernel
theorem dX6_runCommands_103 : decode cX6_runCommands 103 = .ok (.aload_n 0, 1) := by decide +kernel
theorem dX6_runCommands_104 : decode cX6_runCommands 104 = .ok (.getfield 37, 3) := by decide +kernel
theorem dX6_runCommands_107 : decode cX6_runCommands 107 = .ok (.aload_n 0, 1) := by decide +kernel
theorem dX6_runCommands_108 : decode cX6_runCommands 108 = .ok (.getfield 12, 3) := by decide +kernel
theorem dX6_runCommands_111 : decode cX6_runCommands 111 = .ok (.getfield 356, 3) := by decide +kernel
theorem dX6_runCommands_114 : decode cX6_runCommands 114 = .ok (.aload_n 0, 1) := by decide +kernel
theorem dX6_runCommands_115 : decode cX6_runCommands 115 = .ok (.getfield 12, 3) := by decide +kernel
theorem dX6_runCommands_118 : decode cX6_runCommands 118 = .ok (.getfield 359, 3) := by decide +kernel
theorem dX6_runCommands_121 : decode cX6_runCommands 121 = .ok (.aload_n 0, 1) := by decide +kernel
theorem dX6_runCommands_122 : decode cX6_runCommands 122 = .ok (.getfield 12, 3) := by decide +kernel
theorem dX6_runCommands_125 : decode cX6_runCommands 125 = .ok (.getfield 362, 3) := by decide +kernel
theorem dX6_runCommands_128 : decode cX6_runCommands 128 = .ok (.invokevirtual 164, 3) := by decide +kernel
theorem dX6_runCommands_131 : decode cX6_runCommands 131 = .ok (.aload_n 0, 1) := by decide +kernel
theorem dX6_runCommands_132 : decode cX6_runCommands 132 = .ok (.getfield 37, 3) := by decide +kernel
theorem dX6_runCommands_135 : decode cX6_runCommands 135 = .ok (.aload_n 0, 1) := by decide +kernel
theorem dX6_runCommands_136 : decode cX6_runCommands 136 = .ok (.getfield 12, 3) := by decide +kernel
theorem dX6_runCommands_139 : decode cX6_runCommands 139 = .ok (.getfield 356, 3) := by decide +kernel
theorem dX6_runCommands_142 : decode cX6_runCommands 142 = .ok (.invokevirtual 168, 3) := by decide +kernel
theorem dX6_runCommands_145 : decode cX6_runCommands 145 = .ok (.ifCond .le 7, 3) := by decide +kernel
theorem dX6_runCommands_148 : decode cX6_runCommands 148 = .ok (.iconst 1, 1) := by decide +kernel
theorem dX6_runCommands_149 : decode cX6_runCommands 149 = .ok (.goto 4, 3) := by decide +kernel
theorem dX6_runCommands_152 : decode cX6_runCommands 152 = .ok (.iconst 0, 1) := by decide +kernel
theorem dX6_runCommands_153 : decode cX6_runCommands 153 = .ok (.istore_n 2, 1) := by decide +kernel
theorem dX6_runCommands_154 : decode cX6_runCommands 154 = .ok (.goto 31, 3) := by decide +kernel
theorem dX6_runCommands_157 : decode cX6_runCommands 157 = .ok (.aload_n 0, 1) := by decide +kernel
theorem dX6_runCommands_158 : decode cX6_runCommands 158 = .ok (.getfield 37, 3) := by decide +kernel
theorem dX6_runCommands_161 : decode cX6_runCommands 161 = .ok (.getfield 174, 3) := by decide +kernel
theorem dX6_runCommands_164 : decode cX6_runCommands 164 = .ok (.ifCond .le 19, 3) := by decide +kernel
theorem dX6_runCommands_167 : decode cX6_runCommands 167 = .ok (.aload_n 0, 1) := by decide +kernel
theorem dX6_runCommands_168 : decode cX6_runCommands 168 = .ok (.getfield 37, 3) := by decide +kernel
theorem dX6_runCommands_171 : decode cX6_runCommands 171 = .ok (.dup, 1) := by decide +kernel
theorem dX6_runCommands_172 : decode cX6_runCommands 172 = .ok (.getfield 174, 3) := by decide +kernel
theorem dX6_runCommands_175 : decode cX6_runCommands 175 = .ok (.iconst 1, 1) := by decide +kernel
theorem dX6_runCommands_176 : decode cX6_runCommands 176 = .ok (.isub, 1) := by decide +kernel
theorem dX6_runCommands_177 : decode cX6_runCommands 177 = .ok (.putfield 174, 3) := by decide +kernel
theorem dX6_runCommands_180 : decode cX6_runCommands 180 = .ok (.goto 5, 3) := by decide +kernel
theorem dX6_runCommands_183 : decode cX6_runCommands 183 = .ok (.iconst 0, 1) := by decide +kernel
theorem dX6_runCommands_184 : decode cX6_runCommands 184 = .ok (.istore_n 2, 1) := by decide +kernel
theorem dX6_runCommands_185 : decode cX6_runCommands 185 = .ok (.aload_n 0, 1) := by decide +kernel
theorem dX6_runCommands_186 : decode cX6_runCommands 186 = .ok (.getfield 12, 3) := by decide +kernel
theorem dX6_runCommands_189 : decode cX6_runCommands 189 = .ok (.iload_n 2, 1) := by decide +kernel
theorem dX6_runCommands_190 : decode cX6_runCommands 190 = .ok (.invokevirtual 365, 3) := by decide +kernel
theorem dX6_runCommands_193 : decode cX6_runCommands 193 = .ok (.ifCond .ne 5, 3) := by decide +kernel
theorem dX6_runCommands_196 : decode cX6_runCommands 196 = .ok (.iconst 0, 1) := by decide +kernel
theorem dX6_runCommands_197 : decode cX6_runCommands 197 = .ok (.ireturn, 1) := by decide +kernel
theorem dX6_runCommands_198 : decode cX6_runCommands 198 = .ok (.iinc 1 1, 3) := by decide +kernel
theorem dX6_runCommands_201 : decode cX6_runCommands 201 = .ok (.goto (-199), 3) := by decide +kernel
theorem dX6_runCommands_204 : decode cX6_runCommands 204 = .ok (.iconst 1, 1) := by decide +kernel
theorem dX6_runCommands_205 : decode cX6_runCommands 205 = .ok (.ireturn, 1) := by decide +kernel
theorem dX6_endOfText_0 : decode cX6_endOfText 0 = .ok (.aload_n 0, 1) := by decide +kernel
theorem dX6_endOfText_1 : decode cX6_endOfText 1 = .ok (.getfield 12, 3) := by decide +kernel
theorem dX6_endOfText_4 : decode cX6_endOfText 4 = .ok (.getfield 68, 3) := by decide +kernel
theorem dX6_endOfText_7 : decode cX6_endOfText 7 = .ok (.iconst 0, 1) := by decide +kernel
theorem dX6_endOfText_8 : decode cX6_endOfText 8 = .ok (.putfield 82, 3) := by decide +kernel
theorem dX6_endOfText_11 : decode cX6_endOfText 11 = .ok (.iload_n 1, 1) := by decide +kernel
theorem dX6_endOfText_12 : decode cX6_endOfText 12 = .ok (.ifCond .eq 7, 3) := by decide +kernel
theorem dX6_endOfText_15 : decode cX6_endOfText 15 = .ok (.aload_n 0, 1) := by decide +kernel
theorem dX6_endOfText_16 : decode cX6_endOfText 16 = .ok (.invokevirtual 144, 3) := by decide +kernel
theorem dX6_endOfText_19 : decode cX6_endOfText 19 = .ok (.iload_n 1, 1) := by decide +kernel
theorem dX6_endOfText_20 : decode cX6_endOfText 20 = .ok (.ireturn, 1) := by decide +kernel
theorem dX6_commit_0 : decode cX6_commit 0 = .ok (.aload_n 0, 1) := by decide +kernel
theorem dX6_commit_1 : decode cX6_commit 1 = .ok (.aload_n 0, 1) := by decide +kernel
theorem dX6_commit_2 : decode cX6_commit 2 = .ok (.getfield 44, 3) := by decide +kernel
theorem dX6_commit_5 : decode cX6_commit 5 = .ok (.iconst 1, 1) := by decide +kernel
theorem dX6_commit_6 : decode cX6_commit 6 = .ok (.iadd, 1) := by decide +kernel
theorem dX6_commit_7 : decode cX6_commit 7 = .ok (.bipush 8, 2) := by decide +kernel
theorem dX6_commit_9 : decode cX6_commit 9 = .ok (.if_icmp .ge 12, 3) := by decide +kernel
theorem dX6_commit_12 : decode cX6_commit 12 = .ok (.aload_n 0, 1) := by decide +kernel
theorem dX6_commit_13 : decode cX6_commit 13 = .ok (.getfield 44, 3) := by decide +kernel
theorem dX6_commit_16 : decode cX6_commit 16 = .ok (.iconst 1, 1) := by decide +kernel
theorem dX6_commit_17 : decode cX6_commit 17 = .ok (.iadd, 1) := by decide +kernel
theorem dX6_commit_18 : decode cX6_commit 18 = .ok (.goto 4, 3) := by decide +kernel
theorem dX6_commit_21 : decode cX6_commit 21 = .ok (.iconst 0, 1) := by decide +kernel
theorem dX6_commit_22 : decode cX6_commit 22 = .ok (.putfield 44, 3) := by decide +kernel
theorem dX6_commit_25 : decode cX6_commit 25 = .ok (.aload_n 0, 1) := by decide +kernel
theorem dX6_commit_26 : decode cX6_commit 26 = .ok (.getfield 40, 3) := by decide +kernel
theorem dX6_commit_29 : decode cX6_commit 29 = .ok (.aload_n 0, 1) := by decide +kernel
theorem dX6_commit_30 : decode cX6_commit 30 = .ok (.getfield 44, 3) := by decide +kernel
theorem dX6_commit_33 : decode cX6_commit 33 = .ok (.aaload, 1) := by decide +kernel
theorem dX6_commit_34 : decode cX6_commit 34 = .ok (.astore_n 1, 1) := by decide +kernel
theorem dX6_commit_35 : decode cX6_commit 35 = .ok (.aload_n 0, 1) := by decide +kernel
theorem dX6_commit_36 : decode cX6_commit 36 = .ok (.getfield 40, 3) := by decide +kernel
theorem dX6_commit_39 : decode cX6_commit 39 = .ok (.aload_n 0, 1) := by decide +kernel
theorem dX6_commit_40 : decode cX6_commit 40 = .ok (.getfield 44, 3) := by decide +kernel
theorem dX6_commit_43 : decode cX6_commit 43 = .ok (.aload_n 0, 1) := by decide +kernel
theorem dX6_commit_44 : decode cX6_commit 44 = .ok (.getfield 33, 3) := by decide +kernel
theorem dX6_commit_47 : decode cX6_commit 47 = .ok (.aastore, 1) := by decide +kernel
theorem dX6_commit_48 : decode cX6_commit 48 = .ok (.aload_n 0, 1) := by decide +kernel
theorem dX6_commit_49 : decode cX6_commit 49 = .ok (.aload_n 0, 1) := by decide +kernel
theorem dX6_commit_50 : decode cX6_commit 50 = .ok (.getfield 37, 3) := by decide +kernel
theorem dX6_commit_53 : decode cX6_commit 53 = .ok (.putfield 33, 3) := by decide +kernel
theorem dX6_commit_56 : decode cX6_commit 56 = .ok (.aload_n 0, 1) := by decide +kernel
theorem dX6_commit_57 : decode cX6_commit 57 = .ok (.aload_n 1, 1) := by decide +kernel
theorem dX6_commit_58 : decode cX6_commit 58 = .ok (.putfield 37, 3) := by decide +kernel
theorem dX6_commit_61 : decode cX6_commit 61 = .ok (.aload_n 0, 1) := by decide +kernel
theorem dX6_commit_62 : decode cX6_commit 62 = .ok (.getfield 48, 3) := by decide +kernel
theorem dX6_commit_65 : decode cX6_commit 65 = .ok (.bipush 8, 2) := by decide +kernel
theorem dX6_commit_67 : decode cX6_commit 67 = .ok (.if_icmp .ge 13, 3) := by decide +kernel
theorem dX6_commit_70 : decode cX6_commit 70 = .ok (.aload_n 0, 1) := by decide +kernel
theorem dX6_commit_71 : decode cX6_commit 71 = .ok (.dup, 1) := by decide +kernel
theorem dX6_commit_72 : decode cX6_commit 72 = .ok (.getfield 48, 3) := by decide +kernel
theorem dX6_commit_75 : decode cX6_commit 75 = .ok (.iconst 1, 1) := by decide +kernel
theorem dX6_commit_76 : decode cX6_commit 76 = .ok (.iadd, 1) := by decide +kernel
theorem dX6_commit_77 : decode cX6_commit 77 = .ok (.putfield 48, 3) := by decide +kernel
theorem dX6_commit_80 : decode cX6_commit 80 = .ok (.aload_n 0, 1) := by decide +kernel
theorem dX6_commit_81 : decode cX6_commit 81 = .ok (.getfield 19, 3) := by decide +kernel
theorem dX6_commit_84 : decode cX6_commit 84 = .ok (.aload_n 0, 1) := by decide +kernel
theorem dX6_commit_85 : decode cX6_commit 85 = .ok (.getfield 33, 3) := by decide +kernel
theorem dX6_commit_88 : decode cX6_commit 88 = .ok (.invokevirtual 181, 3) := by decide +kernel
theorem dX6_commit_91 : decode cX6_commit 91 = .ok (.return_, 1) := by decide +kernel
theorem dX6_areKingsInOrder_0 : decode cX6_areKingsInOrder 0 = .ok (.aload_n 0, 1) := by decide +kernel
theorem dX6_areKingsInOrder_1 : decode cX6_areKingsInOrder 1 = .ok (.getfield 33, 3) := by decide +kernel
theorem dX6_areKingsInOrder_4 : decode cX6_areKingsInOrder 4 = .ok (.getfield 95, 3) := by decide +kernel
theorem dX6_areKingsInOrder_7 : decode cX6_areKingsInOrder 7 = .ok (.astore_n 1, 1) := by decide +kernel
theorem dX6_areKingsInOrder_8 : decode cX6_areKingsInOrder 8 = .ok (.aload_n 1, 1) := by decide +kernel
theorem dX6_areKingsInOrder_9 : decode cX6_areKingsInOrder 9 = .ok (.iconst 1, 1) := by decide +kernel
theorem dX6_areKingsInOrder_10 : decode cX6_areKingsInOrder 10 = .ok (.invokevirtual 368, 3) := by decide +kernel
theorem dX6_areKingsInOrder_13 : decode cX6_areKingsInOrder 13 = .ok (.iconst 1, 1) := by decide +kernel
theorem dX6_areKingsInOrder_14 : decode cX6_areKingsInOrder 14 = .ok (.if_icmp .ne 13, 3) := by decide +kernel
theorem dX6_areKingsInOrder_17 : decode cX6_areKingsInOrder 17 = .ok (.aload_n 1, 1) := by decide +kernel
theorem dX6_areKingsInOrder_18 : decode cX6_areKingsInOrder 18 = .ok (.bipush 9, 2) := by decide +kernel
theorem dX6_areKingsInOrder_20 : decode cX6_areKingsInOrder 20 = .ok (.invokevirtual 368, 3) := by decide +kernel
theorem dX6_areKingsInOrder_23 : decode cX6_areKingsInOrder 23 = .ok (.iconst 1, 1) := by decide +kernel
theorem dX6_areKingsInOrder_24 : decode cX6_areKingsInOrder 24 = .ok (.if_icmp .eq 5, 3) := by decide +kernel
theorem dX6_areKingsInOrder_27 : decode cX6_areKingsInOrder 27 = .ok (.iconst 0, 1) := by decide +kernel
theorem dX6_areKingsInOrder_28 : decode cX6_areKingsInOrder 28 = .ok (.ireturn, 1) := by decide +kernel
theorem dX6_areKingsInOrder_29 : decode cX6_areKingsInOrder 29 = .ok (.aload_n 0, 1) := by decide +kernel
theorem dX6_areKingsInOrder_30 : decode cX6_areKingsInOrder 30 = .ok (.getfield 33, 3) := by decide +kernel
theorem dX6_areKingsInOrder_33 : decode cX6_areKingsInOrder 33 = .ok (.getfield 174, 3) := by decide +kernel
theorem dX6_areKingsInOrder_36 : decode cX6_areKingsInOrder 36 = .ok (.ifCond .ne 5, 3) := by decide +kernel
theorem dX6_areKingsInOrder_39 : decode cX6_areKingsInOrder 39 = .ok (.iconst 1, 1) := by decide +kernel
theorem dX6_areKingsInOrder_40 : decode cX6_areKingsInOrder 40 = .ok (.ireturn, 1) := by decide +kernel
theorem dX6_areKingsInOrder_41 : decode cX6_areKingsInOrder 41 = .ok (.aload_n 0, 1) := by decide +kernel
theorem dX6_areKingsInOrder_42 : decode cX6_areKingsInOrder 42 = .ok (.getfield 33, 3) := by decide +kernel
theorem dX6_areKingsInOrder_45 : decode cX6_areKingsInOrder 45 = .ok (.aload_n 0, 1) := by decide +kernel
theorem dX6_areKingsInOrder_46 : decode cX6_areKingsInOrder 46 = .ok (.getfield 33, 3) := by decide +kernel
theorem dX6_areKingsInOrder_49 : decode cX6_areKingsInOrder 49 = .ok (.getfield 174, 3) := by decide +kernel
theorem dX6_areKingsInOrder_52 : decode cX6_areKingsInOrder 52 = .ok (.invokevirtual 189, 3) := by decide +kernel
theorem dX6_areKingsInOrder_55 : decode cX6_areKingsInOrder 55 = .ok (.istore_n 2, 1) := by decide +kernel
theorem dX6_areKingsInOrder_56 : decode cX6_areKingsInOrder 56 = .ok (.aload_n 1, 1) := by decide +kernel
theorem dX6_areKingsInOrder_57 : decode cX6_areKingsInOrder 57 = .ok (.aload_n 1, 1) := by decide +kernel
theorem dX6_areKingsInOrder_58 : decode cX6_areKingsInOrder 58 = .ok (.iconst 1, 1) := by decide +kernel
theorem dX6_areKingsInOrder_59 : decode cX6_areKingsInOrder 59 = .ok (.iload_n 2, 1) := by decide +kernel
theorem dX6_areKingsInOrder_60 : decode cX6_areKingsInOrder 60 = .ok (.isub, 1) := by decide +kernel
theorem dX6_areKingsInOrder_61 : decode cX6_areKingsInOrder 61 = .ok (.invokevirtual 371, 3) := by decide +kernel
theorem dX6_areKingsInOrder_64 : decode cX6_areKingsInOrder 64 = .ok (.iload_n 2, 1) := by decide +kernel
theorem dX6_areKingsInOrder_65 : decode cX6_areKingsInOrder 65 = .ok (.invokevirtual 253, 3) := by decide +kernel
theorem dX6_areKingsInOrder_68 : decode cX6_areKingsInOrder 68 = .ok (.ifCond .ne 7, 3) := by decide +kernel
theorem dX6_areKingsInOrder_71 : decode cX6_areKingsInOrder 71 = .ok (.iconst 1, 1) := by decide +kernel
theorem dX6_areKingsInOrder_72 : decode cX6_areKingsInOrder 72 = .ok (.goto 4, 3) := by decide +kernel
theorem dX6_areKingsInOrder_75 : decode cX6_areKingsInOrder 75 = .ok (.iconst 0, 1) := by decide +kernel
theorem dX6_areKingsInOrder_76 : decode cX6_areKingsInOrder 76 = .ok (.ireturn, 1) := by decide +kernel
theorem dJ5_init_a7421_0 : decode cJ5_init_a7421 0 = .ok (.aload_n 0, 1) := by decide +kernel
theorem dJ5_init_a7421_1 : decode cJ5_init_a7421 1 = .ok (.invokespecial 3, 3) := by decide +kernel
theorem dJ5_init_a7421_4 : decode cJ5_init_a7421 4 = .ok (.aload_n 1, 1) := by decide +kernel
theorem dJ5_init_a7421_5 : decode cJ5_init_a7421 5 = .ok (.invokevirtual 32, 3) := by decide +kernel
theorem dJ5_init_a7421_8 : decode cJ5_init_a7421 8 = .ok (.istore_n 2, 1) := by decide +kernel
theorem dJ5_init_a7421_9 : decode cJ5_init_a7421 9 = .ok (.iload_n 2, 1) := by decide +kernel
theorem dJ5_init_a7421_10 : decode cJ5_init_a7421 10 = .ok (.ldc 38, 2) := by decide +kernel
theorem dJ5_init_a7421_12 : decode cJ5_init_a7421 12 = .ok (.if_icmp .ge 10, 3) := by decide +kernel
theorem dJ5_init_a7421_15 : decode cJ5_init_a7421 15 = .ok (.iload_n 2, 1) := by decide +kernel
theorem dJ5_init_a7421_16 : decode cJ5_init_a7421 16 = .ok (.bipush 16, 2) := by decide +kernel
theorem dJ5_init_a7421_18 : decode cJ5_init_a7421 18 = .ok (.iadd, 1) := by decide +kernel
theorem dJ5_init_a7421_19 : decode cJ5_init_a7421 19 = .ok (.goto 5, 3) := by decide +kernel
theorem dJ5_init_a7421_22 : decode cJ5_init_a7421 22 = .ok (.ldc 39, 2) := by decide +kernel
theorem dJ5_init_a7421_24 : decode cJ5_init_a7421 24 = .ok (.istore_n 3, 1) := by decide +kernel
theorem dJ5_init_a7421_25 : decode cJ5_init_a7421 25 = .ok (.aload_n 1, 1) := by decide +kernel
theorem dJ5_init_a7421_26 : decode cJ5_init_a7421 26 = .ok (.invokevirtual 40, 3) := by decide +kernel
theorem dJ5_init_a7421_29 : decode cJ5_init_a7421 29 = .ok (.istore 4, 2) := by decide +kernel
theorem dJ5_init_a7421_31 : decode cJ5_init_a7421 31 = .ok (.aload_n 0, 1) := by decide +kernel
theorem dJ5_init_a7421_32 : decode cJ5_init_a7421 32 = .ok (.iload 4, 2) := by decide +kernel
theorem dJ5_init_a7421_34 : decode cJ5_init_a7421 34 = .ok (.putfield 22, 3) := by decide +kernel
theorem dJ5_init_a7421_37 : decode cJ5_init_a7421 37 = .ok (.aload_n 0, 1) := by decide +kernel
theorem dJ5_init_a7421_38 : decode cJ5_init_a7421 38 = .ok (.iload 4, 2) := by decide +kernel
theorem dJ5_init_a7421_40 : decode cJ5_init_a7421 40 = .ok (.ifCond .ne 9, 3) := by decide +kernel
theorem dJ5_init_a7421_43 : decode cJ5_init_a7421 43 = .ok (.iload_n 3, 1) := by decide +kernel
theorem dJ5_init_a7421_44 : decode cJ5_init_a7421 44 = .ok (.newarray .byte, 2) := by decide +kernel
theorem dJ5_init_a7421_46 : decode cJ5_init_a7421 46 = .ok (.goto 7, 3) := by decide +kernel
theorem dJ5_init_a7421_49 : decode cJ5_init_a7421 49 = .ok (.iload_n 3, 1) := by decide +kernel
theorem dJ5_init_a7421_50 : decode cJ5_init_a7421 50 = .ok (.invokestatic 26, 3) := by decide +kernel
theorem dJ5_init_a7421_53 : decode cJ5_init_a7421 53 = .ok (.putfield 15, 3) := by decide +kernel
theorem dJ5_init_a7421_56 : decode cJ5_init_a7421 56 = .ok (.aload_n 0, 1) := by decide +kernel
theorem dJ5_init_a7421_57 : decode cJ5_init_a7421 57 = .ok (.aload_n 1, 1) := by decide +kernel
theorem dJ5_init_a7421_58 : decode cJ5_init_a7421 58 = .ok (.invokevirtual 43, 3) := by decide +kernel
theorem dJ5_init_a7421_61 : decode cJ5_init_a7421 61 = .ok (.pop, 1) := by decide +kernel
theorem dJ5_init_a7421_62 : decode cJ5_init_a7421 62 = .ok (.return_, 1) := by decide +kernel
theorem dJ5_length_8abf5_0 : decode cJ5_length_8abf5 0 = .ok (.aload_n 0, 1) := by decide +kernel
theorem dJ5_length_8abf5_1 : decode cJ5_length_8abf5 1 = .ok (.getfield 79, 3) := by decide +kernel
theorem dJ5_length_8abf5_4 : decode cJ5_length_8abf5 4 = .ok (.ireturn, 1) := by decide +kernel
theorem dJ5_ensureCapacityInternal_d00df_0 : decode cJ5_ensureCapacityInternal_d00df 0 = .ok (.aload_n 0, 1) := by decide +kernel
theorem dJ5_ensureCapacityInternal_d00df_1 : decode cJ5_ensureCapacityInternal_d00df 1 = .ok (.getfield 15, 3) := by decide +kernel
theorem dJ5_ensureCapacityInternal_d00df_4 : decode cJ5_ensureCapacityInternal_d00df 4 = .ok (.arraylength, 1) := by decide +kernel
theorem dJ5_ensureCapacityInternal_d00df_5 : decode cJ5_ensureCapacityInternal_d00df 5 = .ok (.aload_n 0, 1) := by decide +kernel
theorem dJ5_ensureCapacityInternal_d00df_6 : decode cJ5_ensureCapacityInternal_d00df 6 = .ok (.getfield 22, 3) := by decide +kernel
theorem dJ5_ensureCapacityInternal_d00df_9 : decode cJ5_ensureCapacityInternal_d00df 9 = .ok (.ishr, 1) := by decide +kernel
theorem dJ5_ensureCapacityInternal_d00df_10 : decode cJ5_ensureCapacityInternal_d00df 10 = .ok (.istore_n 2, 1) := by decide +kernel
theorem dJ5_ensureCapacityInternal_d00df_11 : decode cJ5_ensureCapacityInternal_d00df 11 = .ok (.iload_n 1, 1) := by decide +kernel
theorem dJ5_ensureCapacityInternal_d00df_12 : decode cJ5_ensureCapacityInternal_d00df 12 = .ok (.iload_n 2, 1) := by decide +kernel
theorem dJ5_ensureCapacityInternal_d00df_13 : decode cJ5_ensureCapacityInternal_d00df 13 = .ok (.isub, 1) := by decide +kernel
theorem dJ5_ensureCapacityInternal_d00df_14 : decode cJ5_ensureCapacityInternal_d00df 14 = .ok (.ifCond .le 24, 3) := by decide +kernel
theorem dJ5_ensureCapacityInternal_d00df_17 : decode cJ5_ensureCapacityInternal_d00df 17 = .ok (.aload_n 0, 1) := by decide +kernel
theorem dJ5_ensureCapacityInternal_d00df_18 : decode cJ5_ensureCapacityInternal_d00df 18 = .ok (.aload_n 0, 1) := by decide +kernel
theorem dJ5_ensureCapacityInternal_d00df_19 : decode cJ5_ensureCapacityInternal_d00df 19 = .ok (.getfield 15, 3) := by decide +kernel
theorem dJ5_ensureCapacityInternal_d00df_22 : decode cJ5_ensureCapacityInternal_d00df 22 = .ok (.aload_n 0, 1) := by decide +kernel
theorem dJ5_ensureCapacityInternal_d00df_23 : decode cJ5_ensureCapacityInternal_d00df 23 = .ok (.iload_n 1, 1) := by decide +kernel
theorem dJ5_ensureCapacityInternal_d00df_24 : decode cJ5_ensureCapacityInternal_d00df 24 = .ok (.invokevirtual 104, 3) := by decide +kernel
theorem dJ5_ensureCapacityInternal_d00df_27 : decode cJ5_ensureCapacityInternal_d00df 27 = .ok (.aload_n 0, 1) := by decide +kernel
theorem dJ5_ensureCapacityInternal_d00df_28 : decode cJ5_ensureCapacityInternal_d00df 28 = .ok (.getfield 22, 3) := by decide +kernel
theorem dJ5_ensureCapacityInternal_d00df_31 : decode cJ5_ensureCapacityInternal_d00df 31 = .ok (.ishl, 1) := by decide +kernel
theorem dJ5_ensureCapacityInternal_d00df_32 : decode cJ5_ensureCapacityInternal_d00df 32 = .ok (.invokestatic 108, 3) := by decide +kernel
theorem dJ5_ensureCapacityInternal_d00df_35 : decode cJ5_ensureCapacityInternal_d00df 35 = .ok (.putfield 15, 3) := by decide +kernel
theorem dJ5_ensureCapacityInternal_d00df_38 : decode cJ5_ensureCapacityInternal_d00df 38 = .ok (.return_, 1) := by decide +kernel
theorem dJ5_newCapacity_0f7a4_0 : decode cJ5_newCapacity_0f7a4 0 = .ok (.aload_n 0, 1) := by decide +kernel
theorem dJ5_newCapacity_0f7a4_1 : decode cJ5_newCapacity_0f7a4 1 = .ok (.getfield 15, 3) := by decide +kernel
theorem dJ5_newCapacity_0f7a4_4 : decode cJ5_newCapacity_0f7a4 4 = .ok (.arraylength, 1) := by decide +kernel
theorem dJ5_newCapacity_0f7a4_5 : decode cJ5_newCapacity_0f7a4 5 = .ok (.istore_n 2, 1) := by decide +kernel
theorem dJ5_newCapacity_0f7a4_6 : decode cJ5_newCapacity_0f7a4 6 = .ok (.iload_n 1, 1) := by decide +kernel
theorem dJ5_newCapacity_0f7a4_7 : decode cJ5_newCapacity_0f7a4 7 = .ok (.aload_n 0, 1) := by decide +kernel
theorem dJ5_newCapacity_0f7a4_8 : decode cJ5_newCapacity_0f7a4 8 = .ok (.getfield 22, 3) := by decide +kernel
theorem dJ5_newCapacity_0f7a4_11 : decode cJ5_newCapacity_0f7a4 11 = .ok (.ishl, 1) := by decide +kernel
theorem dJ5_newCapacity_0f7a4_12 : decode cJ5_newCapacity_0f7a4 12 = .ok (.istore_n 3, 1) := by decide +kernel
theorem dJ5_newCapacity_0f7a4_13 : decode cJ5_newCapacity_0f7a4 13 = .ok (.iload_n 3, 1) := by decide +kernel
theorem dJ5_newCapacity_0f7a4_14 : decode cJ5_newCapacity_0f7a4 14 = .ok (.iload_n 2, 1) := by decide +kernel
theorem dJ5_newCapacity_0f7a4_15 : decode cJ5_newCapacity_0f7a4 15 = .ok (.isub, 1) := by decide +kernel
theorem dJ5_newCapacity_0f7a4_16 : decode cJ5_newCapacity_0f7a4 16 = .ok (.istore 4, 2) := by decide +kernel
theorem dJ5_newCapacity_0f7a4_18 : decode cJ5_newCapacity_0f7a4 18 = .ok (.iload_n 2, 1) := by decide +kernel
theorem dJ5_newCapacity_0f7a4_19 : decode cJ5_newCapacity_0f7a4 19 = .ok (.iload 4, 2) := by decide +kernel
theorem dJ5_newCapacity_0f7a4_21 : decode cJ5_newCapacity_0f7a4 21 = .ok (.iload_n 2, 1) := by decide +kernel
theorem dJ5_newCapacity_0f7a4_22 : decode cJ5_newCapacity_0f7a4 22 = .ok (.iconst 2, 1) := by decide +kernel
theorem dJ5_newCapacity_0f7a4_23 : decode cJ5_newCapacity_0f7a4 23 = .ok (.aload_n 0, 1) := by decide +kernel
theorem dJ5_newCapacity_0f7a4_24 : decode cJ5_newCapacity_0f7a4 24 = .ok (.getfield 22, 3) := by decide +kernel
theorem dJ5_newCapacity_0f7a4_27 : decode cJ5_newCapacity_0f7a4 27 = .ok (.ishl, 1) := by decide +kernel
theorem dJ5_newCapacity_0f7a4_28 : decode cJ5_newCapacity_0f7a4 28 = .ok (.iadd, 1) := by decide +kernel
theorem dJ5_newCapacity_0f7a4_29 : decode cJ5_newCapacity_0f7a4 29 = .ok (.invokestatic 114, 3) := by decide +kernel
theorem dJ5_newCapacity_0f7a4_32 : decode cJ5_newCapacity_0f7a4 32 = .ok (.istore 5, 2) := by decide +kernel
theorem dJ5_newCapacity_0f7a4_34 : decode cJ5_newCapacity_0f7a4 34 = .ok (.iload 5, 2) := by decide +kernel
theorem dJ5_newCapacity_0f7a4_36 : decode cJ5_newCapacity_0f7a4 36 = .ok (.ldc 39, 2) := by decide +kernel
theorem dJ5_newCapacity_0f7a4_38 : decode cJ5_newCapacity_0f7a4 38 = .ok (.if_icmp .ne 13, 3) := by decide +kernel
theorem dJ5_newCapacity_0f7a4_41 : decode cJ5_newCapacity_0f7a4 41 = .ok (.new 120, 3) := by decide +kernel
theorem dJ5_newCapacity_0f7a4_44 : decode cJ5_newCapacity_0f7a4 44 = .ok (.dup, 1) := by decide +kernel
theorem dJ5_newCapacity_0f7a4_45 : decode cJ5_newCapacity_0f7a4 45 = .ok (.ldc 122, 2) := by decide +kernel
theorem dJ5_newCapacity_0f7a4_47 : decode cJ5_newCapacity_0f7a4 47 = .ok (.invokespecial 124, 3) := by decide +kernel
theorem dJ5_newCapacity_0f7a4_50 : decode cJ5_newCapacity_0f7a4 50 = .ok (.athrow, 1) := by decide +kernel
theorem dJ5_newCapacity_0f7a4_51 : decode cJ5_newCapacity_0f7a4 51 = .ok (.iload 5, 2) := by decide +kernel
theorem dJ5_newCapacity_0f7a4_53 : decode cJ5_newCapacity_0f7a4 53 = .ok (.aload_n 0, 1) := by decide +kernel
theorem dJ5_newCapacity_0f7a4_54 : decode cJ5_newCapacity_0f7a4 54 = .ok (.getfield 22, 3) := by decide +kernel
theorem dJ5_newCapacity_0f7a4_57 : decode cJ5_newCapacity_0f7a4 57 = .ok (.ishr, 1) := by decide +kernel
theorem dJ5_newCapacity_0f7a4_58 : decode cJ5_newCapacity_0f7a4 58 = .ok (.ireturn, 1) := by decide +kernel
theorem dJ5_append_cf1ce_0 : decode cJ5_append_cf1ce 0 = .ok (.aload_n 1, 1) := by decide +kernel
theorem dJ5_append_cf1ce_1 : decode cJ5_append_cf1ce 1 = .ok (.ifnonnull 8, 3) := by decide +kernel
theorem dJ5_append_cf1ce_4 : decode cJ5_append_cf1ce 4 = .ok (.aload_n 0, 1) := by decide +kernel
theorem dJ5_append_cf1ce_5 : decode cJ5_append_cf1ce 5 = .ok (.invokevirtual 204, 3) := by decide +kernel
theorem dJ5_append_cf1ce_8 : decode cJ5_append_cf1ce 8 = .ok (.areturn, 1) := by decide +kernel
theorem dJ5_append_cf1ce_9 : decode cJ5_append_cf1ce 9 = .ok (.aload_n 1, 1) := by decide +kernel
theorem dJ5_append_cf1ce_10 : decode cJ5_append_cf1ce 10 = .ok (.invokevirtual 32, 3) := by decide +kernel
theorem dJ5_append_cf1ce_13 : decode cJ5_append_cf1ce 13 = .ok (.istore_n 2, 1) := by decide +kernel
theorem dJ5_append_cf1ce_14 : decode cJ5_append_cf1ce 14 = .ok (.aload_n 0, 1) := by decide +kernel
theorem dJ5_append_cf1ce_15 : decode cJ5_append_cf1ce 15 = .ok (.aload_n 0, 1) := by decide +kernel
theorem dJ5_append_cf1ce_16 : decode cJ5_append_cf1ce 16 = .ok (.getfield 79, 3) := by decide +kernel
theorem dJ5_append_cf1ce_19 : decode cJ5_append_cf1ce 19 = .ok (.iload_n 2, 1) := by decide +kernel
theorem dJ5_append_cf1ce_20 : decode cJ5_append_cf1ce 20 = .ok (.iadd, 1) := by decide +kernel
theorem dJ5_append_cf1ce_21 : decode cJ5_append_cf1ce 21 = .ok (.invokevirtual 100, 3) := by decide +kernel
theorem dJ5_append_cf1ce_24 : decode cJ5_append_cf1ce 24 = .ok (.aload_n 0, 1) := by decide +kernel
theorem dJ5_append_cf1ce_25 : decode cJ5_append_cf1ce 25 = .ok (.aload_n 0, 1) := by decide +kernel
theorem dJ5_append_cf1ce_26 : decode cJ5_append_cf1ce 26 = .ok (.getfield 79, 3) := by decide +kernel
theorem dJ5_append_cf1ce_29 : decode cJ5_append_cf1ce 29 = .ok (.aload_n 1, 1) := by decide +kernel
theorem dJ5_append_cf1ce_30 : decode cJ5_append_cf1ce 30 = .ok (.invokevirtual 208, 3) := by decide +kernel
theorem dJ5_append_cf1ce_33 : decode cJ5_append_cf1ce 33 = .ok (.aload_n 0, 1) := by decide +kernel
theorem dJ5_append_cf1ce_34 : decode cJ5_append_cf1ce 34 = .ok (.dup, 1) := by decide +kernel
theorem dJ5_append_cf1ce_35 : decode cJ5_append_cf1ce 35 = .ok (.getfield 79, 3) := by decide +kernel
theorem dJ5_append_cf1ce_38 : decode cJ5_append_cf1ce 38 = .ok (.iload_n 2, 1) := by decide +kernel
theorem dJ5_append_cf1ce_39 : decode cJ5_append_cf1ce 39 = .ok (.iadd, 1) := by decide +kernel
theorem dJ5_append_cf1ce_40 : decode cJ5_append_cf1ce 40 = .ok (.putfield 79, 3) := by decide +kernel
theorem dJ5_append_cf1ce_43 : decode cJ5_append_cf1ce 43 = .ok (.aload_n 0, 1) := by decide +kernel
theorem dJ5_append_cf1ce_44 : decode cJ5_append_cf1ce 44 = .ok (.areturn, 1) := by decide +kernel
theorem dJ5_append_3fe6f_0 : decode cJ5_append_3fe6f 0 = .ok (.aload_n 0, 1) := by decide +kernel
theorem dJ5_append_3fe6f_1 : decode cJ5_append_3fe6f 1 = .ok (.aload_n 0, 1) := by decide +kernel
theorem dJ5_append_3fe6f_2 : decode cJ5_append_3fe6f 2 = .ok (.getfield 79, 3) := by decide +kernel
theorem dJ5_append_3fe6f_5 : decode cJ5_append_3fe6f 5 = .ok (.iconst 1, 1) := by decide +kernel
theorem dJ5_append_3fe6f_6 : decode cJ5_append_3fe6f 6 = .ok (.iadd, 1) := by decide +kernel
theorem dJ5_append_3fe6f_7 : decode cJ5_append_3fe6f 7 = .ok (.invokevirtual 100, 3) := by decide +kernel
theorem dJ5_append_3fe6f_10 : decode cJ5_append_3fe6f 10 = .ok (.aload_n 0, 1) := by decide +kernel
theorem dJ5_append_3fe6f_11 : decode cJ5_append_3fe6f 11 = .ok (.invokevirtual 83, 3) := by decide +kernel
theorem dJ5_append_3fe6f_14 : decode cJ5_append_3fe6f 14 = .ok (.ifCond .eq 31, 3) := by decide +kernel
theorem dJ5_append_3fe6f_17 : decode cJ5_append_3fe6f 17 = .ok (.iload_n 1, 1) := by decide +kernel
theorem dJ5_append_3fe6f_18 : decode cJ5_append_3fe6f 18 = .ok (.invokestatic 191, 3) := by decide +kernel
theorem dJ5_append_3fe6f_21 : decode cJ5_append_3fe6f 21 = .ok (.ifCond .eq 24, 3) := by decide +kernel
theorem dJ5_append_3fe6f_24 : decode cJ5_append_3fe6f 24 = .ok (.aload_n 0, 1) := by decide +kernel
theorem dJ5_append_3fe6f_25 : decode cJ5_append_3fe6f 25 = .ok (.getfield 15, 3) := by decide +kernel
theorem dJ5_append_3fe6f_28 : decode cJ5_append_3fe6f 28 = .ok (.aload_n 0, 1) := by decide +kernel
theorem dJ5_append_3fe6f_29 : decode cJ5_append_3fe6f 29 = .ok (.dup, 1) := by decide +kernel
theorem dJ5_append_3fe6f_30 : decode cJ5_append_3fe6f 30 = .ok (.getfield 79, 3) := by decide +kernel
theorem dJ5_append_3fe6f_33 : decode cJ5_append_3fe6f 33 = .ok (.dup_x1, 1) := by decide +kernel
theorem dJ5_append_3fe6f_34 : decode cJ5_append_3fe6f 34 = .ok (.iconst 1, 1) := by decide +kernel
theorem dJ5_append_3fe6f_35 : decode cJ5_append_3fe6f 35 = .ok (.iadd, 1) := by decide +kernel
theorem dJ5_append_3fe6f_36 : decode cJ5_append_3fe6f 36 = .ok (.putfield 79, 3) := by decide +kernel
theorem dJ5_append_3fe6f_39 : decode cJ5_append_3fe6f 39 = .ok (.iload_n 1, 1) := by decide +kernel
theorem dJ5_append_3fe6f_40 : decode cJ5_append_3fe6f 40 = .ok (.i2b, 1) := by decide +kernel
theorem dJ5_append_3fe6f_41 : decode cJ5_append_3fe6f 41 = .ok (.bastore, 1) := by decide +kernel
theorem dJ5_append_3fe6f_42 : decode cJ5_append_3fe6f 42 = .ok (.goto 33, 3) := by decide +kernel
theorem dJ5_append_3fe6f_45 : decode cJ5_append_3fe6f 45 = .ok (.aload_n 0, 1) := by decide +kernel
theorem dJ5_append_3fe6f_46 : decode cJ5_append_3fe6f 46 = .ok (.invokevirtual 83, 3) := by decide +kernel
theorem dJ5_append_3fe6f_49 : decode cJ5_append_3fe6f 49 = .ok (.ifCond .eq 7, 3) := by decide +kernel
theorem dJ5_append_3fe6f_52 : decode cJ5_append_3fe6f 52 = .ok (.aload_n 0, 1) := by decide +kernel
theorem dJ5_append_3fe6f_53 : decode cJ5_append_3fe6f 53 = .ok (.invokevirtual 195, 3) := by decide +kernel
theorem dJ5_append_3fe6f_56 : decode cJ5_append_3fe6f 56 = .ok (.aload_n 0, 1) := by decide +kernel
theorem dJ5_append_3fe6f_57 : decode cJ5_append_3fe6f 57 = .ok (.getfield 15, 3) := by decide +kernel
theorem dJ5_append_3fe6f_60 : decode cJ5_append_3fe6f 60 = .ok (.aload_n 0, 1) := by decide +kernel
theorem dJ5_append_3fe6f_61 : decode cJ5_append_3fe6f 61 = .ok (.dup, 1) := by decide +kernel
theorem dJ5_append_3fe6f_62 : decode cJ5_append_3fe6f 62 = .ok (.getfield 79, 3) := by decide +kernel
theorem dJ5_append_3fe6f_65 : decode cJ5_append_3fe6f 65 = .ok (.dup_x1, 1) := by decide +kernel
theorem dJ5_append_3fe6f_66 : decode cJ5_append_3fe6f 66 = .ok (.iconst 1, 1) := by decide +kernel
theorem dJ5_append_3fe6f_67 : decode cJ5_append_3fe6f 67 = .ok (.iadd, 1) := by decide +kernel
theorem dJ5_append_3fe6f_68 : decode cJ5_append_3fe6f 68 = .ok (.putfield 79, 3) := by decide +kernel
theorem dJ5_append_3fe6f_71 : decode cJ5_append_3fe6f 71 = .ok (.iload_n 1, 1) := by decide +kernel
theorem dJ5_append_3fe6f_72 : decode cJ5_append_3fe6f 72 = .ok (.invokestatic 197, 3) := by decide +kernel
theorem dJ5_append_3fe6f_75 : decode cJ5_append_3fe6f 75 = .ok (.aload_n 0, 1) := by decide +kernel
theorem dJ5_append_3fe6f_76 : decode cJ5_append_3fe6f 76 = .ok (.areturn, 1) := by decide +kernel
theorem dJ5_append_c97b9_0 : decode cJ5_append_c97b9 0 = .ok (.aload_n 0, 1) := by decide +kernel
theorem dJ5_append_c97b9_1 : decode cJ5_append_c97b9 1 = .ok (.getfield 79, 3) := by decide +kernel
theorem dJ5_append_c97b9_4 : decode cJ5_append_c97b9 4 = .ok (.istore_n 2, 1) := by decide +kernel
theorem dJ5_append_c97b9_5 : decode cJ5_append_c97b9 5 = .ok (.iload_n 2, 1) := by decide +kernel
theorem dJ5_append_c97b9_6 : decode cJ5_append_c97b9 6 = .ok (.iload_n 1, 1) := by decide +kernel
theorem dJ5_append_c97b9_7 : decode cJ5_append_c97b9 7 = .ok (.invokestatic 245, 3) := by decide +kernel
theorem dJ5_append_c97b9_10 : decode cJ5_append_c97b9 10 = .ok (.iadd, 1) := by decide +kernel
theorem dJ5_append_c97b9_11 : decode cJ5_append_c97b9 11 = .ok (.istore_n 3, 1) := by decide +kernel
theorem dJ5_append_c97b9_12 : decode cJ5_append_c97b9 12 = .ok (.aload_n 0, 1) := by decide +kernel
theorem dJ5_append_c97b9_13 : decode cJ5_append_c97b9 13 = .ok (.iload_n 3, 1) := by decide +kernel
theorem dJ5_append_c97b9_14 : decode cJ5_append_c97b9 14 = .ok (.invokevirtual 100, 3) := by decide +kernel
theorem dJ5_append_c97b9_17 : decode cJ5_append_c97b9 17 = .ok (.aload_n 0, 1) := by decide +kernel
theorem dJ5_append_c97b9_18 : decode cJ5_append_c97b9 18 = .ok (.invokevirtual 83, 3) := by decide +kernel
theorem dJ5_append_c97b9_21 : decode cJ5_append_c97b9 21 = .ok (.ifCond .eq 16, 3) := by decide +kernel
theorem dJ5_append_c97b9_24 : decode cJ5_append_c97b9 24 = .ok (.iload_n 1, 1) := by decide +kernel
theorem dJ5_append_c97b9_25 : decode cJ5_append_c97b9 25 = .ok (.iload_n 3, 1) := by decide +kernel
theorem dJ5_append_c97b9_26 : decode cJ5_append_c97b9 26 = .ok (.aload_n 0, 1) := by decide +kernel
theorem dJ5_append_c97b9_27 : decode cJ5_append_c97b9 27 = .ok (.getfield 15, 3) := by decide +kernel
theorem dJ5_append_c97b9_30 : decode cJ5_append_c97b9 30 = .ok (.invokestatic 248, 3) := by decide +kernel
theorem dJ5_append_c97b9_33 : decode cJ5_append_c97b9 33 = .ok (.pop, 1) := by decide +kernel
theorem dJ5_append_c97b9_34 : decode cJ5_append_c97b9 34 = .ok (.goto 14, 3) := by decide +kernel
theorem dJ5_append_c97b9_37 : decode cJ5_append_c97b9 37 = .ok (.iload_n 1, 1) := by decide +kernel
theorem dJ5_append_c97b9_38 : decode cJ5_append_c97b9 38 = .ok (.iload_n 2, 1) := by decide +kernel
theorem dJ5_append_c97b9_39 : decode cJ5_append_c97b9 39 = .ok (.iload_n 3, 1) := by decide +kernel
theorem dJ5_append_c97b9_40 : decode cJ5_append_c97b9 40 = .ok (.aload_n 0, 1) := by decide +kernel
theorem dJ5_append_c97b9_41 : decode cJ5_append_c97b9 41 = .ok (.getfield 15, 3) := by decide +kernel
theorem dJ5_append_c97b9_44 : decode cJ5_append_c97b9 44 = .ok (.invokestatic 251, 3) := by decide +kernel
theorem dJ5_append_c97b9_47 : decode cJ5_append_c97b9 47 = .ok (.pop, 1) := by decide +kernel
theorem dJ5_append_c97b9_48 : decode cJ5_append_c97b9 48 = .ok (.aload_n 0, 1) := by decide +kernel
theorem dJ5_append_c97b9_49 : decode cJ5_append_c97b9 49 = .ok (.iload_n 3, 1) := by decide +kernel
theorem dJ5_append_c97b9_50 : decode cJ5_append_c97b9 50 = .ok (.putfield 79, 3) := by decide +kernel
theorem dJ5_append_c97b9_53 : decode cJ5_append_c97b9 53 = .ok (.aload_n 0, 1) := by decide +kernel
theorem dJ5_append_c97b9_54 : decode cJ5_append_c97b9 54 = .ok (.areturn, 1) := by decide +kernel
theorem dJ5_getValue_6d5f1_0 : decode cJ5_getValue_6d5f1 0 = .ok (.aload_n 0, 1) := by decide +kernel
theorem dJ5_getValue_6d5f1_1 : decode cJ5_getValue_6d5f1 1 = .ok (.getfield 15, 3) := by decide +kernel
theorem dJ5_getValue_6d5f1_4 : decode cJ5_getValue_6d5f1 4 = .ok (.areturn, 1) := by decide +kernel
theorem dJ5_isLatin1_aae02_0 : decode cJ5_isLatin1_aae02 0 = .ok (.getstatic 18, 3) := by decide +kernel
theorem dJ5_isLatin1_aae02_3 : decode cJ5_isLatin1_aae02 3 = .ok (.ifCond .eq 14, 3) := by decide +kernel
theorem dJ5_isLatin1_aae02_6 : decode cJ5_isLatin1_aae02 6 = .ok (.aload_n 0, 1) := by decide +kernel
theorem dJ5_isLatin1_aae02_7 : decode cJ5_isLatin1_aae02 7 = .ok (.getfield 22, 3) := by decide +kernel
theorem dJ5_isLatin1_aae02_10 : decode cJ5_isLatin1_aae02 10 = .ok (.ifCond .ne 7, 3) := by decide +kernel
theorem dJ5_isLatin1_aae02_13 : decode cJ5_isLatin1_aae02 13 = .ok (.iconst 1, 1) := by decide +kernel
theorem dJ5_isLatin1_aae02_14 : decode cJ5_isLatin1_aae02 14 = .ok (.goto 4, 3) := by decide +kernel
theorem dJ5_isLatin1_aae02_17 : decode cJ5_isLatin1_aae02 17 = .ok (.iconst 0, 1) := by decide +kernel
theorem dJ5_isLatin1_aae02_18 : decode cJ5_isLatin1_aae02 18 = .ok (.ireturn, 1) := by decide +kernel
theorem dJ5_inflateIfNeededFor_a7421_0 : decode cJ5_inflateIfNeededFor_a7421 0 = .ok (.getstatic 18, 3) := by decide +kernel
theorem dJ5_inflateIfNeededFor_a7421_3 : decode cJ5_inflateIfNeededFor_a7421 3 = .ok (.ifCond .eq 18, 3) := by decide +kernel
theorem dJ5_inflateIfNeededFor_a7421_6 : decode cJ5_inflateIfNeededFor_a7421 6 = .ok (.aload_n 0, 1) := by decide +kernel
theorem dJ5_inflateIfNeededFor_a7421_7 : decode cJ5_inflateIfNeededFor_a7421 7 = .ok (.getfield 22, 3) := by decide +kernel
theorem dJ5_inflateIfNeededFor_a7421_10 : decode cJ5_inflateIfNeededFor_a7421 10 = .ok (.aload_n 1, 1) := by decide +kernel
theorem dJ5_inflateIfNeededFor_a7421_11 : decode cJ5_inflateIfNeededFor_a7421 11 = .ok (.invokevirtual 40, 3) := by decide +kernel
theorem dJ5_inflateIfNeededFor_a7421_14 : decode cJ5_inflateIfNeededFor_a7421 14 = .ok (.if_icmp .eq 7, 3) := by decide +kernel
theorem dJ5_inflateIfNeededFor_a7421_17 : decode cJ5_inflateIfNeededFor_a7421 17 = .ok (.aload_n 0, 1) := by decide +kernel
theorem dJ5_inflateIfNeededFor_a7421_18 : decode cJ5_inflateIfNeededFor_a7421 18 = .ok (.invokevirtual 195, 3) := by decide +kernel
theorem dJ5_inflateIfNeededFor_a7421_21 : decode cJ5_inflateIfNeededFor_a7421 21 = .ok (.return_, 1) := by decide +kernel
theorem dJ5_putStringAt_47b60_0 : decode cJ5_putStringAt_47b60 0 = .ok (.aload_n 0, 1) := by decide +kernel
theorem dJ5_putStringAt_47b60_1 : decode cJ5_putStringAt_47b60 1 = .ok (.aload_n 2, 1) := by decide +kernel
theorem dJ5_putStringAt_47b60_2 : decode cJ5_putStringAt_47b60 2 = .ok (.invokevirtual 397, 3) := by decide +kernel
theorem dJ5_putStringAt_47b60_5 : decode cJ5_putStringAt_47b60 5 = .ok (.aload_n 2, 1) := by decide +kernel
theorem dJ5_putStringAt_47b60_6 : decode cJ5_putStringAt_47b60 6 = .ok (.aload_n 0, 1) := by decide +kernel
theorem dJ5_putStringAt_47b60_7 : decode cJ5_putStringAt_47b60 7 = .ok (.getfield 15, 3) := by decide +kernel
theorem dJ5_putStringAt_47b60_10 : decode cJ5_putStringAt_47b60 10 = .ok (.iload_n 1, 1) := by decide +kernel
theorem dJ5_putStringAt_47b60_11 : decode cJ5_putStringAt_47b60 11 = .ok (.aload_n 0, 1) := by decide +kernel
theorem dJ5_putStringAt_47b60_12 : decode cJ5_putStringAt_47b60 12 = .ok (.getfield 22, 3) := by decide +kernel
theorem dJ5_putStringAt_47b60_15 : decode cJ5_putStringAt_47b60 15 = .ok (.invokevirtual 399, 3) := by decide +kernel
theorem dJ5_putStringAt_47b60_18 : decode cJ5_putStringAt_47b60 18 = .ok (.return_, 1) := by decide +kernel
theorem dJ6_getChars_ba4f3_0 : decode cJ6_getChars_ba4f3 0 = .ok (.iload_n 1, 1) := by decide +kernel
theorem dJ6_getChars_ba4f3_1 : decode cJ6_getChars_ba4f3 1 = .ok (.istore 5, 2) := by decide +kernel
theorem dJ6_getChars_ba4f3_3 : decode cJ6_getChars_ba4f3 3 = .ok (.iload_n 0, 1) := by decide +kernel
theorem dJ6_getChars_ba4f3_4 : decode cJ6_getChars_ba4f3 4 = .ok (.ifCond .ge 7, 3) := by decide +kernel
theorem dJ6_getChars_ba4f3_7 : decode cJ6_getChars_ba4f3 7 = .ok (.iconst 1, 1) := by decide +kernel
theorem dJ6_getChars_ba4f3_8 : decode cJ6_getChars_ba4f3 8 = .ok (.goto 4, 3) := by decide +kernel
theorem dJ6_getChars_ba4f3_11 : decode cJ6_getChars_ba4f3 11 = .ok (.iconst 0, 1) := by decide +kernel
theorem dJ6_getChars_ba4f3_12 : decode cJ6_getChars_ba4f3 12 = .ok (.istore 6, 2) := by decide +kernel
theorem dJ6_getChars_ba4f3_14 : decode cJ6_getChars_ba4f3 14 = .ok (.iload 6, 2) := by decide +kernel
theorem dJ6_getChars_ba4f3_16 : decode cJ6_getChars_ba4f3 16 = .ok (.ifCond .ne 6, 3) := by decide +kernel
theorem dJ6_getChars_ba4f3_19 : decode cJ6_getChars_ba4f3 19 = .ok (.iload_n 0, 1) := by decide +kernel
theorem dJ6_getChars_ba4f3_20 : decode cJ6_getChars_ba4f3 20 = .ok (.ineg, 1) := by decide +kernel
theorem dJ6_getChars_ba4f3_21 : decode cJ6_getChars_ba4f3 21 = .ok (.istore_n 0, 1) := by decide +kernel
theorem dJ6_getChars_ba4f3_22 : decode cJ6_getChars_ba4f3 22 = .ok (.iload_n 0, 1) := by decide +kernel
theorem dJ6_getChars_ba4f3_23 : decode cJ6_getChars_ba4f3 23 = .ok (.bipush (-100), 2) := by decide +kernel
theorem dJ6_getChars_ba4f3_25 : decode cJ6_getChars_ba4f3 25 = .ok (.if_icmp .gt 47, 3) := by decide +kernel
theorem dJ6_getChars_ba4f3_28 : decode cJ6_getChars_ba4f3 28 = .ok (.iload_n 0, 1) := by decide +kernel
theorem dJ6_getChars_ba4f3_29 : decode cJ6_getChars_ba4f3 29 = .ok (.bipush 100, 2) := by decide +kernel
theorem dJ6_getChars_ba4f3_31 : decode cJ6_getChars_ba4f3 31 = .ok (.idiv, 1) := by decide +kernel
theorem dJ6_getChars_ba4f3_32 : decode cJ6_getChars_ba4f3 32 = .ok (.istore_n 3, 1) := by decide +kernel
theorem dJ6_getChars_ba4f3_33 : decode cJ6_getChars_ba4f3 33 = .ok (.iload_n 3, 1) := by decide +kernel
theorem dJ6_getChars_ba4f3_34 : decode cJ6_getChars_ba4f3 34 = .ok (.bipush 100, 2) := by decide +kernel
theorem dJ6_getChars_ba4f3_36 : decode cJ6_getChars_ba4f3 36 = .ok (.imul, 1) := by decide +kernel
theorem dJ6_getChars_ba4f3_37 : decode cJ6_getChars_ba4f3 37 = .ok (.iload_n 0, 1) := by decide +kernel
theorem dJ6_getChars_ba4f3_38 : decode cJ6_getChars_ba4f3 38 = .ok (.isub, 1) := by decide +kernel
theorem dJ6_getChars_ba4f3_39 : decode cJ6_getChars_ba4f3 39 = .ok (.istore 4, 2) := by decide +kernel
theorem dJ6_getChars_ba4f3_41 : decode cJ6_getChars_ba4f3 41 = .ok (.iload_n 3, 1) := by decide +kernel
theorem dJ6_getChars_ba4f3_42 : decode cJ6_getChars_ba4f3 42 = .ok (.istore_n 0, 1) := by decide +kernel
theorem dJ6_getChars_ba4f3_43 : decode cJ6_getChars_ba4f3 43 = .ok (.aload_n 2, 1) := by decide +kernel
theorem dJ6_getChars_ba4f3_44 : decode cJ6_getChars_ba4f3 44 = .ok (.iinc 5 (-1), 3) := by decide +kernel
theorem dJ6_getChars_ba4f3_47 : decode cJ6_getChars_ba4f3 47 = .ok (.iload 5, 2) := by decide +kernel
theorem dJ6_getChars_ba4f3_49 : decode cJ6_getChars_ba4f3 49 = .ok (.getstatic 83, 3) := by decide +kernel
theorem dJ6_getChars_ba4f3_52 : decode cJ6_getChars_ba4f3 52 = .ok (.iload 4, 2) := by decide +kernel
theorem dJ6_getChars_ba4f3_54 : decode cJ6_getChars_ba4f3 54 = .ok (.baload, 1) := by decide +kernel
theorem dJ6_getChars_ba4f3_55 : decode cJ6_getChars_ba4f3 55 = .ok (.bastore, 1) := by decide +kernel
theorem dJ6_getChars_ba4f3_56 : decode cJ6_getChars_ba4f3 56 = .ok (.aload_n 2, 1) := by decide +kernel
theorem dJ6_getChars_ba4f3_57 : decode cJ6_getChars_ba4f3 57 = .ok (.iinc 5 (-1), 3) := by decide +kernel
theorem dJ6_getChars_ba4f3_60 : decode cJ6_getChars_ba4f3 60 = .ok (.iload 5, 2) := by decide +kernel
theorem dJ6_getChars_ba4f3_62 : decode cJ6_getChars_ba4f3 62 = .ok (.getstatic 87, 3) := by decide +kernel
theorem dJ6_getChars_ba4f3_65 : decode cJ6_getChars_ba4f3 65 = .ok (.iload 4, 2) := by decide +kernel
theorem dJ6_getChars_ba4f3_67 : decode cJ6_getChars_ba4f3 67 = .ok (.baload, 1) := by decide +kernel
theorem dJ6_getChars_ba4f3_68 : decode cJ6_getChars_ba4f3 68 = .ok (.bastore, 1) := by decide +kernel
theorem dJ6_getChars_ba4f3_69 : decode cJ6_getChars_ba4f3 69 = .ok (.goto (-47), 3) := by decide +kernel
theorem dJ6_getChars_ba4f3_72 : decode cJ6_getChars_ba4f3 72 = .ok (.aload_n 2, 1) := by decide +kernel
theorem dJ6_getChars_ba4f3_73 : decode cJ6_getChars_ba4f3 73 = .ok (.iinc 5 (-1), 3) := by decide +kernel
theorem dJ6_getChars_ba4f3_76 : decode cJ6_getChars_ba4f3 76 = .ok (.iload 5, 2) := by decide +kernel
theorem dJ6_getChars_ba4f3_78 : decode cJ6_getChars_ba4f3 78 = .ok (.getstatic 83, 3) := by decide +kernel
theorem dJ6_getChars_ba4f3_81 : decode cJ6_getChars_ba4f3 81 = .ok (.iload_n 0, 1) := by decide +kernel
theorem dJ6_getChars_ba4f3_82 : decode cJ6_getChars_ba4f3 82 = .ok (.ineg, 1) := by decide +kernel
theorem dJ6_getChars_ba4f3_83 : decode cJ6_getChars_ba4f3 83 = .ok (.baload, 1) := by decide +kernel
theorem dJ6_getChars_ba4f3_84 : decode cJ6_getChars_ba4f3 84 = .ok (.bastore, 1) := by decide +kernel
theorem dJ6_getChars_ba4f3_85 : decode cJ6_getChars_ba4f3 85 = .ok (.iload_n 0, 1) := by decide +kernel
theorem dJ6_getChars_ba4f3_86 : decode cJ6_getChars_ba4f3 86 = .ok (.bipush (-9), 2) := by decide +kernel
theorem dJ6_getChars_ba4f3_88 : decode cJ6_getChars_ba4f3 88 = .ok (.if_icmp .ge 16, 3) := by decide +kernel
theorem dJ6_getChars_ba4f3_91 : decode cJ6_getChars_ba4f3 91 = .ok (.aload_n 2, 1) := by decide +kernel
theorem dJ6_getChars_ba4f3_92 : decode cJ6_getChars_ba4f3 92 = .ok (.iinc 5 (-1), 3) := by decide +kernel
theorem dJ6_getChars_ba4f3_95 : decode cJ6_getChars_ba4f3 95 = .ok (.iload 5, 2) := by decide +kernel
theorem dJ6_getChars_ba4f3_97 : decode cJ6_getChars_ba4f3 97 = .ok (.getstatic 87, 3) := by decide +kernel
theorem dJ6_getChars_ba4f3_100 : decode cJ6_getChars_ba4f3 100 = .ok (.iload_n 0, 1) := by decide +kernel
theorem dJ6_getChars_ba4f3_101 : decode cJ6_getChars_ba4f3 101 = .ok (.ineg, 1) := by decide +kernel
theorem dJ6_getChars_ba4f3_102 : decode cJ6_getChars_ba4f3 102 = .ok (.baload, 1) := by decide +kernel
theorem dJ6_getChars_ba4f3_103 : decode cJ6_getChars_ba4f3 103 = .ok (.bastore, 1) := by decide +kernel
theorem dJ6_getChars_ba4f3_104 : decode cJ6_getChars_ba4f3 104 = .ok (.iload 6, 2) := by decide +kernel
theorem dJ6_getChars_ba4f3_106 : decode cJ6_getChars_ba4f3 106 = .ok (.ifCond .eq 12, 3) := by decide +kernel
theorem dJ6_getChars_ba4f3_109 : decode cJ6_getChars_ba4f3 109 = .ok (.aload_n 2, 1) := by decide +kernel
theorem dJ6_getChars_ba4f3_110 : decode cJ6_getChars_ba4f3 110 = .ok (.iinc 5 (-1), 3) := by decide +kernel
theorem dJ6_getChars_ba4f3_113 : decode cJ6_getChars_ba4f3 113 = .ok (.iload 5, 2) := by decide +kernel
theorem dJ6_getChars_ba4f3_115 : decode cJ6_getChars_ba4f3 115 = .ok (.bipush 45, 2) := by decide +kernel
theorem dJ6_getChars_ba4f3_117 : decode cJ6_getChars_ba4f3 117 = .ok (.bastore, 1) := by decide +kernel
theorem dJ6_getChars_ba4f3_118 : decode cJ6_getChars_ba4f3 118 = .ok (.iload 5, 2) := by decide +kernel
theorem dJ6_getChars_ba4f3_120 : decode cJ6_getChars_ba4f3 120 = .ok (.ireturn, 1) := by decide +kernel
theorem dJ6_stringSize_0f7a4_0 : decode cJ6_stringSize_0f7a4 0 = .ok (.iconst 1, 1) := by decide +kernel
theorem dJ6_stringSize_0f7a4_1 : decode cJ6_stringSize_0f7a4 1 = .ok (.istore_n 1, 1) := by decide +kernel
theorem dJ6_stringSize_0f7a4_2 : decode cJ6_stringSize_0f7a4 2 = .ok (.iload_n 0, 1) := by decide +kernel
theorem dJ6_stringSize_0f7a4_3 : decode cJ6_stringSize_0f7a4 3 = .ok (.ifCond .lt 8, 3) := by decide +kernel
theorem dJ6_stringSize_0f7a4_6 : decode cJ6_stringSize_0f7a4 6 = .ok (.iconst 0, 1) := by decide +kernel
theorem dJ6_stringSize_0f7a4_7 : decode cJ6_stringSize_0f7a4 7 = .ok (.istore_n 1, 1) := by decide +kernel
theorem dJ6_stringSize_0f7a4_8 : decode cJ6_stringSize_0f7a4 8 = .ok (.iload_n 0, 1) := by decide +kernel
theorem dJ6_stringSize_0f7a4_9 : decode cJ6_stringSize_0f7a4 9 = .ok (.ineg, 1) := by decide +kernel
theorem dJ6_stringSize_0f7a4_10 : decode cJ6_stringSize_0f7a4 10 = .ok (.istore_n 0, 1) := by decide +kernel
theorem dJ6_stringSize_0f7a4_11 : decode cJ6_stringSize_0f7a4 11 = .ok (.bipush (-10), 2) := by decide +kernel
theorem dJ6_stringSize_0f7a4_13 : decode cJ6_stringSize_0f7a4 13 = .ok (.istore_n 2, 1) := by decide +kernel
theorem dJ6_stringSize_0f7a4_14 : decode cJ6_stringSize_0f7a4 14 = .ok (.iconst 1, 1) := by decide +kernel
theorem dJ6_stringSize_0f7a4_15 : decode cJ6_stringSize_0f7a4 15 = .ok (.istore_n 3, 1) := by decide +kernel
theorem dJ6_stringSize_0f7a4_16 : decode cJ6_stringSize_0f7a4 16 = .ok (.iload_n 3, 1) := by decide +kernel
theorem dJ6_stringSize_0f7a4_17 : decode cJ6_stringSize_0f7a4 17 = .ok (.bipush 10, 2) := by decide +kernel
theorem dJ6_stringSize_0f7a4_19 : decode cJ6_stringSize_0f7a4 19 = .ok (.if_icmp .ge 23, 3) := by decide +kernel
theorem dJ6_stringSize_0f7a4_22 : decode cJ6_stringSize_0f7a4 22 = .ok (.iload_n 0, 1) := by decide +kernel
theorem dJ6_stringSize_0f7a4_23 : decode cJ6_stringSize_0f7a4 23 = .ok (.iload_n 2, 1) := by decide +kernel
theorem dJ6_stringSize_0f7a4_24 : decode cJ6_stringSize_0f7a4 24 = .ok (.if_icmp .le 7, 3) := by decide +kernel
theorem dJ6_stringSize_0f7a4_27 : decode cJ6_stringSize_0f7a4 27 = .ok (.iload_n 3, 1) := by decide +kernel
theorem dJ6_stringSize_0f7a4_28 : decode cJ6_stringSize_0f7a4 28 = .ok (.iload_n 1, 1) := by decide +kernel
theorem dJ6_stringSize_0f7a4_29 : decode cJ6_stringSize_0f7a4 29 = .ok (.iadd, 1) := by decide +kernel
theorem dJ6_stringSize_0f7a4_30 : decode cJ6_stringSize_0f7a4 30 = .ok (.ireturn, 1) := by decide +kernel

theorem dJ6_stringSize_0f7a4_31 : decode cJ6_stringSize_0f7a4 31 = .ok (.bipush 10, 2) := by decide +kernel
theorem dJ6_stringSize_0f7a4_33 : decode cJ6_stringSize_0f7a4 33 = .ok (.iload_n 2, 1) := by decide +kernel
theorem dJ6_stringSize_0f7a4_34 : decode cJ6_stringSize_0f7a4 34 = .ok (.imul, 1) := by decide +kernel
theorem dJ6_stringSize_0f7a4_35 : decode cJ6_stringSize_0f7a4 35 = .ok (.istore_n 2, 1) := by decide +kernel
theorem dJ6_stringSize_0f7a4_36 : decode cJ6_stringSize_0f7a4 36 = .ok (.iinc 3 1, 3) := by decide +kernel
theorem dJ6_stringSize_0f7a4_39 : decode cJ6_stringSize_0f7a4 39 = .ok (.goto (-23), 3) := by decide +kernel
theorem dJ6_stringSize_0f7a4_42 : decode cJ6_stringSize_0f7a4 42 = .ok (.bipush 10, 2) := by decide +kernel
theorem dJ6_stringSize_0f7a4_44 : decode cJ6_stringSize_0f7a4 44 = .ok (.iload_n 1, 1) := by decide +kernel
theorem dJ6_stringSize_0f7a4_45 : decode cJ6_stringSize_0f7a4 45 = .ok (.iadd, 1) := by decide +kernel
theorem dJ6_stringSize_0f7a4_46 : decode cJ6_stringSize_0f7a4 46 = .ok (.ireturn, 1) := by decide +kernel
theorem dJ0_init_81219_0 : decode cJ0_init_81219 0 = .ok (.aload_n 0, 1) := by decide +kernel
theorem dJ0_init_81219_1 : decode cJ0_init_81219 1 = .ok (.aload_n 1, 1) := by decide +kernel
theorem dJ0_init_81219_2 : decode cJ0_init_81219 2 = .ok (.aconst_null, 1) := by decide +kernel
theorem dJ0_init_81219_3 : decode cJ0_init_81219 3 = .ok (.invokespecial 489, 3) := by decide +kernel
theorem dJ0_init_81219_6 : decode cJ0_init_81219 6 = .ok (.return_, 1) := by decide +kernel
theorem dJ0_length_8abf5_0 : decode cJ0_length_8abf5 0 = .ok (.aload_n 0, 1) := by decide +kernel
theorem dJ0_length_8abf5_1 : decode cJ0_length_8abf5 1 = .ok (.getfield 9, 3) := by decide +kernel
theorem dJ0_length_8abf5_4 : decode cJ0_length_8abf5 4 = .ok (.arraylength, 1) := by decide +kernel
theorem dJ0_length_8abf5_5 : decode cJ0_length_8abf5 5 = .ok (.aload_n 0, 1) := by decide +kernel
theorem dJ0_length_8abf5_6 : decode cJ0_length_8abf5 6 = .ok (.invokevirtual 335, 3) := by decide +kernel
theorem dJ0_length_8abf5_9 : decode cJ0_length_8abf5 9 = .ok (.ishr, 1) := by decide +kernel
theorem dJ0_length_8abf5_10 : decode cJ0_length_8abf5 10 = .ok (.ireturn, 1) := by decide +kernel
theorem dJ0_charAt_5068e_0 : decode cJ0_charAt_5068e 0 = .ok (.aload_n 0, 1) := by decide +kernel
theorem dJ0_charAt_5068e_1 : decode cJ0_charAt_5068e 1 = .ok (.invokevirtual 492, 3) := by decide +kernel
theorem dJ0_charAt_5068e_4 : decode cJ0_charAt_5068e 4 = .ok (.ifCond .eq 12, 3) := by decide +kernel
theorem dJ0_charAt_5068e_7 : decode cJ0_charAt_5068e 7 = .ok (.aload_n 0, 1) := by decide +kernel
theorem dJ0_charAt_5068e_8 : decode cJ0_charAt_5068e 8 = .ok (.getfield 9, 3) := by decide +kernel
theorem dJ0_charAt_5068e_11 : decode cJ0_charAt_5068e 11 = .ok (.iload_n 1, 1) := by decide +kernel
theorem dJ0_charAt_5068e_12 : decode cJ0_charAt_5068e 12 = .ok (.invokestatic 495, 3) := by decide +kernel
theorem dJ0_charAt_5068e_15 : decode cJ0_charAt_5068e 15 = .ok (.ireturn, 1) := by decide +kernel
theorem dJ0_charAt_5068e_16 : decode cJ0_charAt_5068e 16 = .ok (.aload_n 0, 1) := by decide +kernel
theorem dJ0_charAt_5068e_17 : decode cJ0_charAt_5068e 17 = .ok (.getfield 9, 3) := by decide +kernel
theorem dJ0_charAt_5068e_20 : decode cJ0_charAt_5068e 20 = .ok (.iload_n 1, 1) := by decide +kernel
theorem dJ0_charAt_5068e_21 : decode cJ0_charAt_5068e 21 = .ok (.invokestatic 498, 3) := by decide +kernel
theorem dJ0_charAt_5068e_24 : decode cJ0_charAt_5068e 24 = .ok (.ireturn, 1) := by decide +kernel
theorem dJ0_getBytes_840e7_0 : decode cJ0_getBytes_840e7 0 = .ok (.aload_n 0, 1) := by decide +kernel
theorem dJ0_getBytes_840e7_1 : decode cJ0_getBytes_840e7 1 = .ok (.invokevirtual 335, 3) := by decide +kernel
theorem dJ0_getBytes_840e7_4 : decode cJ0_getBytes_840e7 4 = .ok (.iload_n 3, 1) := by decide +kernel
theorem dJ0_getBytes_840e7_5 : decode cJ0_getBytes_840e7 5 = .ok (.if_icmp .ne 23, 3) := by decide +kernel
theorem dJ0_getBytes_840e7_8 : decode cJ0_getBytes_840e7 8 = .ok (.aload_n 0, 1) := by decide +kernel
theorem dJ0_getBytes_840e7_9 : decode cJ0_getBytes_840e7 9 = .ok (.getfield 9, 3) := by decide +kernel
theorem dJ0_getBytes_840e7_12 : decode cJ0_getBytes_840e7 12 = .ok (.iconst 0, 1) := by decide +kernel
theorem dJ0_getBytes_840e7_13 : decode cJ0_getBytes_840e7 13 = .ok (.aload_n 1, 1) := by decide +kernel
theorem dJ0_getBytes_840e7_14 : decode cJ0_getBytes_840e7 14 = .ok (.iload_n 2, 1) := by decide +kernel
theorem dJ0_getBytes_840e7_15 : decode cJ0_getBytes_840e7 15 = .ok (.iload_n 3, 1) := by decide +kernel
theorem dJ0_getBytes_840e7_16 : decode cJ0_getBytes_840e7 16 = .ok (.ishl, 1) := by decide +kernel
theorem dJ0_getBytes_840e7_17 : decode cJ0_getBytes_840e7 17 = .ok (.aload_n 0, 1) := by decide +kernel
theorem dJ0_getBytes_840e7_18 : decode cJ0_getBytes_840e7 18 = .ok (.getfield 9, 3) := by decide +kernel
theorem dJ0_getBytes_840e7_21 : decode cJ0_getBytes_840e7 21 = .ok (.arraylength, 1) := by decide +kernel
theorem dJ0_getBytes_840e7_22 : decode cJ0_getBytes_840e7 22 = .ok (.invokestatic 212, 3) := by decide +kernel
theorem dJ0_getBytes_840e7_25 : decode cJ0_getBytes_840e7 25 = .ok (.goto 18, 3) := by decide +kernel
theorem dJ0_getBytes_840e7_28 : decode cJ0_getBytes_840e7 28 = .ok (.aload_n 0, 1) := by decide +kernel
theorem dJ0_getBytes_840e7_29 : decode cJ0_getBytes_840e7 29 = .ok (.getfield 9, 3) := by decide +kernel
theorem dJ0_getBytes_840e7_32 : decode cJ0_getBytes_840e7 32 = .ok (.iconst 0, 1) := by decide +kernel
theorem dJ0_getBytes_840e7_33 : decode cJ0_getBytes_840e7 33 = .ok (.aload_n 1, 1) := by decide +kernel
theorem dJ0_getBytes_840e7_34 : decode cJ0_getBytes_840e7 34 = .ok (.iload_n 2, 1) := by decide +kernel
theorem dJ0_getBytes_840e7_35 : decode cJ0_getBytes_840e7 35 = .ok (.aload_n 0, 1) := by decide +kernel
theorem dJ0_getBytes_840e7_36 : decode cJ0_getBytes_840e7 36 = .ok (.getfield 9, 3) := by decide +kernel
theorem dJ0_getBytes_840e7_39 : decode cJ0_getBytes_840e7 39 = .ok (.arraylength, 1) := by decide +kernel
theorem dJ0_getBytes_840e7_40 : decode cJ0_getBytes_840e7 40 = .ok (.invokestatic 106, 3) := by decide +kernel
theorem dJ0_getBytes_840e7_43 : decode cJ0_getBytes_840e7 43 = .ok (.return_, 1) := by decide +kernel
theorem dJ0_init_db425_0 : decode cJ0_init_db425 0 = .ok (.aload_n 0, 1) := by decide +kernel
theorem dJ0_init_db425_1 : decode cJ0_init_db425 1 = .ok (.invokespecial 1, 3) := by decide +kernel
theorem dJ0_init_db425_4 : decode cJ0_init_db425 4 = .ok (.aload_n 1, 1) := by decide +kernel
theorem dJ0_init_db425_5 : decode cJ0_init_db425 5 = .ok (.invokevirtual 552, 3) := by decide +kernel
theorem dJ0_init_db425_8 : decode cJ0_init_db425 8 = .ok (.astore_n 3, 1) := by decide +kernel
theorem dJ0_init_db425_9 : decode cJ0_init_db425 9 = .ok (.aload_n 1, 1) := by decide +kernel
theorem dJ0_init_db425_10 : decode cJ0_init_db425 10 = .ok (.invokevirtual 549, 3) := by decide +kernel
theorem dJ0_init_db425_13 : decode cJ0_init_db425 13 = .ok (.istore 4, 2) := by decide +kernel
theorem dJ0_init_db425_15 : decode cJ0_init_db425 15 = .ok (.aload_n 1, 1) := by decide +kernel
theorem dJ0_init_db425_16 : decode cJ0_init_db425 16 = .ok (.invokevirtual 1047, 3) := by decide +kernel
theorem dJ0_init_db425_19 : decode cJ0_init_db425 19 = .ok (.ifCond .eq 22, 3) := by decide +kernel
theorem dJ0_init_db425_22 : decode cJ0_init_db425 22 = .ok (.aload_n 0, 1) := by decide +kernel
theorem dJ0_init_db425_23 : decode cJ0_init_db425 23 = .ok (.iconst 0, 1) := by decide +kernel
theorem dJ0_init_db425_24 : decode cJ0_init_db425 24 = .ok (.putfield 15, 3) := by decide +kernel
theorem dJ0_init_db425_27 : decode cJ0_init_db425 27 = .ok (.aload_n 0, 1) := by decide +kernel
theorem dJ0_init_db425_28 : decode cJ0_init_db425 28 = .ok (.aload_n 3, 1) := by decide +kernel
theorem dJ0_init_db425_29 : decode cJ0_init_db425 29 = .ok (.iconst 0, 1) := by decide +kernel
theorem dJ0_init_db425_30 : decode cJ0_init_db425 30 = .ok (.iload 4, 2) := by decide +kernel
theorem dJ0_init_db425_32 : decode cJ0_init_db425 32 = .ok (.invokestatic 54, 3) := by decide +kernel
theorem dJ0_init_db425_35 : decode cJ0_init_db425 35 = .ok (.putfield 9, 3) := by decide +kernel
theorem dJ0_init_db425_38 : decode cJ0_init_db425 38 = .ok (.goto 59, 3) := by decide +kernel
theorem dJ0_init_db425_41 : decode cJ0_init_db425 41 = .ok (.getstatic 38, 3) := by decide +kernel
theorem dJ0_init_db425_44 : decode cJ0_init_db425 44 = .ok (.ifCond .eq 35, 3) := by decide +kernel
theorem dJ0_init_db425_47 : decode cJ0_init_db425 47 = .ok (.aload_n 1, 1) := by decide +kernel
theorem dJ0_init_db425_48 : decode cJ0_init_db425 48 = .ok (.getfield 1048, 3) := by decide +kernel
theorem dJ0_init_db425_51 : decode cJ0_init_db425 51 = .ok (.ifCond .eq 28, 3) := by decide +kernel
theorem dJ0_init_db425_54 : decode cJ0_init_db425 54 = .ok (.aload_n 0, 1) := by decide +kernel
theorem dJ0_init_db425_55 : decode cJ0_init_db425 55 = .ok (.aload_n 3, 1) := by decide +kernel
theorem dJ0_init_db425_56 : decode cJ0_init_db425 56 = .ok (.iconst 0, 1) := by decide +kernel
theorem dJ0_init_db425_57 : decode cJ0_init_db425 57 = .ok (.iload 4, 2) := by decide +kernel
theorem dJ0_init_db425_59 : decode cJ0_init_db425 59 = .ok (.invokestatic 1051, 3) := by decide +kernel
theorem dJ0_init_db425_62 : decode cJ0_init_db425 62 = .ok (.putfield 9, 3) := by decide +kernel
theorem dJ0_init_db425_65 : decode cJ0_init_db425 65 = .ok (.aload_n 0, 1) := by decide +kernel
theorem dJ0_init_db425_66 : decode cJ0_init_db425 66 = .ok (.aload_n 0, 1) := by decide +kernel
theorem dJ0_init_db425_67 : decode cJ0_init_db425 67 = .ok (.getfield 9, 3) := by decide +kernel
theorem dJ0_init_db425_70 : decode cJ0_init_db425 70 = .ok (.iload 4, 2) := by decide +kernel
theorem dJ0_init_db425_72 : decode cJ0_init_db425 72 = .ok (.invokestatic 47, 3) := by decide +kernel
theorem dJ0_init_db425_75 : decode cJ0_init_db425 75 = .ok (.putfield 15, 3) := by decide +kernel
theorem dJ0_init_db425_78 : decode cJ0_init_db425 78 = .ok (.return_, 1) := by decide +kernel
theorem dJ0_init_db425_79 : decode cJ0_init_db425 79 = .ok (.aload_n 0, 1) := by decide +kernel
theorem dJ0_init_db425_80 : decode cJ0_init_db425 80 = .ok (.iconst 1, 1) := by decide +kernel
theorem dJ0_init_db425_81 : decode cJ0_init_db425 81 = .ok (.putfield 15, 3) := by decide +kernel
theorem dJ0_init_db425_84 : decode cJ0_init_db425 84 = .ok (.aload_n 0, 1) := by decide +kernel
theorem dJ0_init_db425_85 : decode cJ0_init_db425 85 = .ok (.aload_n 3, 1) := by decide +kernel
theorem dJ0_init_db425_86 : decode cJ0_init_db425 86 = .ok (.iconst 0, 1) := by decide +kernel
theorem dJ0_init_db425_87 : decode cJ0_init_db425 87 = .ok (.iload 4, 2) := by decide +kernel
theorem dJ0_init_db425_89 : decode cJ0_init_db425 89 = .ok (.iconst 1, 1) := by decide +kernel
theorem dJ0_init_db425_90 : decode cJ0_init_db425 90 = .ok (.ishl, 1) := by decide +kernel
theorem dJ0_init_db425_91 : decode cJ0_init_db425 91 = .ok (.invokestatic 54, 3) := by decide +kernel
theorem dJ0_init_db425_94 : decode cJ0_init_db425 94 = .ok (.putfield 9, 3) := by decide +kernel
theorem dJ0_init_db425_97 : decode cJ0_init_db425 97 = .ok (.return_, 1) := by decide +kernel
theorem dJ0_coder_7d493_0 : decode cJ0_coder_7d493 0 = .ok (.getstatic 38, 3) := by decide +kernel
theorem dJ0_coder_7d493_3 : decode cJ0_coder_7d493 3 = .ok (.ifCond .eq 10, 3) := by decide +kernel
theorem dJ0_coder_7d493_6 : decode cJ0_coder_7d493 6 = .ok (.aload_n 0, 1) := by decide +kernel
theorem dJ0_coder_7d493_7 : decode cJ0_coder_7d493 7 = .ok (.getfield 15, 3) := by decide +kernel
theorem dJ0_coder_7d493_10 : decode cJ0_coder_7d493 10 = .ok (.goto 4, 3) := by decide +kernel
theorem dJ0_coder_7d493_13 : decode cJ0_coder_7d493 13 = .ok (.iconst 1, 1) := by decide +kernel
theorem dJ0_coder_7d493_14 : decode cJ0_coder_7d493 14 = .ok (.ireturn, 1) := by decide +kernel
theorem dJ0_isLatin1_aae02_0 : decode cJ0_isLatin1_aae02 0 = .ok (.getstatic 38, 3) := by decide +kernel
theorem dJ0_isLatin1_aae02_3 : decode cJ0_isLatin1_aae02 3 = .ok (.ifCond .eq 14, 3) := by decide +kernel
theorem dJ0_isLatin1_aae02_6 : decode cJ0_isLatin1_aae02 6 = .ok (.aload_n 0, 1) := by decide +kernel
theorem dJ0_isLatin1_aae02_7 : decode cJ0_isLatin1_aae02 7 = .ok (.getfield 15, 3) := by decide +kernel
theorem dJ0_isLatin1_aae02_10 : decode cJ0_isLatin1_aae02 10 = .ok (.ifCond .ne 7, 3) := by decide +kernel
theorem dJ0_isLatin1_aae02_13 : decode cJ0_isLatin1_aae02 13 = .ok (.iconst 1, 1) := by decide +kernel
theorem dJ0_isLatin1_aae02_14 : decode cJ0_isLatin1_aae02 14 = .ok (.goto 4, 3) := by decide +kernel
theorem dJ0_isLatin1_aae02_17 : decode cJ0_isLatin1_aae02 17 = .ok (.iconst 0, 1) := by decide +kernel
theorem dJ0_isLatin1_aae02_18 : decode cJ0_isLatin1_aae02 18 = .ok (.ireturn, 1) := by decide +kernel
theorem dJ0_checkIndex_df160_0 : decode cJ0_checkIndex_df160 0 = .ok (.iload_n 0, 1) := by decide +kernel
theorem dJ0_checkIndex_df160_1 : decode cJ0_checkIndex_df160 1 = .ok (.iload_n 1, 1) := by decide +kernel
theorem dJ0_checkIndex_df160_2 : decode cJ0_checkIndex_df160 2 = .ok (.getstatic 1053, 3) := by decide +kernel
theorem dJ0_checkIndex_df160_5 : decode cJ0_checkIndex_df160 5 = .ok (.invokestatic 1059, 3) := by decide +kernel
theorem dJ0_checkIndex_df160_8 : decode cJ0_checkIndex_df160 8 = .ok (.pop, 1) := by decide +kernel
theorem dJ0_checkIndex_df160_9 : decode cJ0_checkIndex_df160 9 = .ok (.return_, 1) := by decide +kernel
theorem dJ4_init_a7421_0 : decode cJ4_init_a7421 0 = .ok (.aload_n 0, 1) := by decide +kernel
theorem dJ4_init_a7421_1 : decode cJ4_init_a7421 1 = .ok (.aload_n 1, 1) := by decide +kernel
theorem dJ4_init_a7421_2 : decode cJ4_init_a7421 2 = .ok (.invokespecial 7, 3) := by decide +kernel
theorem dJ4_init_a7421_5 : decode cJ4_init_a7421 5 = .ok (.return_, 1) := by decide +kernel
theorem dJ4_append_15ec4_0 : decode cJ4_append_15ec4 0 = .ok (.aload_n 0, 1) := by decide +kernel
theorem dJ4_append_15ec4_1 : decode cJ4_append_15ec4 1 = .ok (.aload_n 1, 1) := by decide +kernel
theorem dJ4_append_15ec4_2 : decode cJ4_append_15ec4 2 = .ok (.invokespecial 29, 3) := by decide +kernel
theorem dJ4_append_15ec4_5 : decode cJ4_append_15ec4 5 = .ok (.pop, 1) := by decide +kernel
theorem dJ4_append_15ec4_6 : decode cJ4_append_15ec4 6 = .ok (.aload_n 0, 1) := by decide +kernel
theorem dJ4_append_15ec4_7 : decode cJ4_append_15ec4 7 = .ok (.areturn, 1) := by decide +kernel
theorem dJ4_append_cf468_0 : decode cJ4_append_cf468 0 = .ok (.aload_n 0, 1) := by decide +kernel
theorem dJ4_append_cf468_1 : decode cJ4_append_cf468 1 = .ok (.iload_n 1, 1) := by decide +kernel
theorem dJ4_append_cf468_2 : decode cJ4_append_cf468 2 = .ok (.invokespecial 50, 3) := by decide +kernel
theorem dJ4_append_cf468_5 : decode cJ4_append_cf468 5 = .ok (.pop, 1) := by decide +kernel
theorem dJ4_append_cf468_6 : decode cJ4_append_cf468 6 = .ok (.aload_n 0, 1) := by decide +kernel
theorem dJ4_append_cf468_7 : decode cJ4_append_cf468 7 = .ok (.areturn, 1) := by decide +kernel
theorem dJ4_append_bf812_0 : decode cJ4_append_bf812 0 = .ok (.aload_n 0, 1) := by decide +kernel
theorem dJ4_append_bf812_1 : decode cJ4_append_bf812 1 = .ok (.iload_n 1, 1) := by decide +kernel
theorem dJ4_append_bf812_2 : decode cJ4_append_bf812 2 = .ok (.invokespecial 53, 3) := by decide +kernel
theorem dJ4_append_bf812_5 : decode cJ4_append_bf812 5 = .ok (.pop, 1) := by decide +kernel
theorem dJ4_append_bf812_6 : decode cJ4_append_bf812 6 = .ok (.aload_n 0, 1) := by decide +kernel
theorem dJ4_append_bf812_7 : decode cJ4_append_bf812 7 = .ok (.areturn, 1) := by decide +kernel
theorem dJ4_toString_0e30d_0 : decode cJ4_toString_0e30d 0 = .ok (.new 18, 3) := by decide +kernel
theorem dJ4_toString_0e30d_3 : decode cJ4_toString_0e30d 3 = .ok (.dup, 1) := by decide +kernel
theorem dJ4_toString_0e30d_4 : decode cJ4_toString_0e30d 4 = .ok (.aload_n 0, 1) := by decide +kernel
theorem dJ4_toString_0e30d_5 : decode cJ4_toString_0e30d 5 = .ok (.invokespecial 137, 3) := by decide +kernel
theorem dJ4_toString_0e30d_8 : decode cJ4_toString_0e30d 8 = .ok (.areturn, 1) := by decide +kernel
theorem dJ4_append_cf1ce_0 : decode cJ4_append_cf1ce 0 = .ok (.aload_n 0, 1) := by decide +kernel
theorem dJ4_append_cf1ce_1 : decode cJ4_append_cf1ce 1 = .ok (.aload_n 1, 1) := by decide +kernel
theorem dJ4_append_cf1ce_2 : decode cJ4_append_cf1ce 2 = .ok (.invokevirtual 23, 3) := by decide +kernel
theorem dJ4_append_cf1ce_5 : decode cJ4_append_cf1ce 5 = .ok (.areturn, 1) := by decide +kernel
theorem dJ4_length_8abf5_0 : decode cJ4_length_8abf5 0 = .ok (.aload_n 0, 1) := by decide +kernel
theorem dJ4_length_8abf5_1 : decode cJ4_length_8abf5 1 = .ok (.invokespecial 343, 3) := by decide +kernel
theorem dJ4_length_8abf5_4 : decode cJ4_length_8abf5 4 = .ok (.ireturn, 1) := by decide +kernel
theorem dJ1_charAt_3b067_0 : decode cJ1_charAt_3b067 0 = .ok (.iload_n 1, 1) := by decide +kernel
theorem dJ1_charAt_3b067_1 : decode cJ1_charAt_3b067 1 = .ok (.aload_n 0, 1) := by decide +kernel
theorem dJ1_charAt_3b067_2 : decode cJ1_charAt_3b067 2 = .ok (.arraylength, 1) := by decide +kernel
theorem dJ1_charAt_3b067_3 : decode cJ1_charAt_3b067 3 = .ok (.invokestatic 9, 3) := by decide +kernel
theorem dJ1_charAt_3b067_6 : decode cJ1_charAt_3b067 6 = .ok (.aload_n 0, 1) := by decide +kernel
theorem dJ1_charAt_3b067_7 : decode cJ1_charAt_3b067 7 = .ok (.iload_n 1, 1) := by decide +kernel
theorem dJ1_charAt_3b067_8 : decode cJ1_charAt_3b067 8 = .ok (.baload, 1) := by decide +kernel
theorem dJ1_charAt_3b067_9 : decode cJ1_charAt_3b067 9 = .ok (.sipush 255, 3) := by decide +kernel
theorem dJ1_charAt_3b067_12 : decode cJ1_charAt_3b067 12 = .ok (.iand, 1) := by decide +kernel
theorem dJ1_charAt_3b067_13 : decode cJ1_charAt_3b067 13 = .ok (.i2c, 1) := by decide +kernel
theorem dJ1_charAt_3b067_14 : decode cJ1_charAt_3b067 14 = .ok (.ireturn, 1) := by decide +kernel
theorem dJ1_canEncode_fc78d_0 : decode cJ1_canEncode_fc78d 0 = .ok (.iload_n 0, 1) := by decide +kernel
theorem dJ1_canEncode_fc78d_1 : decode cJ1_canEncode_fc78d 1 = .ok (.sipush 255, 3) := by decide +kernel
theorem dJ1_canEncode_fc78d_4 : decode cJ1_canEncode_fc78d 4 = .ok (.if_icmp .gt 7, 3) := by decide +kernel
theorem dJ1_canEncode_fc78d_7 : decode cJ1_canEncode_fc78d 7 = .ok (.iconst 1, 1) := by decide +kernel
theorem dJ1_canEncode_fc78d_8 : decode cJ1_canEncode_fc78d 8 = .ok (.goto 4, 3) := by decide +kernel
theorem dJ1_canEncode_fc78d_11 : decode cJ1_canEncode_fc78d 11 = .ok (.iconst 0, 1) := by decide +kernel
theorem dJ1_canEncode_fc78d_12 : decode cJ1_canEncode_fc78d 12 = .ok (.ireturn, 1) := by decide +kernel
theorem dJ7_rangeCheck_23922_0 : decode cJ7_rangeCheck_23922 0 = .ok (.iload_n 1, 1) := by decide +kernel
theorem dJ7_rangeCheck_23922_1 : decode cJ7_rangeCheck_23922 1 = .ok (.iload_n 2, 1) := by decide +kernel
theorem dJ7_rangeCheck_23922_2 : decode cJ7_rangeCheck_23922 2 = .ok (.if_icmp .le 44, 3) := by decide +kernel
theorem dJ7_rangeCheck_23922_5 : decode cJ7_rangeCheck_23922 5 = .ok (.new 43, 3) := by decide +kernel
theorem dJ7_rangeCheck_23922_8 : decode cJ7_rangeCheck_23922 8 = .ok (.dup, 1) := by decide +kernel
theorem dJ7_rangeCheck_23922_9 : decode cJ7_rangeCheck_23922 9 = .ok (.new 45, 3) := by decide +kernel
theorem dJ7_rangeCheck_23922_12 : decode cJ7_rangeCheck_23922 12 = .ok (.dup, 1) := by decide +kernel
theorem dJ7_rangeCheck_23922_13 : decode cJ7_rangeCheck_23922 13 = .ok (.invokespecial 47, 3) := by decide +kernel
theorem dJ7_rangeCheck_23922_16 : decode cJ7_rangeCheck_23922 16 = .ok (.ldc 48, 2) := by decide +kernel
theorem dJ7_rangeCheck_23922_18 : decode cJ7_rangeCheck_23922 18 = .ok (.invokevirtual 50, 3) := by decide +kernel
theorem dJ7_rangeCheck_23922_21 : decode cJ7_rangeCheck_23922 21 = .ok (.iload_n 1, 1) := by decide +kernel
theorem dJ7_rangeCheck_23922_22 : decode cJ7_rangeCheck_23922 22 = .ok (.invokevirtual 54, 3) := by decide +kernel
theorem dJ7_rangeCheck_23922_25 : decode cJ7_rangeCheck_23922 25 = .ok (.ldc 57, 2) := by decide +kernel
theorem dJ7_rangeCheck_23922_27 : decode cJ7_rangeCheck_23922 27 = .ok (.invokevirtual 50, 3) := by decide +kernel
theorem dJ7_rangeCheck_23922_30 : decode cJ7_rangeCheck_23922 30 = .ok (.iload_n 2, 1) := by decide +kernel
theorem dJ7_rangeCheck_23922_31 : decode cJ7_rangeCheck_23922 31 = .ok (.invokevirtual 54, 3) := by decide +kernel
theorem dJ7_rangeCheck_23922_34 : decode cJ7_rangeCheck_23922 34 = .ok (.ldc 59, 2) := by decide +kernel
theorem dJ7_rangeCheck_23922_36 : decode cJ7_rangeCheck_23922 36 = .ok (.invokevirtual 50, 3) := by decide +kernel
theorem dJ7_rangeCheck_23922_39 : decode cJ7_rangeCheck_23922 39 = .ok (.invokevirtual 61, 3) := by decide +kernel
theorem dJ7_rangeCheck_23922_42 : decode cJ7_rangeCheck_23922 42 = .ok (.invokespecial 65, 3) := by decide +kernel
theorem dJ7_rangeCheck_23922_45 : decode cJ7_rangeCheck_23922 45 = .ok (.athrow, 1) := by decide +kernel
theorem dJ7_rangeCheck_23922_46 : decode cJ7_rangeCheck_23922 46 = .ok (.iload_n 1, 1) := by decide +kernel
theorem dJ7_rangeCheck_23922_47 : decode cJ7_rangeCheck_23922 47 = .ok (.ifCond .ge 12, 3) := by decide +kernel
theorem dJ7_rangeCheck_23922_50 : decode cJ7_rangeCheck_23922 50 = .ok (.new 68, 3) := by decide +kernel
theorem dJ7_rangeCheck_23922_53 : decode cJ7_rangeCheck_23922 53 = .ok (.dup, 1) := by decide +kernel
theorem dJ7_rangeCheck_23922_54 : decode cJ7_rangeCheck_23922 54 = .ok (.iload_n 1, 1) := by decide +kernel
theorem dJ7_rangeCheck_23922_55 : decode cJ7_rangeCheck_23922 55 = .ok (.invokespecial 70, 3) := by decide +kernel
theorem dJ7_rangeCheck_23922_58 : decode cJ7_rangeCheck_23922 58 = .ok (.athrow, 1) := by decide +kernel
theorem dJ7_rangeCheck_23922_59 : decode cJ7_rangeCheck_23922 59 = .ok (.iload_n 2, 1) := by decide +kernel
theorem dJ7_rangeCheck_23922_60 : decode cJ7_rangeCheck_23922 60 = .ok (.iload_n 0, 1) := by decide +kernel
theorem dJ7_rangeCheck_23922_61 : decode cJ7_rangeCheck_23922 61 = .ok (.if_icmp .le 12, 3) := by decide +kernel
theorem dJ7_rangeCheck_23922_64 : decode cJ7_rangeCheck_23922 64 = .ok (.new 68, 3) := by decide +kernel
theorem dJ7_rangeCheck_23922_67 : decode cJ7_rangeCheck_23922 67 = .ok (.dup, 1) := by decide +kernel
theorem dJ7_rangeCheck_23922_68 : decode cJ7_rangeCheck_23922 68 = .ok (.iload_n 2, 1) := by decide +kernel
theorem dJ7_rangeCheck_23922_69 : decode cJ7_rangeCheck_23922 69 = .ok (.invokespecial 70, 3) := by decide +kernel
theorem dJ7_rangeCheck_23922_72 : decode cJ7_rangeCheck_23922 72 = .ok (.athrow, 1) := by decide +kernel
theorem dJ7_rangeCheck_23922_73 : decode cJ7_rangeCheck_23922 73 = .ok (.return_, 1) := by decide +kernel
theorem dJ7_fill_d0a16_0 : decode cJ7_fill_d0a16 0 = .ok (.iconst 0, 1) := by decide +kernel
theorem dJ7_fill_d0a16_1 : decode cJ7_fill_d0a16 1 = .ok (.istore_n 3, 1) := by decide +kernel
theorem dJ7_fill_d0a16_2 : decode cJ7_fill_d0a16 2 = .ok (.aload_n 0, 1) := by decide +kernel
theorem dJ7_fill_d0a16_3 : decode cJ7_fill_d0a16 3 = .ok (.arraylength, 1) := by decide +kernel
theorem dJ7_fill_d0a16_4 : decode cJ7_fill_d0a16 4 = .ok (.istore 4, 2) := by decide +kernel
theorem dJ7_fill_d0a16_6 : decode cJ7_fill_d0a16 6 = .ok (.iload_n 3, 1) := by decide +kernel
theorem dJ7_fill_d0a16_7 : decode cJ7_fill_d0a16 7 = .ok (.iload 4, 2) := by decide +kernel
theorem dJ7_fill_d0a16_9 : decode cJ7_fill_d0a16 9 = .ok (.if_icmp .ge 13, 3) := by decide +kernel
theorem dJ7_fill_d0a16_12 : decode cJ7_fill_d0a16 12 = .ok (.aload_n 0, 1) := by decide +kernel
theorem dJ7_fill_d0a16_13 : decode cJ7_fill_d0a16 13 = .ok (.iload_n 3, 1) := by decide +kernel
theorem dJ7_fill_d0a16_14 : decode cJ7_fill_d0a16 14 = .ok (.lload_n 1, 1) := by decide +kernel
theorem dJ7_fill_d0a16_15 : decode cJ7_fill_d0a16 15 = .ok (.lastore, 1) := by decide +kernel
theorem dJ7_fill_d0a16_16 : decode cJ7_fill_d0a16 16 = .ok (.iinc 3 1, 3) := by decide +kernel
theorem dJ7_fill_d0a16_19 : decode cJ7_fill_d0a16 19 = .ok (.goto (-13), 3) := by decide +kernel
theorem dJ7_fill_d0a16_22 : decode cJ7_fill_d0a16 22 = .ok (.return_, 1) := by decide +kernel
theorem dJ7_fill_bad5a_0 : decode cJ7_fill_bad5a 0 = .ok (.aload_n 0, 1) := by decide +kernel
theorem dJ7_fill_bad5a_1 : decode cJ7_fill_bad5a 1 = .ok (.arraylength, 1) := by decide +kernel
theorem dJ7_fill_bad5a_2 : decode cJ7_fill_bad5a 2 = .ok (.iload_n 1, 1) := by decide +kernel
theorem dJ7_fill_bad5a_3 : decode cJ7_fill_bad5a 3 = .ok (.iload_n 2, 1) := by decide +kernel
theorem dJ7_fill_bad5a_4 : decode cJ7_fill_bad5a 4 = .ok (.invokestatic 13, 3) := by decide +kernel
theorem dJ7_fill_bad5a_7 : decode cJ7_fill_bad5a 7 = .ok (.iload_n 1, 1) := by decide +kernel
theorem dJ7_fill_bad5a_8 : decode cJ7_fill_bad5a 8 = .ok (.istore 5, 2) := by decide +kernel
theorem dJ7_fill_bad5a_10 : decode cJ7_fill_bad5a 10 = .ok (.iload 5, 2) := by decide +kernel
theorem dJ7_fill_bad5a_12 : decode cJ7_fill_bad5a 12 = .ok (.iload_n 2, 1) := by decide +kernel
theorem dJ7_fill_bad5a_13 : decode cJ7_fill_bad5a 13 = .ok (.if_icmp .ge 14, 3) := by decide +kernel
theorem dJ7_fill_bad5a_16 : decode cJ7_fill_bad5a 16 = .ok (.aload_n 0, 1) := by decide +kernel
theorem dJ7_fill_bad5a_17 : decode cJ7_fill_bad5a 17 = .ok (.iload 5, 2) := by decide +kernel
theorem dJ7_fill_bad5a_19 : decode cJ7_fill_bad5a 19 = .ok (.lload_n 3, 1) := by decide +kernel
theorem dJ7_fill_bad5a_20 : decode cJ7_fill_bad5a 20 = .ok (.lastore, 1) := by decide +kernel
theorem dJ7_fill_bad5a_21 : decode cJ7_fill_bad5a 21 = .ok (.iinc 5 1, 3) := by decide +kernel
theorem dJ7_fill_bad5a_24 : decode cJ7_fill_bad5a 24 = .ok (.goto (-14), 3) := by decide +kernel
theorem dJ7_fill_bad5a_27 : decode cJ7_fill_bad5a 27 = .ok (.return_, 1) := by decide +kernel
theorem dJ7_fill_53178_0 : decode cJ7_fill_53178 0 = .ok (.iconst 0, 1) := by decide +kernel
theorem dJ7_fill_53178_1 : decode cJ7_fill_53178 1 = .ok (.istore_n 2, 1) := by decide +kernel
theorem dJ7_fill_53178_2 : decode cJ7_fill_53178 2 = .ok (.aload_n 0, 1) := by decide +kernel
theorem dJ7_fill_53178_3 : decode cJ7_fill_53178 3 = .ok (.arraylength, 1) := by decide +kernel
theorem dJ7_fill_53178_4 : decode cJ7_fill_53178 4 = .ok (.istore_n 3, 1) := by decide +kernel
theorem dJ7_fill_53178_5 : decode cJ7_fill_53178 5 = .ok (.iload_n 2, 1) := by decide +kernel
theorem dJ7_fill_53178_6 : decode cJ7_fill_53178 6 = .ok (.iload_n 3, 1) := by decide +kernel
theorem dJ7_fill_53178_7 : decode cJ7_fill_53178 7 = .ok (.if_icmp .ge 13, 3) := by decide +kernel
theorem dJ7_fill_53178_10 : decode cJ7_fill_53178 10 = .ok (.aload_n 0, 1) := by decide +kernel
theorem dJ7_fill_53178_11 : decode cJ7_fill_53178 11 = .ok (.iload_n 2, 1) := by decide +kernel
theorem dJ7_fill_53178_12 : decode cJ7_fill_53178 12 = .ok (.iload_n 1, 1) := by decide +kernel
theorem dJ7_fill_53178_13 : decode cJ7_fill_53178 13 = .ok (.iastore, 1) := by decide +kernel
theorem dJ7_fill_53178_14 : decode cJ7_fill_53178 14 = .ok (.iinc 2 1, 3) := by decide +kernel
theorem dJ7_fill_53178_17 : decode cJ7_fill_53178 17 = .ok (.goto (-12), 3) := by decide +kernel
theorem dJ7_fill_53178_20 : decode cJ7_fill_53178 20 = .ok (.return_, 1) := by decide +kernel
theorem dJ7_copyOf_9075b_0 : decode cJ7_copyOf_9075b 0 = .ok (.iload_n 1, 1) := by decide +kernel
theorem dJ7_copyOf_9075b_1 : decode cJ7_copyOf_9075b 1 = .ok (.aload_n 0, 1) := by decide +kernel
theorem dJ7_copyOf_9075b_2 : decode cJ7_copyOf_9075b 2 = .ok (.arraylength, 1) := by decide +kernel
theorem dJ7_copyOf_9075b_3 : decode cJ7_copyOf_9075b 3 = .ok (.if_icmp .ne 11, 3) := by decide +kernel
theorem dJ7_copyOf_9075b_6 : decode cJ7_copyOf_9075b 6 = .ok (.aload_n 0, 1) := by decide +kernel
theorem dJ7_copyOf_9075b_7 : decode cJ7_copyOf_9075b 7 = .ok (.invokevirtual 310, 3) := by decide +kernel
theorem dJ7_copyOf_9075b_10 : decode cJ7_copyOf_9075b 10 = .ok (.checkcast 311, 3) := by decide +kernel
theorem dJ7_copyOf_9075b_13 : decode cJ7_copyOf_9075b 13 = .ok (.areturn, 1) := by decide +kernel
theorem dJ7_copyOf_9075b_14 : decode cJ7_copyOf_9075b 14 = .ok (.iload_n 1, 1) := by decide +kernel
theorem dJ7_copyOf_9075b_15 : decode cJ7_copyOf_9075b 15 = .ok (.newarray .byte, 2) := by decide +kernel
theorem dJ7_copyOf_9075b_17 : decode cJ7_copyOf_9075b 17 = .ok (.astore_n 2, 1) := by decide +kernel
theorem dJ7_copyOf_9075b_18 : decode cJ7_copyOf_9075b 18 = .ok (.aload_n 0, 1) := by decide +kernel
theorem dJ7_copyOf_9075b_19 : decode cJ7_copyOf_9075b 19 = .ok (.iconst 0, 1) := by decide +kernel
theorem dJ7_copyOf_9075b_20 : decode cJ7_copyOf_9075b 20 = .ok (.aload_n 2, 1) := by decide +kernel
theorem dJ7_copyOf_9075b_21 : decode cJ7_copyOf_9075b 21 = .ok (.iconst 0, 1) := by decide +kernel
theorem dJ7_copyOf_9075b_22 : decode cJ7_copyOf_9075b 22 = .ok (.aload_n 0, 1) := by decide +kernel
theorem dJ7_copyOf_9075b_23 : decode cJ7_copyOf_9075b 23 = .ok (.arraylength, 1) := by decide +kernel
theorem dJ7_copyOf_9075b_24 : decode cJ7_copyOf_9075b 24 = .ok (.iload_n 1, 1) := by decide +kernel
theorem dJ7_copyOf_9075b_25 : decode cJ7_copyOf_9075b 25 = .ok (.invokestatic 304, 3) := by decide +kernel
theorem dJ7_copyOf_9075b_28 : decode cJ7_copyOf_9075b 28 = .ok (.invokestatic 150, 3) := by decide +kernel
theorem dJ7_copyOf_9075b_31 : decode cJ7_copyOf_9075b 31 = .ok (.aload_n 2, 1) := by decide +kernel
theorem dJ7_copyOf_9075b_32 : decode cJ7_copyOf_9075b 32 = .ok (.areturn, 1) := by decide +kernel
theorem dJ7_copyOf_59c91_0 : decode cJ7_copyOf_59c91 0 = .ok (.iload_n 1, 1) := by decide +kernel
theorem dJ7_copyOf_59c91_1 : decode cJ7_copyOf_59c91 1 = .ok (.aload_n 0, 1) := by decide +kernel
theorem dJ7_copyOf_59c91_2 : decode cJ7_copyOf_59c91 2 = .ok (.arraylength, 1) := by decide +kernel
theorem dJ7_copyOf_59c91_3 : decode cJ7_copyOf_59c91 3 = .ok (.if_icmp .ne 11, 3) := by decide +kernel
theorem dJ7_copyOf_59c91_6 : decode cJ7_copyOf_59c91 6 = .ok (.aload_n 0, 1) := by decide +kernel
theorem dJ7_copyOf_59c91_7 : decode cJ7_copyOf_59c91 7 = .ok (.invokevirtual 316, 3) := by decide +kernel
theorem dJ7_copyOf_59c91_10 : decode cJ7_copyOf_59c91 10 = .ok (.checkcast 317, 3) := by decide +kernel
theorem dJ7_copyOf_59c91_13 : decode cJ7_copyOf_59c91 13 = .ok (.areturn, 1) := by decide +kernel
theorem dJ7_copyOf_59c91_14 : decode cJ7_copyOf_59c91 14 = .ok (.iload_n 1, 1) := by decide +kernel
theorem dJ7_copyOf_59c91_15 : decode cJ7_copyOf_59c91 15 = .ok (.newarray .int, 2) := by decide +kernel
theorem dJ7_copyOf_59c91_17 : decode cJ7_copyOf_59c91 17 = .ok (.astore_n 2, 1) := by decide +kernel
theorem dJ7_copyOf_59c91_18 : decode cJ7_copyOf_59c91 18 = .ok (.aload_n 0, 1) := by decide +kernel
theorem dJ7_copyOf_59c91_19 : decode cJ7_copyOf_59c91 19 = .ok (.iconst 0, 1) := by decide +kernel
theorem dJ7_copyOf_59c91_20 : decode cJ7_copyOf_59c91 20 = .ok (.aload_n 2, 1) := by decide +kernel
theorem dJ7_copyOf_59c91_21 : decode cJ7_copyOf_59c91 21 = .ok (.iconst 0, 1) := by decide +kernel
theorem dJ7_copyOf_59c91_22 : decode cJ7_copyOf_59c91 22 = .ok (.aload_n 0, 1) := by decide +kernel
theorem dJ7_copyOf_59c91_23 : decode cJ7_copyOf_59c91 23 = .ok (.arraylength, 1) := by decide +kernel
theorem dJ7_copyOf_59c91_24 : decode cJ7_copyOf_59c91 24 = .ok (.iload_n 1, 1) := by decide +kernel
theorem dJ7_copyOf_59c91_25 : decode cJ7_copyOf_59c91 25 = .ok (.invokestatic 304, 3) := by decide +kernel
theorem dJ7_copyOf_59c91_28 : decode cJ7_copyOf_59c91 28 = .ok (.invokestatic 150, 3) := by decide +kernel
theorem dJ7_copyOf_59c91_31 : decode cJ7_copyOf_59c91 31 = .ok (.aload_n 2, 1) := by decide +kernel
theorem dJ7_copyOf_59c91_32 : decode cJ7_copyOf_59c91 32 = .ok (.areturn, 1) := by decide +kernel
theorem dJ7_checkLength_df160_0 : decode cJ7_checkLength_df160 0 = .ok (.iload_n 1, 1) := by decide +kernel
theorem dJ7_checkLength_df160_1 : decode cJ7_checkLength_df160 1 = .ok (.iload_n 0, 1) := by decide +kernel
theorem dJ7_checkLength_df160_2 : decode cJ7_checkLength_df160 2 = .ok (.if_icmp .ge 35, 3) := by decide +kernel
theorem dJ7_checkLength_df160_5 : decode cJ7_checkLength_df160 5 = .ok (.new 43, 3) := by decide +kernel
theorem dJ7_checkLength_df160_8 : decode cJ7_checkLength_df160 8 = .ok (.dup, 1) := by decide +kernel
theorem dJ7_checkLength_df160_9 : decode cJ7_checkLength_df160 9 = .ok (.new 45, 3) := by decide +kernel
theorem dJ7_checkLength_df160_12 : decode cJ7_checkLength_df160 12 = .ok (.dup, 1) := by decide +kernel
theorem dJ7_checkLength_df160_13 : decode cJ7_checkLength_df160 13 = .ok (.invokespecial 47, 3) := by decide +kernel
theorem dJ7_checkLength_df160_16 : decode cJ7_checkLength_df160 16 = .ok (.iload_n 0, 1) := by decide +kernel
theorem dJ7_checkLength_df160_17 : decode cJ7_checkLength_df160 17 = .ok (.invokevirtual 54, 3) := by decide +kernel
theorem dJ7_checkLength_df160_20 : decode cJ7_checkLength_df160 20 = .ok (.ldc_w 337, 3) := by decide +kernel
theorem dJ7_checkLength_df160_23 : decode cJ7_checkLength_df160 23 = .ok (.invokevirtual 50, 3) := by decide +kernel
theorem dJ7_checkLength_df160_26 : decode cJ7_checkLength_df160 26 = .ok (.iload_n 1, 1) := by decide +kernel
theorem dJ7_checkLength_df160_27 : decode cJ7_checkLength_df160 27 = .ok (.invokevirtual 54, 3) := by decide +kernel
theorem dJ7_checkLength_df160_30 : decode cJ7_checkLength_df160 30 = .ok (.invokevirtual 61, 3) := by decide +kernel
theorem dJ7_checkLength_df160_33 : decode cJ7_checkLength_df160 33 = .ok (.invokespecial 65, 3) := by decide +kernel
theorem dJ7_checkLength_df160_36 : decode cJ7_checkLength_df160 36 = .ok (.athrow, 1) := by decide +kernel
theorem dJ7_checkLength_df160_37 : decode cJ7_checkLength_df160 37 = .ok (.return_, 1) := by decide +kernel
theorem dJ7_copyOfRange_39247_0 : decode cJ7_copyOfRange_39247 0 = .ok (.iload_n 1, 1) := by decide +kernel
theorem dJ7_copyOfRange_39247_1 : decode cJ7_copyOfRange_39247 1 = .ok (.ifCond .ne 9, 3) := by decide +kernel
theorem dJ7_copyOfRange_39247_4 : decode cJ7_copyOfRange_39247 4 = .ok (.iload_n 2, 1) := by decide +kernel
theorem dJ7_copyOfRange_39247_5 : decode cJ7_copyOfRange_39247 5 = .ok (.aload_n 0, 1) := by decide +kernel
theorem dJ7_copyOfRange_39247_6 : decode cJ7_copyOfRange_39247 6 = .ok (.arraylength, 1) := by decide +kernel
theorem dJ7_copyOfRange_39247_7 : decode cJ7_copyOfRange_39247 7 = .ok (.if_icmp .eq 10, 3) := by decide +kernel
theorem dJ7_copyOfRange_39247_10 : decode cJ7_copyOfRange_39247 10 = .ok (.aload_n 0, 1) := by decide +kernel
theorem dJ7_copyOfRange_39247_11 : decode cJ7_copyOfRange_39247 11 = .ok (.iload_n 1, 1) := by decide +kernel
theorem dJ7_copyOfRange_39247_12 : decode cJ7_copyOfRange_39247 12 = .ok (.iload_n 2, 1) := by decide +kernel
theorem dJ7_copyOfRange_39247_13 : decode cJ7_copyOfRange_39247 13 = .ok (.invokestatic 339, 3) := by decide +kernel
theorem dJ7_copyOfRange_39247_16 : decode cJ7_copyOfRange_39247 16 = .ok (.areturn, 1) := by decide +kernel
theorem dJ7_copyOfRange_39247_17 : decode cJ7_copyOfRange_39247 17 = .ok (.aload_n 0, 1) := by decide +kernel
theorem dJ7_copyOfRange_39247_18 : decode cJ7_copyOfRange_39247 18 = .ok (.invokevirtual 310, 3) := by decide +kernel
theorem dJ7_copyOfRange_39247_21 : decode cJ7_copyOfRange_39247 21 = .ok (.checkcast 311, 3) := by decide +kernel
theorem dJ7_copyOfRange_39247_24 : decode cJ7_copyOfRange_39247 24 = .ok (.areturn, 1) := by decide +kernel
theorem dJ7_copyOfRangeByte_39247_0 : decode cJ7_copyOfRangeByte_39247 0 = .ok (.iload_n 1, 1) := by decide +kernel
theorem dJ7_copyOfRangeByte_39247_1 : decode cJ7_copyOfRangeByte_39247 1 = .ok (.iload_n 2, 1) := by decide +kernel
theorem dJ7_copyOfRangeByte_39247_2 : decode cJ7_copyOfRangeByte_39247 2 = .ok (.invokestatic 343, 3) := by decide +kernel
theorem dJ7_copyOfRangeByte_39247_5 : decode cJ7_copyOfRangeByte_39247 5 = .ok (.iload_n 2, 1) := by decide +kernel
theorem dJ7_copyOfRangeByte_39247_6 : decode cJ7_copyOfRangeByte_39247 6 = .ok (.iload_n 1, 1) := by decide +kernel
theorem dJ7_copyOfRangeByte_39247_7 : decode cJ7_copyOfRangeByte_39247 7 = .ok (.isub, 1) := by decide +kernel
theorem dJ7_copyOfRangeByte_39247_8 : decode cJ7_copyOfRangeByte_39247 8 = .ok (.istore_n 3, 1) := by decide +kernel
theorem dJ7_copyOfRangeByte_39247_9 : decode cJ7_copyOfRangeByte_39247 9 = .ok (.iload_n 3, 1) := by decide +kernel
theorem dJ7_copyOfRangeByte_39247_10 : decode cJ7_copyOfRangeByte_39247 10 = .ok (.newarray .byte, 2) := by decide +kernel
theorem dJ7_copyOfRangeByte_39247_12 : decode cJ7_copyOfRangeByte_39247 12 = .ok (.astore 4, 2) := by decide +kernel
theorem dJ7_copyOfRangeByte_39247_14 : decode cJ7_copyOfRangeByte_39247 14 = .ok (.aload_n 0, 1) := by decide +kernel
theorem dJ7_copyOfRangeByte_39247_15 : decode cJ7_copyOfRangeByte_39247 15 = .ok (.iload_n 1, 1) := by decide +kernel
theorem dJ7_copyOfRangeByte_39247_16 : decode cJ7_copyOfRangeByte_39247 16 = .ok (.aload 4, 2) := by decide +kernel
theorem dJ7_copyOfRangeByte_39247_18 : decode cJ7_copyOfRangeByte_39247 18 = .ok (.iconst 0, 1) := by decide +kernel
theorem dJ7_copyOfRangeByte_39247_19 : decode cJ7_copyOfRangeByte_39247 19 = .ok (.aload_n 0, 1) := by decide +kernel
theorem dJ7_copyOfRangeByte_39247_20 : decode cJ7_copyOfRangeByte_39247 20 = .ok (.arraylength, 1) := by decide +kernel
theorem dJ7_copyOfRangeByte_39247_21 : decode cJ7_copyOfRangeByte_39247 21 = .ok (.iload_n 1, 1) := by decide +kernel
theorem dJ7_copyOfRangeByte_39247_22 : decode cJ7_copyOfRangeByte_39247 22 = .ok (.isub, 1) := by decide +kernel
theorem dJ7_copyOfRangeByte_39247_23 : decode cJ7_copyOfRangeByte_39247 23 = .ok (.iload_n 3, 1) := by decide +kernel
theorem dJ7_copyOfRangeByte_39247_24 : decode cJ7_copyOfRangeByte_39247 24 = .ok (.invokestatic 304, 3) := by decide +kernel
theorem dJ7_copyOfRangeByte_39247_27 : decode cJ7_copyOfRangeByte_39247 27 = .ok (.invokestatic 150, 3) := by decide +kernel
theorem dJ7_copyOfRangeByte_39247_30 : decode cJ7_copyOfRangeByte_39247 30 = .ok (.aload 4, 2) := by decide +kernel
theorem dJ7_copyOfRangeByte_39247_32 : decode cJ7_copyOfRangeByte_39247 32 = .ok (.areturn, 1) := by decide +kernel
theorem dJ8_newLength_cabcc_0 : decode cJ8_newLength_cabcc 0 = .ok (.iload_n 0, 1) := by decide +kernel
theorem dJ8_newLength_cabcc_1 : decode cJ8_newLength_cabcc 1 = .ok (.iload_n 1, 1) := by decide +kernel
theorem dJ8_newLength_cabcc_2 : decode cJ8_newLength_cabcc 2 = .ok (.iload_n 2, 1) := by decide +kernel
theorem dJ8_newLength_cabcc_3 : decode cJ8_newLength_cabcc 3 = .ok (.invokestatic 194, 3) := by decide +kernel
theorem dJ8_newLength_cabcc_6 : decode cJ8_newLength_cabcc 6 = .ok (.iadd, 1) := by decide +kernel
theorem dJ8_newLength_cabcc_7 : decode cJ8_newLength_cabcc 7 = .ok (.istore_n 3, 1) := by decide +kernel
theorem dJ8_newLength_cabcc_8 : decode cJ8_newLength_cabcc 8 = .ok (.iconst 0, 1) := by decide +kernel
theorem dJ8_newLength_cabcc_9 : decode cJ8_newLength_cabcc 9 = .ok (.iload_n 3, 1) := by decide +kernel
theorem dJ8_newLength_cabcc_10 : decode cJ8_newLength_cabcc 10 = .ok (.if_icmp .ge 11, 3) := by decide +kernel
theorem dJ8_newLength_cabcc_13 : decode cJ8_newLength_cabcc 13 = .ok (.iload_n 3, 1) := by decide +kernel
theorem dJ8_newLength_cabcc_14 : decode cJ8_newLength_cabcc 14 = .ok (.ldc 200, 2) := by decide +kernel
theorem dJ8_newLength_cabcc_16 : decode cJ8_newLength_cabcc 16 = .ok (.if_icmp .gt 5, 3) := by decide +kernel
theorem dJ8_newLength_cabcc_19 : decode cJ8_newLength_cabcc 19 = .ok (.iload_n 3, 1) := by decide +kernel
theorem dJ8_newLength_cabcc_20 : decode cJ8_newLength_cabcc 20 = .ok (.ireturn, 1) := by decide +kernel
theorem dJ8_newLength_cabcc_21 : decode cJ8_newLength_cabcc 21 = .ok (.iload_n 0, 1) := by decide +kernel
theorem dJ8_newLength_cabcc_22 : decode cJ8_newLength_cabcc 22 = .ok (.iload_n 1, 1) := by decide +kernel
theorem dJ8_newLength_cabcc_23 : decode cJ8_newLength_cabcc 23 = .ok (.invokestatic 201, 3) := by decide +kernel
theorem dJ8_newLength_cabcc_26 : decode cJ8_newLength_cabcc 26 = .ok (.ireturn, 1) := by decide +kernel
theorem dJ3_checkIndex_8e157_0 : decode cJ3_checkIndex_8e157 0 = .ok (.iload_n 0, 1) := by decide +kernel
theorem dJ3_checkIndex_8e157_1 : decode cJ3_checkIndex_8e157 1 = .ok (.ifCond .lt 8, 3) := by decide +kernel
theorem dJ3_checkIndex_8e157_4 : decode cJ3_checkIndex_8e157 4 = .ok (.iload_n 0, 1) := by decide +kernel
theorem dJ3_checkIndex_8e157_5 : decode cJ3_checkIndex_8e157 5 = .ok (.iload_n 1, 1) := by decide +kernel
theorem dJ3_checkIndex_8e157_6 : decode cJ3_checkIndex_8e157 6 = .ok (.if_icmp .lt 10, 3) := by decide +kernel
theorem dJ3_checkIndex_8e157_9 : decode cJ3_checkIndex_8e157 9 = .ok (.aload_n 2, 1) := by decide +kernel
theorem dJ3_checkIndex_8e157_10 : decode cJ3_checkIndex_8e157 10 = .ok (.iload_n 0, 1) := by decide +kernel
theorem dJ3_checkIndex_8e157_11 : decode cJ3_checkIndex_8e157 11 = .ok (.iload_n 1, 1) := by decide +kernel
theorem dJ3_checkIndex_8e157_12 : decode cJ3_checkIndex_8e157 12 = .ok (.invokestatic 95, 3) := by decide +kernel
theorem dJ3_checkIndex_8e157_15 : decode cJ3_checkIndex_8e157 15 = .ok (.athrow, 1) := by decide +kernel
theorem dJ3_checkIndex_8e157_16 : decode cJ3_checkIndex_8e157 16 = .ok (.iload_n 0, 1) := by decide +kernel
theorem dJ3_checkIndex_8e157_17 : decode cJ3_checkIndex_8e157 17 = .ok (.ireturn, 1) := by decide +kernel
theorem dL_truncateInput_0 : decode cL_truncateInput 0 = .ok (.aload_n 0, 1) := by decide +kernel
theorem dL_truncateInput_1 : decode cL_truncateInput 1 = .ok (.iload_n 1, 1) := by decide +kernel
theorem dL_truncateInput_2 : decode cL_truncateInput 2 = .ok (.invokevirtual 7, 3) := by decide +kernel
theorem dL_truncateInput_5 : decode cL_truncateInput 5 = .ok (.ireturn, 1) := by decide +kernel
theorem dL_truncateInput_6 : decode cL_truncateInput 6 = .ok (.astore_n 2, 1) := by decide +kernel
theorem dL_truncateInput_7 : decode cL_truncateInput 7 = .ok (.bipush (-18), 2) := by decide +kernel
theorem dL_truncateInput_9 : decode cL_truncateInput 9 = .ok (.ireturn, 1) := by decide +kernel
theorem dL_addNote_0 : decode cL_addNote 0 = .ok (.aload_n 0, 1) := by decide +kernel
theorem dL_addNote_1 : decode cL_addNote 1 = .ok (.iload_n 1, 1) := by decide +kernel
theorem dL_addNote_2 : decode cL_addNote 2 = .ok (.iload_n 2, 1) := by decide +kernel
theorem dL_addNote_3 : decode cL_addNote 3 = .ok (.iload_n 3, 1) := by decide +kernel
theorem dL_addNote_4 : decode cL_addNote 4 = .ok (.iload 4, 2) := by decide +kernel
theorem dL_addNote_6 : decode cL_addNote 6 = .ok (.iload 5, 2) := by decide +kernel
theorem dL_addNote_8 : decode cL_addNote 8 = .ok (.iload 6, 2) := by decide +kernel
theorem dL_addNote_10 : decode cL_addNote 10 = .ok (.invokevirtual 15, 3) := by decide +kernel
theorem dL_addNote_13 : decode cL_addNote 13 = .ok (.ireturn, 1) := by decide +kernel
theorem dL_addNote_14 : decode cL_addNote 14 = .ok (.astore 7, 2) := by decide +kernel
theorem dL_addNote_16 : decode cL_addNote 16 = .ok (.bipush (-18), 2) := by decide +kernel
theorem dL_addNote_18 : decode cL_addNote 18 = .ok (.ireturn, 1) := by decide +kernel
theorem dL_addNote_19 : decode cL_addNote 19 = .ok (.astore 7, 2) := by decide +kernel
theorem dL_addNote_21 : decode cL_addNote 21 = .ok (.bipush (-19), 2) := by decide +kernel
theorem dL_addNote_23 : decode cL_addNote 23 = .ok (.ireturn, 1) := by decide +kernel
theorem dL_clarify_0 : decode cL_clarify 0 = .ok (.aload_n 0, 1) := by decide +kernel
theorem dL_clarify_1 : decode cL_clarify 1 = .ok (.iload_n 1, 1) := by decide +kernel
theorem dL_clarify_2 : decode cL_clarify 2 = .ok (.iload_n 2, 1) := by decide +kernel
theorem dL_clarify_3 : decode cL_clarify 3 = .ok (.iload_n 3, 1) := by decide +kernel
theorem dL_clarify_4 : decode cL_clarify 4 = .ok (.invokevirtual 21, 3) := by decide +kernel
theorem dL_clarify_7 : decode cL_clarify 7 = .ok (.ireturn, 1) := by decide +kernel
theorem dL_clarify_8 : decode cL_clarify 8 = .ok (.astore 4, 2) := by decide +kernel
theorem dL_clarify_10 : decode cL_clarify 10 = .ok (.bipush (-17), 2) := by decide +kernel
theorem dL_clarify_12 : decode cL_clarify 12 = .ok (.ireturn, 1) := by decide +kernel
theorem dL_clarify_13 : decode cL_clarify 13 = .ok (.astore 4, 2) := by decide +kernel
theorem dL_clarify_15 : decode cL_clarify 15 = .ok (.bipush (-18), 2) := by decide +kernel
theorem dL_clarify_17 : decode cL_clarify 17 = .ok (.ireturn, 1) := by decide +kernel
theorem dL_clarify_18 : decode cL_clarify 18 = .ok (.astore 4, 2) := by decide +kernel
theorem dL_clarify_20 : decode cL_clarify 20 = .ok (.bipush (-19), 2) := by decide +kernel
theorem dL_clarify_22 : decode cL_clarify 22 = .ok (.ireturn, 1) := by decide +kernel
theorem dL_dropNote_0 : decode cL_dropNote 0 = .ok (.aload_n 0, 1) := by decide +kernel
theorem dL_dropNote_1 : decode cL_dropNote 1 = .ok (.invokevirtual 27, 3) := by decide +kernel
theorem dL_dropNote_4 : decode cL_dropNote 4 = .ok (.ireturn, 1) := by decide +kernel
theorem dL_dropNote_5 : decode cL_dropNote 5 = .ok (.astore_n 1, 1) := by decide +kernel
theorem dL_dropNote_6 : decode cL_dropNote 6 = .ok (.bipush (-19), 2) := by decide +kernel
theorem dL_dropNote_8 : decode cL_dropNote 8 = .ok (.ireturn, 1) := by decide +kernel
theorem dL_undo_0 : decode cL_undo 0 = .ok (.aload_n 0, 1) := by decide +kernel
theorem dL_undo_1 : decode cL_undo 1 = .ok (.invokevirtual 31, 3) := by decide +kernel
theorem dL_undo_4 : decode cL_undo 4 = .ok (.ireturn, 1) := by decide +kernel
theorem dL_undo_5 : decode cL_undo 5 = .ok (.astore_n 1, 1) := by decide +kernel
theorem dL_undo_6 : decode cL_undo 6 = .ok (.bipush (-19), 2) := by decide +kernel
theorem dL_undo_8 : decode cL_undo 8 = .ok (.ireturn, 1) := by decide +kernel
theorem dL_noteKind_0 : decode cL_noteKind 0 = .ok (.aload_n 0, 1) := by decide +kernel
theorem dL_noteKind_1 : decode cL_noteKind 1 = .ok (.iload_n 1, 1) := by decide +kernel
theorem dL_noteKind_2 : decode cL_noteKind 2 = .ok (.invokevirtual 34, 3) := by decide +kernel
theorem dL_noteKind_5 : decode cL_noteKind 5 = .ok (.ireturn, 1) := by decide +kernel
theorem dL_noteKind_6 : decode cL_noteKind 6 = .ok (.astore_n 2, 1) := by decide +kernel
theorem dL_noteKind_7 : decode cL_noteKind 7 = .ok (.bipush (-17), 2) := by decide +kernel
theorem dL_noteKind_9 : decode cL_noteKind 9 = .ok (.ireturn, 1) := by decide +kernel
theorem dL_noteFromColumn_0 : decode cL_noteFromColumn 0 = .ok (.aload_n 0, 1) := by decide +kernel
theorem dL_noteFromColumn_1 : decode cL_noteFromColumn 1 = .ok (.iload_n 1, 1) := by decide +kernel
theorem dL_noteFromColumn_2 : decode cL_noteFromColumn 2 = .ok (.invokevirtual 37, 3) := by decide +kernel
theorem dL_noteFromColumn_5 : decode cL_noteFromColumn 5 = .ok (.ireturn, 1) := by decide +kernel
theorem dL_noteFromColumn_6 : decode cL_noteFromColumn 6 = .ok (.astore_n 2, 1) := by decide +kernel
theorem dL_noteFromColumn_7 : decode cL_noteFromColumn 7 = .ok (.bipush (-17), 2) := by decide +kernel
theorem dL_noteFromColumn_9 : decode cL_noteFromColumn 9 = .ok (.ireturn, 1) := by decide +kernel
theorem dL_noteFromRow_0 : decode cL_noteFromRow 0 = .ok (.aload_n 0, 1) := by decide +kernel
theorem dL_noteFromRow_1 : decode cL_noteFromRow 1 = .ok (.iload_n 1, 1) := by decide +kernel
theorem dL_noteFromRow_2 : decode cL_noteFromRow 2 = .ok (.invokevirtual 40, 3) := by decide +kernel
theorem dL_noteFromRow_5 : decode cL_noteFromRow 5 = .ok (.ireturn, 1) := by decide +kernel
theorem dL_noteFromRow_6 : decode cL_noteFromRow 6 = .ok (.astore_n 2, 1) := by decide +kernel
theorem dL_noteFromRow_7 : decode cL_noteFromRow 7 = .ok (.bipush (-17), 2) := by decide +kernel
theorem dL_noteFromRow_9 : decode cL_noteFromRow 9 = .ok (.ireturn, 1) := by decide +kernel
theorem dL_noteToColumn_0 : decode cL_noteToColumn 0 = .ok (.aload_n 0, 1) := by decide +kernel
theorem dL_noteToColumn_1 : decode cL_noteToColumn 1 = .ok (.iload_n 1, 1) := by decide +kernel
theorem dL_noteToColumn_2 : decode cL_noteToColumn 2 = .ok (.invokevirtual 43, 3) := by decide +kernel
theorem dL_noteToColumn_5 : decode cL_noteToColumn 5 = .ok (.ireturn, 1) := by decide +kernel
theorem dL_noteToColumn_6 : decode cL_noteToColumn 6 = .ok (.astore_n 2, 1) := by decide +kernel
theorem dL_noteToColumn_7 : decode cL_noteToColumn 7 = .ok (.bipush (-17), 2) := by decide +kernel
theorem dL_noteToColumn_9 : decode cL_noteToColumn 9 = .ok (.ireturn, 1) := by decide +kernel
theorem dL_noteToRow_0 : decode cL_noteToRow 0 = .ok (.aload_n 0, 1) := by decide +kernel
theorem dL_noteToRow_1 : decode cL_noteToRow 1 = .ok (.iload_n 1, 1) := by decide +kernel
theorem dL_noteToRow_2 : decode cL_noteToRow 2 = .ok (.invokevirtual 46, 3) := by decide +kernel
theorem dL_noteToRow_5 : decode cL_noteToRow 5 = .ok (.ireturn, 1) := by decide +kernel
theorem dL_noteToRow_6 : decode cL_noteToRow 6 = .ok (.astore_n 2, 1) := by decide +kernel
theorem dL_noteToRow_7 : decode cL_noteToRow 7 = .ok (.bipush (-17), 2) := by decide +kernel
theorem dL_noteToRow_9 : decode cL_noteToRow 9 = .ok (.ireturn, 1) := by decide +kernel
theorem dL_doubt_0 : decode cL_doubt 0 = .ok (.aload_n 0, 1) := by decide +kernel
theorem dL_doubt_1 : decode cL_doubt 1 = .ok (.iload_n 1, 1) := by decide +kernel
theorem dL_doubt_2 : decode cL_doubt 2 = .ok (.invokevirtual 49, 3) := by decide +kernel
theorem dL_doubt_5 : decode cL_doubt 5 = .ok (.ireturn, 1) := by decide +kernel
theorem dL_doubt_6 : decode cL_doubt 6 = .ok (.astore_n 2, 1) := by decide +kernel
theorem dL_doubt_7 : decode cL_doubt 7 = .ok (.bipush (-17), 2) := by decide +kernel
theorem dL_doubt_9 : decode cL_doubt 9 = .ok (.ireturn, 1) := by decide +kernel
theorem dL_noteTakes_0 : decode cL_noteTakes 0 = .ok (.aload_n 0, 1) := by decide +kernel
theorem dL_noteTakes_1 : decode cL_noteTakes 1 = .ok (.iload_n 1, 1) := by decide +kernel
theorem dL_noteTakes_2 : decode cL_noteTakes 2 = .ok (.invokevirtual 52, 3) := by decide +kernel
theorem dL_noteTakes_5 : decode cL_noteTakes 5 = .ok (.ifCond .eq 7, 3) := by decide +kernel
theorem dL_noteTakes_8 : decode cL_noteTakes 8 = .ok (.iconst 1, 1) := by decide +kernel
theorem dL_noteTakes_9 : decode cL_noteTakes 9 = .ok (.goto 4, 3) := by decide +kernel
theorem dL_noteTakes_12 : decode cL_noteTakes 12 = .ok (.iconst 0, 1) := by decide +kernel
theorem dL_noteTakes_13 : decode cL_noteTakes 13 = .ok (.ireturn, 1) := by decide +kernel
theorem dL_noteTakes_14 : decode cL_noteTakes 14 = .ok (.astore_n 2, 1) := by decide +kernel
theorem dL_noteTakes_15 : decode cL_noteTakes 15 = .ok (.bipush (-17), 2) := by decide +kernel
theorem dL_noteTakes_17 : decode cL_noteTakes 17 = .ok (.ireturn, 1) := by decide +kernel
theorem dL_positionsAfter_0 : decode cL_positionsAfter 0 = .ok (.aload_n 0, 1) := by decide +kernel
theorem dL_positionsAfter_1 : decode cL_positionsAfter 1 = .ok (.iload_n 1, 1) := by decide +kernel
theorem dL_positionsAfter_2 : decode cL_positionsAfter 2 = .ok (.invokevirtual 56, 3) := by decide +kernel
theorem dL_positionsAfter_5 : decode cL_positionsAfter 5 = .ok (.ireturn, 1) := by decide +kernel
theorem dL_positionsAfter_6 : decode cL_positionsAfter 6 = .ok (.astore_n 2, 1) := by decide +kernel
theorem dL_positionsAfter_7 : decode cL_positionsAfter 7 = .ok (.bipush (-18), 2) := by decide +kernel
theorem dL_positionsAfter_9 : decode cL_positionsAfter 9 = .ok (.ireturn, 1) := by decide +kernel
theorem dL_kindAt_0 : decode cL_kindAt 0 = .ok (.aload_n 0, 1) := by decide +kernel
theorem dL_kindAt_1 : decode cL_kindAt 1 = .ok (.iload_n 1, 1) := by decide +kernel
theorem dL_kindAt_2 : decode cL_kindAt 2 = .ok (.iload_n 2, 1) := by decide +kernel
theorem dL_kindAt_3 : decode cL_kindAt 3 = .ok (.iload_n 3, 1) := by decide +kernel
theorem dL_kindAt_4 : decode cL_kindAt 4 = .ok (.invokevirtual 59, 3) := by decide +kernel
theorem dL_kindAt_7 : decode cL_kindAt 7 = .ok (.ireturn, 1) := by decide +kernel
theorem dL_kindAt_8 : decode cL_kindAt 8 = .ok (.astore 4, 2) := by decide +kernel
theorem dL_kindAt_10 : decode cL_kindAt 10 = .ok (.bipush (-17), 2) := by decide +kernel
theorem dL_kindAt_12 : decode cL_kindAt 12 = .ok (.ireturn, 1) := by decide +kernel
theorem dL_colourAt_0 : decode cL_colourAt 0 = .ok (.aload_n 0, 1) := by decide +kernel
theorem dL_colourAt_1 : decode cL_colourAt 1 = .ok (.iload_n 1, 1) := by decide +kernel
theorem dL_colourAt_2 : decode cL_colourAt 2 = .ok (.iload_n 2, 1) := by decide +kernel
theorem dL_colourAt_3 : decode cL_colourAt 3 = .ok (.iload_n 3, 1) := by decide +kernel
theorem dL_colourAt_4 : decode cL_colourAt 4 = .ok (.invokevirtual 62, 3) := by decide +kernel
theorem dL_colourAt_7 : decode cL_colourAt 7 = .ok (.ireturn, 1) := by decide +kernel
theorem dL_colourAt_8 : decode cL_colourAt 8 = .ok (.astore 4, 2) := by decide +kernel
theorem dL_colourAt_10 : decode cL_colourAt 10 = .ok (.bipush (-17), 2) := by decide +kernel
theorem dL_colourAt_12 : decode cL_colourAt 12 = .ok (.ireturn, 1) := by decide +kernel
theorem dL_isAttacked_0 : decode cL_isAttacked 0 = .ok (.aload_n 0, 1) := by decide +kernel
theorem dL_isAttacked_1 : decode cL_isAttacked 1 = .ok (.iload_n 1, 1) := by decide +kernel
theorem dL_isAttacked_2 : decode cL_isAttacked 2 = .ok (.iload_n 2, 1) := by decide +kernel
theorem dL_isAttacked_3 : decode cL_isAttacked 3 = .ok (.iload_n 3, 1) := by decide +kernel
theorem dL_isAttacked_4 : decode cL_isAttacked 4 = .ok (.iload 4, 2) := by decide +kernel
theorem dL_isAttacked_6 : decode cL_isAttacked 6 = .ok (.invokevirtual 65, 3) := by decide +kernel
theorem dL_isAttacked_9 : decode cL_isAttacked 9 = .ok (.ifCond .eq 7, 3) := by decide +kernel
theorem dL_isAttacked_12 : decode cL_isAttacked 12 = .ok (.iconst 1, 1) := by decide +kernel
theorem dL_isAttacked_13 : decode cL_isAttacked 13 = .ok (.goto 4, 3) := by decide +kernel
theorem dL_isAttacked_16 : decode cL_isAttacked 16 = .ok (.iconst 0, 1) := by decide +kernel
theorem dL_isAttacked_17 : decode cL_isAttacked 17 = .ok (.ireturn, 1) := by decide +kernel
theorem dL_isAttacked_18 : decode cL_isAttacked 18 = .ok (.astore 5, 2) := by decide +kernel
theorem dL_isAttacked_20 : decode cL_isAttacked 20 = .ok (.bipush (-17), 2) := by decide +kernel
theorem dL_isAttacked_22 : decode cL_isAttacked 22 = .ok (.ireturn, 1) := by decide +kernel
theorem dL_isAttacked_23 : decode cL_isAttacked 23 = .ok (.astore 5, 2) := by decide +kernel
theorem dL_isAttacked_25 : decode cL_isAttacked 25 = .ok (.bipush (-18), 2) := by decide +kernel
theorem dL_isAttacked_27 : decode cL_isAttacked 27 = .ok (.ireturn, 1) := by decide +kernel
theorem dL_gamesTo_0 : decode cL_gamesTo 0 = .ok (.aload_n 0, 1) := by decide +kernel
theorem dL_gamesTo_1 : decode cL_gamesTo 1 = .ok (.iload_n 1, 1) := by decide +kernel
theorem dL_gamesTo_2 : decode cL_gamesTo 2 = .ok (.invokevirtual 69, 3) := by decide +kernel
theorem dL_gamesTo_5 : decode cL_gamesTo 5 = .ok (.lreturn, 1) := by decide +kernel
theorem dL_gamesTo_6 : decode cL_gamesTo 6 = .ok (.astore_n 2, 1) := by decide +kernel
theorem dL_gamesTo_7 : decode cL_gamesTo 7 = .ok (.ldc2_w 73, 3) := by decide +kernel
theorem dL_gamesTo_10 : decode cL_gamesTo 10 = .ok (.lreturn, 1) := by decide +kernel
theorem dL_moveOrigin_0 : decode cL_moveOrigin 0 = .ok (.aload_n 0, 1) := by decide +kernel
theorem dL_moveOrigin_1 : decode cL_moveOrigin 1 = .ok (.iload_n 1, 1) := by decide +kernel
theorem dL_moveOrigin_2 : decode cL_moveOrigin 2 = .ok (.iload_n 2, 1) := by decide +kernel
theorem dL_moveOrigin_3 : decode cL_moveOrigin 3 = .ok (.invokevirtual 75, 3) := by decide +kernel
theorem dL_moveOrigin_6 : decode cL_moveOrigin 6 = .ok (.ireturn, 1) := by decide +kernel
theorem dL_moveOrigin_7 : decode cL_moveOrigin 7 = .ok (.astore_n 3, 1) := by decide +kernel
theorem dL_moveOrigin_8 : decode cL_moveOrigin 8 = .ok (.bipush (-17), 2) := by decide +kernel
theorem dL_moveOrigin_10 : decode cL_moveOrigin 10 = .ok (.ireturn, 1) := by decide +kernel
theorem dL_moveTarget_0 : decode cL_moveTarget 0 = .ok (.aload_n 0, 1) := by decide +kernel
theorem dL_moveTarget_1 : decode cL_moveTarget 1 = .ok (.iload_n 1, 1) := by decide +kernel
theorem dL_moveTarget_2 : decode cL_moveTarget 2 = .ok (.iload_n 2, 1) := by decide +kernel
theorem dL_moveTarget_3 : decode cL_moveTarget 3 = .ok (.invokevirtual 79, 3) := by decide +kernel
theorem dL_moveTarget_6 : decode cL_moveTarget 6 = .ok (.ireturn, 1) := by decide +kernel
theorem dL_moveTarget_7 : decode cL_moveTarget 7 = .ok (.astore_n 3, 1) := by decide +kernel
theorem dL_moveTarget_8 : decode cL_moveTarget 8 = .ok (.bipush (-17), 2) := by decide +kernel
theorem dL_moveTarget_10 : decode cL_moveTarget 10 = .ok (.ireturn, 1) := by decide +kernel
theorem dL_gamesWithMove_0 : decode cL_gamesWithMove 0 = .ok (.aload_n 0, 1) := by decide +kernel
theorem dL_gamesWithMove_1 : decode cL_gamesWithMove 1 = .ok (.iload_n 1, 1) := by decide +kernel
theorem dL_gamesWithMove_2 : decode cL_gamesWithMove 2 = .ok (.iload_n 2, 1) := by decide +kernel
theorem dL_gamesWithMove_3 : decode cL_gamesWithMove 3 = .ok (.invokevirtual 82, 3) := by decide +kernel
theorem dL_gamesWithMove_6 : decode cL_gamesWithMove 6 = .ok (.lreturn, 1) := by decide +kernel
theorem dL_gamesWithMove_7 : decode cL_gamesWithMove 7 = .ok (.astore_n 3, 1) := by decide +kernel
theorem dL_gamesWithMove_8 : decode cL_gamesWithMove 8 = .ok (.ldc2_w 73, 3) := by decide +kernel
theorem dL_gamesWithMove_11 : decode cL_gamesWithMove 11 = .ok (.lreturn, 1) := by decide +kernel
theorem dL_gamesIfNoted_0 : decode cL_gamesIfNoted 0 = .ok (.aload_n 0, 1) := by decide +kernel
theorem dL_gamesIfNoted_1 : decode cL_gamesIfNoted 1 = .ok (.iload_n 1, 1) := by decide +kernel
theorem dL_gamesIfNoted_2 : decode cL_gamesIfNoted 2 = .ok (.iload_n 2, 1) := by decide +kernel
theorem dL_gamesIfNoted_3 : decode cL_gamesIfNoted 3 = .ok (.iload_n 3, 1) := by decide +kernel
theorem dL_gamesIfNoted_4 : decode cL_gamesIfNoted 4 = .ok (.iload 4, 2) := by decide +kernel
theorem dL_gamesIfNoted_6 : decode cL_gamesIfNoted 6 = .ok (.iload 5, 2) := by decide +kernel
theorem dL_gamesIfNoted_8 : decode cL_gamesIfNoted 8 = .ok (.iload 6, 2) := by decide +kernel
theorem dL_gamesIfNoted_10 : decode cL_gamesIfNoted 10 = .ok (.invokevirtual 86, 3) := by decide +kernel
theorem dL_gamesIfNoted_13 : decode cL_gamesIfNoted 13 = .ok (.lreturn, 1) := by decide +kernel
theorem dL_gamesIfNoted_14 : decode cL_gamesIfNoted 14 = .ok (.astore 7, 2) := by decide +kernel
theorem dL_gamesIfNoted_16 : decode cL_gamesIfNoted 16 = .ok (.ldc2_w 90, 3) := by decide +kernel
theorem dL_gamesIfNoted_19 : decode cL_gamesIfNoted 19 = .ok (.lreturn, 1) := by decide +kernel
theorem dL_word_0 : decode cL_word 0 = .ok (.iconst 0, 1) := by decide +kernel
theorem dL_word_1 : decode cL_word 1 = .ok (.istore_n 2, 1) := by decide +kernel
theorem dL_word_2 : decode cL_word 2 = .ok (.iload_n 1, 1) := by decide +kernel
theorem dL_word_3 : decode cL_word 3 = .ok (.istore_n 3, 1) := by decide +kernel
theorem dL_word_4 : decode cL_word 4 = .ok (.iload_n 3, 1) := by decide +kernel
theorem dL_word_5 : decode cL_word 5 = .ok (.iload_n 1, 1) := by decide +kernel
theorem dL_word_6 : decode cL_word 6 = .ok (.iconst 4, 1) := by decide +kernel
theorem dL_word_7 : decode cL_word 7 = .ok (.iadd, 1) := by decide +kernel
theorem dL_word_8 : decode cL_word 8 = .ok (.if_icmp .ge 32, 3) := by decide +kernel
theorem dL_word_11 : decode cL_word 11 = .ok (.iload_n 2, 1) := by decide +kernel
theorem dL_word_12 : decode cL_word 12 = .ok (.bipush 8, 2) := by decide +kernel
theorem dL_word_14 : decode cL_word 14 = .ok (.ishl, 1) := by decide +kernel
theorem dL_word_15 : decode cL_word 15 = .ok (.iload_n 3, 1) := by decide +kernel
theorem dL_word_16 : decode cL_word 16 = .ok (.aload_n 0, 1) := by decide +kernel
theorem dL_word_17 : decode cL_word 17 = .ok (.invokevirtual 92, 3) := by decide +kernel
theorem dL_word_20 : decode cL_word 20 = .ok (.if_icmp .ge 11, 3) := by decide +kernel
theorem dL_word_23 : decode cL_word 23 = .ok (.aload_n 0, 1) := by decide +kernel
theorem dL_word_24 : decode cL_word 24 = .ok (.iload_n 3, 1) := by decide +kernel
theorem dL_word_25 : decode cL_word 25 = .ok (.invokevirtual 97, 3) := by decide +kernel
theorem dL_word_28 : decode cL_word 28 = .ok (.goto 4, 3) := by decide +kernel
theorem dL_word_31 : decode cL_word 31 = .ok (.iconst 0, 1) := by decide +kernel
theorem dL_word_32 : decode cL_word 32 = .ok (.ior, 1) := by decide +kernel
theorem dL_word_33 : decode cL_word 33 = .ok (.istore_n 2, 1) := by decide +kernel
theorem dL_word_34 : decode cL_word 34 = .ok (.iinc 3 1, 3) := by decide +kernel
theorem dL_word_37 : decode cL_word 37 = .ok (.goto (-33), 3) := by decide +kernel
theorem dL_word_40 : decode cL_word 40 = .ok (.iload_n 2, 1) := by decide +kernel
theorem dL_word_41 : decode cL_word 41 = .ok (.ireturn, 1) := by decide +kernel
theorem dL_write_0 : decode cL_write 0 = .ok (.aload_n 0, 1) := by decide +kernel
theorem dL_write_1 : decode cL_write 1 = .ok (.iconst 0, 1) := by decide +kernel
theorem dL_write_2 : decode cL_write 2 = .ok (.invokestatic 101, 3) := by decide +kernel
theorem dL_write_5 : decode cL_write 5 = .ok (.ifCond .eq 5, 3) := by decide +kernel
theorem dL_write_8 : decode cL_write 8 = .ok (.iconst 0, 1) := by decide +kernel
theorem dL_write_9 : decode cL_write 9 = .ok (.ireturn, 1) := by decide +kernel
theorem dL_write_10 : decode cL_write 10 = .ok (.iconst 0, 1) := by decide +kernel
theorem dL_write_11 : decode cL_write 11 = .ok (.istore_n 2, 1) := by decide +kernel
theorem dL_write_12 : decode cL_write 12 = .ok (.iload_n 2, 1) := by decide +kernel
theorem dL_write_13 : decode cL_write 13 = .ok (.aload_n 1, 1) := by decide +kernel
theorem dL_write_14 : decode cL_write 14 = .ok (.invokevirtual 92, 3) := by decide +kernel
theorem dL_write_17 : decode cL_write 17 = .ok (.if_icmp .ge 58, 3) := by decide +kernel
theorem dL_write_20 : decode cL_write 20 = .ok (.aload_n 0, 1) := by decide +kernel
theorem dL_write_21 : decode cL_write 21 = .ok (.aload_n 1, 1) := by decide +kernel
theorem dL_write_22 : decode cL_write 22 = .ok (.iload_n 2, 1) := by decide +kernel
theorem dL_write_23 : decode cL_write 23 = .ok (.invokestatic 106, 3) := by decide +kernel
theorem dL_write_26 : decode cL_write 26 = .ok (.aload_n 1, 1) := by decide +kernel
theorem dL_write_27 : decode cL_write 27 = .ok (.iload_n 2, 1) := by decide +kernel
theorem dL_write_28 : decode cL_write 28 = .ok (.iconst 4, 1) := by decide +kernel
theorem dL_write_29 : decode cL_write 29 = .ok (.iadd, 1) := by decide +kernel
theorem dL_write_30 : decode cL_write 30 = .ok (.invokestatic 106, 3) := by decide +kernel
theorem dL_write_33 : decode cL_write 33 = .ok (.aload_n 1, 1) := by decide +kernel
theorem dL_write_34 : decode cL_write 34 = .ok (.iload_n 2, 1) := by decide +kernel
theorem dL_write_35 : decode cL_write 35 = .ok (.bipush 8, 2) := by decide +kernel
theorem dL_write_37 : decode cL_write 37 = .ok (.iadd, 1) := by decide +kernel
theorem dL_write_38 : decode cL_write 38 = .ok (.invokestatic 106, 3) := by decide +kernel
theorem dL_write_41 : decode cL_write 41 = .ok (.aload_n 1, 1) := by decide +kernel
theorem dL_write_42 : decode cL_write 42 = .ok (.iload_n 2, 1) := by decide +kernel
theorem dL_write_43 : decode cL_write 43 = .ok (.bipush 12, 2) := by decide +kernel
theorem dL_write_45 : decode cL_write 45 = .ok (.iadd, 1) := by decide +kernel
theorem dL_write_46 : decode cL_write 46 = .ok (.invokestatic 106, 3) := by decide +kernel
theorem dL_write_49 : decode cL_write 49 = .ok (.aload_n 1, 1) := by decide +kernel
theorem dL_write_50 : decode cL_write 50 = .ok (.iload_n 2, 1) := by decide +kernel
theorem dL_write_51 : decode cL_write 51 = .ok (.bipush 16, 2) := by decide +kernel
theorem dL_write_53 : decode cL_write 53 = .ok (.iadd, 1) := by decide +kernel
theorem dL_write_54 : decode cL_write 54 = .ok (.invokestatic 106, 3) := by decide +kernel
theorem dL_write_57 : decode cL_write 57 = .ok (.invokevirtual 110, 3) := by decide +kernel
theorem dL_write_60 : decode cL_write 60 = .ok (.iload_n 2, 1) := by decide +kernel
theorem dL_write_61 : decode cL_write 61 = .ok (.bipush 20, 2) := by decide +kernel
theorem dL_write_63 : decode cL_write 63 = .ok (.iadd, 1) := by decide +kernel
theorem dL_write_64 : decode cL_write 64 = .ok (.if_icmp .eq 5, 3) := by decide +kernel
theorem dL_write_67 : decode cL_write 67 = .ok (.iconst 0, 1) := by decide +kernel
theorem dL_write_68 : decode cL_write 68 = .ok (.ireturn, 1) := by decide +kernel
theorem dL_write_69 : decode cL_write 69 = .ok (.iinc 2 20, 3) := by decide +kernel
theorem dL_write_72 : decode cL_write 72 = .ok (.goto (-60), 3) := by decide +kernel
theorem dL_write_75 : decode cL_write 75 = .ok (.aload_n 0, 1) := by decide +kernel
theorem dL_write_76 : decode cL_write 76 = .ok (.aload_n 1, 1) := by decide +kernel
theorem dL_write_77 : decode cL_write 77 = .ok (.invokevirtual 92, 3) := by decide +kernel
theorem dL_write_80 : decode cL_write 80 = .ok (.invokestatic 101, 3) := by decide +kernel
theorem dL_write_83 : decode cL_write 83 = .ok (.aload_n 1, 1) := by decide +kernel
theorem dL_write_84 : decode cL_write 84 = .ok (.invokevirtual 92, 3) := by decide +kernel
theorem dL_write_87 : decode cL_write 87 = .ok (.if_icmp .ne 7, 3) := by decide +kernel
theorem dL_write_90 : decode cL_write 90 = .ok (.iconst 1, 1) := by decide +kernel
theorem dL_write_91 : decode cL_write 91 = .ok (.goto 4, 3) := by decide +kernel
theorem dL_write_94 : decode cL_write 94 = .ok (.iconst 0, 1) := by decide +kernel
theorem dL_write_95 : decode cL_write 95 = .ok (.ireturn, 1) := by decide +kernel
theorem dL_draw_0 : decode cL_draw 0 = .ok (.aload_n 0, 1) := by decide +kernel
theorem dL_draw_1 : decode cL_draw 1 = .ok (.iconst 0, 1) := by decide +kernel
theorem dL_draw_2 : decode cL_draw 2 = .ok (.aload_n 0, 1) := by decide +kernel
theorem dL_draw_3 : decode cL_draw 3 = .ok (.iconst 0, 1) := by decide +kernel
theorem dL_draw_4 : decode cL_draw 4 = .ok (.iaload, 1) := by decide +kernel
theorem dL_draw_5 : decode cL_draw 5 = .ok (.ldc 114, 2) := by decide +kernel
theorem dL_draw_7 : decode cL_draw 7 = .ok (.imul, 1) := by decide +kernel
theorem dL_draw_8 : decode cL_draw 8 = .ok (.sipush 12345, 3) := by decide +kernel
theorem dL_draw_11 : decode cL_draw 11 = .ok (.iadd, 1) := by decide +kernel
theorem dL_draw_12 : decode cL_draw 12 = .ok (.iastore, 1) := by decide +kernel
theorem dL_draw_13 : decode cL_draw 13 = .ok (.aload_n 0, 1) := by decide +kernel
theorem dL_draw_14 : decode cL_draw 14 = .ok (.iconst 0, 1) := by decide +kernel
theorem dL_draw_15 : decode cL_draw 15 = .ok (.iaload, 1) := by decide +kernel
theorem dL_draw_16 : decode cL_draw 16 = .ok (.bipush 8, 2) := by decide +kernel
theorem dL_draw_18 : decode cL_draw 18 = .ok (.iushr, 1) := by decide +kernel
theorem dL_draw_19 : decode cL_draw 19 = .ok (.iload_n 1, 1) := by decide +kernel
theorem dL_draw_20 : decode cL_draw 20 = .ok (.irem, 1) := by decide +kernel
theorem dL_draw_21 : decode cL_draw 21 = .ok (.ireturn, 1) := by decide +kernel
theorem dL_isGame_0 : decode cL_isGame 0 = .ok (.lconst 0, 1) := by decide +kernel
theorem dL_isGame_1 : decode cL_isGame 1 = .ok (.lstore_n 1, 1) := by decide +kernel
theorem dL_isGame_2 : decode cL_isGame 2 = .ok (.aload_n 0, 1) := by decide +kernel
theorem dL_isGame_3 : decode cL_isGame 3 = .ok (.invokevirtual 115, 3) := by decide +kernel
theorem dL_isGame_6 : decode cL_isGame 6 = .ok (.istore_n 3, 1) := by decide +kernel
theorem dL_isGame_7 : decode cL_isGame 7 = .ok (.iconst 0, 1) := by decide +kernel
theorem dL_isGame_8 : decode cL_isGame 8 = .ok (.istore 4, 2) := by decide +kernel
theorem dL_isGame_10 : decode cL_isGame 10 = .ok (.iload 4, 2) := by decide +kernel
theorem dL_isGame_12 : decode cL_isGame 12 = .ok (.aload_n 0, 1) := by decide +kernel
theorem dL_isGame_13 : decode cL_isGame 13 = .ok (.iload_n 3, 1) := by decide +kernel
theorem dL_isGame_14 : decode cL_isGame 14 = .ok (.invokestatic 118, 3) := by decide +kernel
theorem dL_isGame_17 : decode cL_isGame 17 = .ok (.if_icmp .ge 189, 3) := by decide +kernel
theorem dL_isGame_20 : decode cL_isGame 20 = .ok (.iconst 0, 1) := by decide +kernel
theorem dL_isGame_21 : decode cL_isGame 21 = .ok (.istore 5, 2) := by decide +kernel
theorem dL_isGame_23 : decode cL_isGame 23 = .ok (.iconst 0, 1) := by decide +kernel
theorem dL_isGame_24 : decode cL_isGame 24 = .ok (.istore 6, 2) := by decide +kernel
theorem dL_isGame_26 : decode cL_isGame 26 = .ok (.iconst 0, 1) := by decide +kernel
theorem dL_isGame_27 : decode cL_isGame 27 = .ok (.istore 7, 2) := by decide +kernel
theorem dL_isGame_29 : decode cL_isGame 29 = .ok (.iconst 0, 1) := by decide +kernel
theorem dL_isGame_30 : decode cL_isGame 30 = .ok (.istore 8, 2) := by decide +kernel
theorem dL_isGame_32 : decode cL_isGame 32 = .ok (.iload 8, 2) := by decide +kernel
theorem dL_isGame_34 : decode cL_isGame 34 = .ok (.aload_n 0, 1) := by decide +kernel
theorem dL_isGame_35 : decode cL_isGame 35 = .ok (.invokevirtual 120, 3) := by decide +kernel
theorem dL_isGame_38 : decode cL_isGame 38 = .ok (.if_icmp .ge 110, 3) := by decide +kernel
theorem dL_isGame_41 : decode cL_isGame 41 = .ok (.iconst 0, 1) := by decide +kernel
theorem dL_isGame_42 : decode cL_isGame 42 = .ok (.istore 9, 2) := by decide +kernel
theorem dL_isGame_44 : decode cL_isGame 44 = .ok (.iload 9, 2) := by decide +kernel
theorem dL_isGame_46 : decode cL_isGame 46 = .ok (.aload_n 0, 1) := by decide +kernel
theorem dL_isGame_47 : decode cL_isGame 47 = .ok (.invokevirtual 123, 3) := by decide +kernel
theorem dL_isGame_50 : decode cL_isGame 50 = .ok (.if_icmp .ge 92, 3) := by decide +kernel
theorem dL_isGame_53 : decode cL_isGame 53 = .ok (.aload_n 0, 1) := by decide +kernel
theorem dL_isGame_54 : decode cL_isGame 54 = .ok (.iload 4, 2) := by decide +kernel
theorem dL_isGame_56 : decode cL_isGame 56 = .ok (.iload 9, 2) := by decide +kernel
theorem dL_isGame_58 : decode cL_isGame 58 = .ok (.iload 8, 2) := by decide +kernel
theorem dL_isGame_60 : decode cL_isGame 60 = .ok (.invokestatic 126, 3) := by decide +kernel
theorem dL_isGame_63 : decode cL_isGame 63 = .ok (.istore 10, 2) := by decide +kernel
theorem dL_isGame_65 : decode cL_isGame 65 = .ok (.iload 10, 2) := by decide +kernel
theorem dL_isGame_67 : decode cL_isGame 67 = .ok (.iconst (-1), 1) := by decide +kernel
theorem dL_isGame_68 : decode cL_isGame 68 = .ok (.if_icmp .ne 7, 3) := by decide +kernel
theorem dL_isGame_71 : decode cL_isGame 71 = .ok (.iconst 1, 1) := by decide +kernel
theorem dL_isGame_72 : decode cL_isGame 72 = .ok (.goto 4, 3) := by decide +kernel
theorem dL_isGame_75 : decode cL_isGame 75 = .ok (.iconst 0, 1) := by decide +kernel
theorem dL_isGame_76 : decode cL_isGame 76 = .ok (.aload_n 0, 1) := by decide +kernel
theorem dL_isGame_77 : decode cL_isGame 77 = .ok (.iload 4, 2) := by decide +kernel
theorem dL_isGame_79 : decode cL_isGame 79 = .ok (.iload 9, 2) := by decide +kernel
theorem dL_isGame_81 : decode cL_isGame 81 = .ok (.iload 8, 2) := by decide +kernel
theorem dL_isGame_83 : decode cL_isGame 83 = .ok (.invokestatic 129, 3) := by decide +kernel
theorem dL_isGame_86 : decode cL_isGame 86 = .ok (.iconst (-1), 1) := by decide +kernel
theorem dL_isGame_87 : decode cL_isGame 87 = .ok (.if_icmp .ne 7, 3) := by decide +kernel
theorem dL_isGame_90 : decode cL_isGame 90 = .ok (.iconst 1, 1) := by decide +kernel
theorem dL_isGame_91 : decode cL_isGame 91 = .ok (.goto 4, 3) := by decide +kernel
theorem dL_isGame_94 : decode cL_isGame 94 = .ok (.iconst 0, 1) := by decide +kernel
theorem dL_isGame_95 : decode cL_isGame 95 = .ok (.if_icmp .eq 5, 3) := by decide +kernel
theorem dL_isGame_98 : decode cL_isGame 98 = .ok (.iconst 0, 1) := by decide +kernel
theorem dL_isGame_99 : decode cL_isGame 99 = .ok (.ireturn, 1) := by decide +kernel
theorem dL_isGame_100 : decode cL_isGame 100 = .ok (.iload 10, 2) := by decide +kernel
theorem dL_isGame_102 : decode cL_isGame 102 = .ok (.ifCond .eq 6, 3) := by decide +kernel
theorem dL_isGame_105 : decode cL_isGame 105 = .ok (.goto 31, 3) := by decide +kernel
theorem dL_isGame_108 : decode cL_isGame 108 = .ok (.iinc 5 1, 3) := by decide +kernel
theorem dL_isGame_111 : decode cL_isGame 111 = .ok (.aload_n 0, 1) := by decide +kernel
theorem dL_isGame_112 : decode cL_isGame 112 = .ok (.iload 4, 2) := by decide +kernel
theorem dL_isGame_114 : decode cL_isGame 114 = .ok (.iload 9, 2) := by decide +kernel
theorem dL_isGame_116 : decode cL_isGame 116 = .ok (.iload 8, 2) := by decide +kernel
theorem dL_isGame_118 : decode cL_isGame 118 = .ok (.invokestatic 129, 3) := by decide +kernel
theorem dL_isGame_121 : decode cL_isGame 121 = .ok (.aload_n 0, 1) := by decide +kernel
theorem dL_isGame_122 : decode cL_isGame 122 = .ok (.invokevirtual 131, 3) := by decide +kernel
theorem dL_isGame_125 : decode cL_isGame 125 = .ok (.if_icmp .eq 11, 3) := by decide +kernel
theorem dL_isGame_128 : decode cL_isGame 128 = .ok (.iload 9, 2) := by decide +kernel
theorem dL_isGame_130 : decode cL_isGame 130 = .ok (.istore 6, 2) := by decide +kernel
theorem dL_isGame_132 : decode cL_isGame 132 = .ok (.iload 8, 2) := by decide +kernel
theorem dL_isGame_134 : decode cL_isGame 134 = .ok (.istore 7, 2) := by decide +kernel
theorem dL_isGame_136 : decode cL_isGame 136 = .ok (.iinc 9 1, 3) := by decide +kernel
theorem dL_isGame_139 : decode cL_isGame 139 = .ok (.goto (-95), 3) := by decide +kernel
theorem dL_isGame_142 : decode cL_isGame 142 = .ok (.iinc 8 1, 3) := by decide +kernel
theorem dL_isGame_145 : decode cL_isGame 145 = .ok (.goto (-113), 3) := by decide +kernel
theorem dL_isGame_148 : decode cL_isGame 148 = .ok (.iload 5, 2) := by decide +kernel
theorem dL_isGame_150 : decode cL_isGame 150 = .ok (.iconst 2, 1) := by decide +kernel
theorem dL_isGame_151 : decode cL_isGame 151 = .ok (.if_icmp .ne 25, 3) := by decide +kernel
theorem dL_isGame_154 : decode cL_isGame 154 = .ok (.iload_n 3, 1) := by decide +kernel
theorem dL_isGame_155 : decode cL_isGame 155 = .ok (.ifCond .le 23, 3) := by decide +kernel
theorem dL_isGame_158 : decode cL_isGame 158 = .ok (.aload_n 0, 1) := by decide +kernel
theorem dL_isGame_159 : decode cL_isGame 159 = .ok (.iload 4, 2) := by decide +kernel
theorem dL_isGame_161 : decode cL_isGame 161 = .ok (.iload 6, 2) := by decide +kernel
theorem dL_isGame_163 : decode cL_isGame 163 = .ok (.iload 7, 2) := by decide +kernel
theorem dL_isGame_165 : decode cL_isGame 165 = .ok (.aload_n 0, 1) := by decide +kernel
theorem dL_isGame_166 : decode cL_isGame 166 = .ok (.invokevirtual 131, 3) := by decide +kernel
theorem dL_isGame_169 : decode cL_isGame 169 = .ok (.invokestatic 134, 3) := by decide +kernel
theorem dL_isGame_172 : decode cL_isGame 172 = .ok (.iconst 1, 1) := by decide +kernel
theorem dL_isGame_173 : decode cL_isGame 173 = .ok (.if_icmp .ne 5, 3) := by decide +kernel
theorem dL_isGame_176 : decode cL_isGame 176 = .ok (.iconst 0, 1) := by decide +kernel
theorem dL_isGame_177 : decode cL_isGame 177 = .ok (.ireturn, 1) := by decide +kernel
theorem dL_isGame_178 : decode cL_isGame 178 = .ok (.aload_n 0, 1) := by decide +kernel
theorem dL_isGame_179 : decode cL_isGame 179 = .ok (.iload 4, 2) := by decide +kernel
theorem dL_isGame_181 : decode cL_isGame 181 = .ok (.invokestatic 137, 3) := by decide +kernel
theorem dL_isGame_184 : decode cL_isGame 184 = .ok (.lconst 1, 1) := by decide +kernel
theorem dL_isGame_185 : decode cL_isGame 185 = .ok (.lcmp, 1) := by decide +kernel
theorem dL_isGame_186 : decode cL_isGame 186 = .ok (.ifCond .ge 5, 3) := by decide +kernel
theorem dL_isGame_189 : decode cL_isGame 189 = .ok (.iconst 0, 1) := by decide +kernel
theorem dL_isGame_190 : decode cL_isGame 190 = .ok (.ireturn, 1) := by decide +kernel
theorem dL_isGame_191 : decode cL_isGame 191 = .ok (.lload_n 1, 1) := by decide +kernel
theorem dL_isGame_192 : decode cL_isGame 192 = .ok (.aload_n 0, 1) := by decide +kernel
theorem dL_isGame_193 : decode cL_isGame 193 = .ok (.iload 4, 2) := by decide +kernel
theorem dL_isGame_195 : decode cL_isGame 195 = .ok (.invokestatic 137, 3) := by decide +kernel
theorem dL_isGame_198 : decode cL_isGame 198 = .ok (.ladd, 1) := by decide +kernel
theorem dL_isGame_199 : decode cL_isGame 199 = .ok (.lstore_n 1, 1) := by decide +kernel
theorem dL_isGame_200 : decode cL_isGame 200 = .ok (.iinc 4 1, 3) := by decide +kernel
theorem dL_isGame_203 : decode cL_isGame 203 = .ok (.goto (-193), 3) := by decide +kernel
theorem dL_isGame_206 : decode cL_isGame 206 = .ok (.lload_n 1, 1) := by decide +kernel
theorem dL_isGame_207 : decode cL_isGame 207 = .ok (.aload_n 0, 1) := by decide +kernel
theorem dL_isGame_208 : decode cL_isGame 208 = .ok (.invokevirtual 140, 3) := by decide +kernel
theorem dL_isGame_211 : decode cL_isGame 211 = .ok (.lcmp, 1) := by decide +kernel
theorem dL_isGame_212 : decode cL_isGame 212 = .ok (.ifCond .ne 21, 3) := by decide +kernel
theorem dL_isGame_215 : decode cL_isGame 215 = .ok (.aload_n 0, 1) := by decide +kernel
theorem dL_isGame_216 : decode cL_isGame 216 = .ok (.invokevirtual 144, 3) := by decide +kernel
theorem dL_isGame_219 : decode cL_isGame 219 = .ok (.lload_n 1, 1) := by decide +kernel
theorem dL_isGame_220 : decode cL_isGame 220 = .ok (.lconst 1, 1) := by decide +kernel
theorem dL_isGame_221 : decode cL_isGame 221 = .ok (.lcmp, 1) := by decide +kernel
theorem dL_isGame_222 : decode cL_isGame 222 = .ok (.ifCond .ne 7, 3) := by decide +kernel
theorem dL_isGame_225 : decode cL_isGame 225 = .ok (.iconst 1, 1) := by decide +kernel
theorem dL_isGame_226 : decode cL_isGame 226 = .ok (.goto 4, 3) := by decide +kernel
theorem dL_isGame_229 : decode cL_isGame 229 = .ok (.iconst 0, 1) := by decide +kernel
theorem dL_isGame_230 : decode cL_isGame 230 = .ok (.if_icmp .eq 5, 3) := by decide +kernel
theorem dL_isGame_233 : decode cL_isGame 233 = .ok (.iconst 0, 1) := by decide +kernel
theorem dL_isGame_234 : decode cL_isGame 234 = .ok (.ireturn, 1) := by decide +kernel
theorem dL_isGame_235 : decode cL_isGame 235 = .ok (.iconst 1, 1) := by decide +kernel
theorem dL_isGame_236 : decode cL_isGame 236 = .ok (.istore 4, 2) := by decide +kernel
theorem dL_isGame_238 : decode cL_isGame 238 = .ok (.iconst (-1), 1) := by decide +kernel
theorem dL_isGame_239 : decode cL_isGame 239 = .ok (.istore 5, 2) := by decide +kernel
theorem dL_isGame_241 : decode cL_isGame 241 = .ok (.iconst 0, 1) := by decide +kernel
theorem dL_isGame_242 : decode cL_isGame 242 = .ok (.istore 6, 2) := by decide +kernel
theorem dL_isGame_244 : decode cL_isGame 244 = .ok (.iload 6, 2) := by decide +kernel
theorem dL_isGame_246 : decode cL_isGame 246 = .ok (.iload_n 3, 1) := by decide +kernel
theorem dL_isGame_247 : decode cL_isGame 247 = .ok (.if_icmp .ge 249, 3) := by decide +kernel
theorem dL_isGame_250 : decode cL_isGame 250 = .ok (.aload_n 0, 1) := by decide +kernel
theorem dL_isGame_251 : decode cL_isGame 251 = .ok (.iload 6, 2) := by decide +kernel
theorem dL_isGame_253 : decode cL_isGame 253 = .ok (.invokestatic 148, 3) := by decide +kernel
theorem dL_isGame_256 : decode cL_isGame 256 = .ok (.istore 7, 2) := by decide +kernel
theorem dL_isGame_258 : decode cL_isGame 258 = .ok (.lconst 0, 1) := by decide +kernel
theorem dL_isGame_259 : decode cL_isGame 259 = .ok (.lstore 8, 2) := by decide +kernel
theorem dL_isGame_261 : decode cL_isGame 261 = .ok (.iconst (-1), 1) := by decide +kernel
theorem dL_isGame_262 : decode cL_isGame 262 = .ok (.istore 10, 2) := by decide +kernel
theorem dL_isGame_264 : decode cL_isGame 264 = .ok (.iconst 0, 1) := by decide +kernel
theorem dL_isGame_265 : decode cL_isGame 265 = .ok (.istore 11, 2) := by decide +kernel
theorem dL_isGame_267 : decode cL_isGame 267 = .ok (.iload 11, 2) := by decide +kernel
theorem dL_isGame_269 : decode cL_isGame 269 = .ok (.iload 7, 2) := by decide +kernel
theorem dL_isGame_271 : decode cL_isGame 271 = .ok (.if_icmp .ge 182, 3) := by decide +kernel
theorem dL_isGame_274 : decode cL_isGame 274 = .ok (.aload_n 0, 1) := by decide +kernel
theorem dL_isGame_275 : decode cL_isGame 275 = .ok (.iload 6, 2) := by decide +kernel
theorem dL_isGame_277 : decode cL_isGame 277 = .ok (.iload 11, 2) := by decide +kernel
theorem dL_isGame_279 : decode cL_isGame 279 = .ok (.invokestatic 150, 3) := by decide +kernel
theorem dL_isGame_282 : decode cL_isGame 282 = .ok (.istore 12, 2) := by decide +kernel
theorem dL_isGame_284 : decode cL_isGame 284 = .ok (.aload_n 0, 1) := by decide +kernel
theorem dL_isGame_285 : decode cL_isGame 285 = .ok (.iload 6, 2) := by decide +kernel
theorem dL_isGame_287 : decode cL_isGame 287 = .ok (.iload 11, 2) := by decide +kernel
theorem dL_isGame_289 : decode cL_isGame 289 = .ok (.invokestatic 153, 3) := by decide +kernel
theorem dL_isGame_292 : decode cL_isGame 292 = .ok (.istore 13, 2) := by decide +kernel
theorem dL_isGame_294 : decode cL_isGame 294 = .ok (.iload 12, 2) := by decide +kernel
theorem dL_isGame_296 : decode cL_isGame 296 = .ok (.bipush 36, 2) := by decide +kernel
theorem dL_isGame_298 : decode cL_isGame 298 = .ok (.imul, 1) := by decide +kernel
theorem dL_isGame_299 : decode cL_isGame 299 = .ok (.iload 13, 2) := by decide +kernel
theorem dL_isGame_301 : decode cL_isGame 301 = .ok (.iadd, 1) := by decide +kernel
theorem dL_isGame_302 : decode cL_isGame 302 = .ok (.iload 10, 2) := by decide +kernel
theorem dL_isGame_304 : decode cL_isGame 304 = .ok (.if_icmp .le 16, 3) := by decide +kernel
theorem dL_isGame_307 : decode cL_isGame 307 = .ok (.aload_n 0, 1) := by decide +kernel
theorem dL_isGame_308 : decode cL_isGame 308 = .ok (.iload 6, 2) := by decide +kernel
theorem dL_isGame_310 : decode cL_isGame 310 = .ok (.iload 11, 2) := by decide +kernel
theorem dL_isGame_312 : decode cL_isGame 312 = .ok (.invokestatic 155, 3) := by decide +kernel
theorem dL_isGame_315 : decode cL_isGame 315 = .ok (.lconst 1, 1) := by decide +kernel
theorem dL_isGame_316 : decode cL_isGame 316 = .ok (.lcmp, 1) := by decide +kernel
theorem dL_isGame_317 : decode cL_isGame 317 = .ok (.ifCond .ge 5, 3) := by decide +kernel
theorem dL_isGame_320 : decode cL_isGame 320 = .ok (.iconst 0, 1) := by decide +kernel
theorem dL_isGame_321 : decode cL_isGame 321 = .ok (.ireturn, 1) := by decide +kernel
theorem dL_isGame_322 : decode cL_isGame 322 = .ok (.iload 12, 2) := by decide +kernel
theorem dL_isGame_324 : decode cL_isGame 324 = .ok (.bipush 36, 2) := by decide +kernel
theorem dL_isGame_326 : decode cL_isGame 326 = .ok (.imul, 1) := by decide +kernel
theorem dL_isGame_327 : decode cL_isGame 327 = .ok (.iload 13, 2) := by decide +kernel
theorem dL_isGame_329 : decode cL_isGame 329 = .ok (.iadd, 1) := by decide +kernel
theorem dL_isGame_330 : decode cL_isGame 330 = .ok (.istore 10, 2) := by decide +kernel
theorem dL_isGame_332 : decode cL_isGame 332 = .ok (.lload 8, 2) := by decide +kernel
theorem dL_isGame_334 : decode cL_isGame 334 = .ok (.aload_n 0, 1) := by decide +kernel
theorem dL_isGame_335 : decode cL_isGame 335 = .ok (.iload 6, 2) := by decide +kernel
theorem dL_isGame_337 : decode cL_isGame 337 = .ok (.iload 11, 2) := by decide +kernel
theorem dL_isGame_339 : decode cL_isGame 339 = .ok (.invokestatic 155, 3) := by decide +kernel
theorem dL_isGame_342 : decode cL_isGame 342 = .ok (.ladd, 1) := by decide +kernel
theorem dL_isGame_343 : decode cL_isGame 343 = .ok (.lstore 8, 2) := by decide +kernel
theorem dL_isGame_345 : decode cL_isGame 345 = .ok (.aload_n 0, 1) := by decide +kernel
theorem dL_isGame_346 : decode cL_isGame 346 = .ok (.iload 6, 2) := by decide +kernel
theorem dL_isGame_348 : decode cL_isGame 348 = .ok (.invokestatic 158, 3) := by decide +kernel
theorem dL_isGame_351 : decode cL_isGame 351 = .ok (.ifCond .lt 19, 3) := by decide +kernel
theorem dL_isGame_354 : decode cL_isGame 354 = .ok (.iload 12, 2) := by decide +kernel
theorem dL_isGame_356 : decode cL_isGame 356 = .ok (.aload_n 0, 1) := by decide +kernel
theorem dL_isGame_357 : decode cL_isGame 357 = .ok (.invokevirtual 123, 3) := by decide +kernel
theorem dL_isGame_360 : decode cL_isGame 360 = .ok (.irem, 1) := by decide +kernel
theorem dL_isGame_361 : decode cL_isGame 361 = .ok (.aload_n 0, 1) := by decide +kernel
theorem dL_isGame_362 : decode cL_isGame 362 = .ok (.iload 6, 2) := by decide +kernel
theorem dL_isGame_364 : decode cL_isGame 364 = .ok (.invokestatic 158, 3) := by decide +kernel
theorem dL_isGame_367 : decode cL_isGame 367 = .ok (.if_icmp .ne 78, 3) := by decide +kernel
theorem dL_isGame_370 : decode cL_isGame 370 = .ok (.aload_n 0, 1) := by decide +kernel
theorem dL_isGame_371 : decode cL_isGame 371 = .ok (.iload 6, 2) := by decide +kernel
theorem dL_isGame_373 : decode cL_isGame 373 = .ok (.invokestatic 160, 3) := by decide +kernel
theorem dL_isGame_376 : decode cL_isGame 376 = .ok (.ifCond .lt 19, 3) := by decide +kernel
theorem dL_isGame_379 : decode cL_isGame 379 = .ok (.iload 12, 2) := by decide +kernel
theorem dL_isGame_381 : decode cL_isGame 381 = .ok (.aload_n 0, 1) := by decide +kernel
theorem dL_isGame_382 : decode cL_isGame 382 = .ok (.invokevirtual 123, 3) := by decide +kernel
theorem dL_isGame_385 : decode cL_isGame 385 = .ok (.idiv, 1) := by decide +kernel
theorem dL_isGame_386 : decode cL_isGame 386 = .ok (.aload_n 0, 1) := by decide +kernel
theorem dL_isGame_387 : decode cL_isGame 387 = .ok (.iload 6, 2) := by decide +kernel
theorem dL_isGame_389 : decode cL_isGame 389 = .ok (.invokestatic 160, 3) := by decide +kernel
theorem dL_isGame_392 : decode cL_isGame 392 = .ok (.if_icmp .ne 53, 3) := by decide +kernel
theorem dL_isGame_395 : decode cL_isGame 395 = .ok (.aload_n 0, 1) := by decide +kernel
theorem dL_isGame_396 : decode cL_isGame 396 = .ok (.iload 6, 2) := by decide +kernel
theorem dL_isGame_398 : decode cL_isGame 398 = .ok (.invokestatic 162, 3) := by decide +kernel
theorem dL_isGame_401 : decode cL_isGame 401 = .ok (.ifCond .lt 19, 3) := by decide +kernel
theorem dL_isGame_404 : decode cL_isGame 404 = .ok (.iload 13, 2) := by decide +kernel
theorem dL_isGame_406 : decode cL_isGame 406 = .ok (.aload_n 0, 1) := by decide +kernel
theorem dL_isGame_407 : decode cL_isGame 407 = .ok (.invokevirtual 123, 3) := by decide +kernel
theorem dL_isGame_410 : decode cL_isGame 410 = .ok (.irem, 1) := by decide +kernel
theorem dL_isGame_411 : decode cL_isGame 411 = .ok (.aload_n 0, 1) := by decide +kernel
theorem dL_isGame_412 : decode cL_isGame 412 = .ok (.iload 6, 2) := by decide +kernel
theorem dL_isGame_414 : decode cL_isGame 414 = .ok (.invokestatic 162, 3) := by decide +kernel
theorem dL_isGame_417 : decode cL_isGame 417 = .ok (.if_icmp .ne 28, 3) := by decide +kernel
theorem dL_isGame_420 : decode cL_isGame 420 = .ok (.aload_n 0, 1) := by decide +kernel
theorem dL_isGame_421 : decode cL_isGame 421 = .ok (.iload 6, 2) := by decide +kernel
theorem dL_isGame_423 : decode cL_isGame 423 = .ok (.invokestatic 164, 3) := by decide +kernel
theorem dL_isGame_426 : decode cL_isGame 426 = .ok (.ifCond .lt 21, 3) := by decide +kernel
theorem dL_isGame_429 : decode cL_isGame 429 = .ok (.iload 13, 2) := by decide +kernel
theorem dL_isGame_431 : decode cL_isGame 431 = .ok (.aload_n 0, 1) := by decide +kernel
theorem dL_isGame_432 : decode cL_isGame 432 = .ok (.invokevirtual 123, 3) := by decide +kernel
theorem dL_isGame_435 : decode cL_isGame 435 = .ok (.idiv, 1) := by decide +kernel
theorem dL_isGame_436 : decode cL_isGame 436 = .ok (.aload_n 0, 1) := by decide +kernel
theorem dL_isGame_437 : decode cL_isGame 437 = .ok (.iload 6, 2) := by decide +kernel
theorem dL_isGame_439 : decode cL_isGame 439 = .ok (.invokestatic 164, 3) := by decide +kernel
theorem dL_isGame_442 : decode cL_isGame 442 = .ok (.if_icmp .eq 5, 3) := by decide +kernel
theorem dL_isGame_445 : decode cL_isGame 445 = .ok (.iconst 0, 1) := by decide +kernel
theorem dL_isGame_446 : decode cL_isGame 446 = .ok (.ireturn, 1) := by decide +kernel
theorem dL_isGame_447 : decode cL_isGame 447 = .ok (.iinc 11 1, 3) := by decide +kernel
theorem dL_isGame_450 : decode cL_isGame 450 = .ok (.goto (-183), 3) := by decide +kernel
theorem dL_isGame_453 : decode cL_isGame 453 = .ok (.lload 8, 2) := by decide +kernel
theorem dL_isGame_455 : decode cL_isGame 455 = .ok (.lload_n 1, 1) := by decide +kernel
theorem dL_isGame_456 : decode cL_isGame 456 = .ok (.lcmp, 1) := by decide +kernel
theorem dL_isGame_457 : decode cL_isGame 457 = .ok (.ifCond .ne 16, 3) := by decide +kernel
theorem dL_isGame_460 : decode cL_isGame 460 = .ok (.aload_n 0, 1) := by decide +kernel
theorem dL_isGame_461 : decode cL_isGame 461 = .ok (.iload 6, 2) := by decide +kernel
theorem dL_isGame_463 : decode cL_isGame 463 = .ok (.iload 7, 2) := by decide +kernel
theorem dL_isGame_465 : decode cL_isGame 465 = .ok (.invokestatic 150, 3) := by decide +kernel
theorem dL_isGame_468 : decode cL_isGame 468 = .ok (.bipush (-17), 2) := by decide +kernel
theorem dL_isGame_470 : decode cL_isGame 470 = .ok (.if_icmp .eq 5, 3) := by decide +kernel
theorem dL_isGame_473 : decode cL_isGame 473 = .ok (.iconst 0, 1) := by decide +kernel
theorem dL_isGame_474 : decode cL_isGame 474 = .ok (.ireturn, 1) := by decide +kernel
theorem dL_isGame_475 : decode cL_isGame 475 = .ok (.iload 7, 2) := by decide +kernel
theorem dL_isGame_477 : decode cL_isGame 477 = .ok (.iload 4, 2) := by decide +kernel
theorem dL_isGame_479 : decode cL_isGame 479 = .ok (.if_icmp .le 11, 3) := by decide +kernel
theorem dL_isGame_482 : decode cL_isGame 482 = .ok (.iload 7, 2) := by decide +kernel
theorem dL_isGame_484 : decode cL_isGame 484 = .ok (.istore 4, 2) := by decide +kernel
theorem dL_isGame_486 : decode cL_isGame 486 = .ok (.iload 6, 2) := by decide +kernel
theorem dL_isGame_488 : decode cL_isGame 488 = .ok (.istore 5, 2) := by decide +kernel
theorem dL_isGame_490 : decode cL_isGame 490 = .ok (.iinc 6 1, 3) := by decide +kernel
theorem dL_isGame_493 : decode cL_isGame 493 = .ok (.goto (-249), 3) := by decide +kernel
theorem dL_isGame_496 : decode cL_isGame 496 = .ok (.aload_n 0, 1) := by decide +kernel
theorem dL_isGame_497 : decode cL_isGame 497 = .ok (.invokevirtual 166, 3) := by decide +kernel
theorem dL_isGame_500 : decode cL_isGame 500 = .ok (.iload 5, 2) := by decide +kernel
theorem dL_isGame_502 : decode cL_isGame 502 = .ok (.if_icmp .ne 14, 3) := by decide +kernel
theorem dL_isGame_505 : decode cL_isGame 505 = .ok (.aload_n 0, 1) := by decide +kernel
theorem dL_isGame_506 : decode cL_isGame 506 = .ok (.invokevirtual 169, 3) := by decide +kernel
theorem dL_isGame_509 : decode cL_isGame 509 = .ok (.ifCond .ne 7, 3) := by decide +kernel
theorem dL_isGame_512 : decode cL_isGame 512 = .ok (.iconst 1, 1) := by decide +kernel
theorem dL_isGame_513 : decode cL_isGame 513 = .ok (.goto 4, 3) := by decide +kernel
theorem dL_isGame_516 : decode cL_isGame 516 = .ok (.iconst 0, 1) := by decide +kernel
theorem dL_isGame_517 : decode cL_isGame 517 = .ok (.ireturn, 1) := by decide +kernel
theorem dL_notes_0 : decode cL_notes 0 = .ok (.aload_n 1, 1) := by decide +kernel
theorem dL_notes_1 : decode cL_notes 1 = .ok (.iconst 3, 1) := by decide +kernel
theorem dL_notes_2 : decode cL_notes 2 = .ok (.invokestatic 172, 3) := by decide +kernel
theorem dL_notes_5 : decode cL_notes 5 = .ok (.ifCond .le 11, 3) := by decide +kernel
theorem dL_notes_8 : decode cL_notes 8 = .ok (.aload_n 1, 1) := by decide +kernel
theorem dL_notes_9 : decode cL_notes 9 = .ok (.iconst 5, 1) := by decide +kernel
theorem dL_notes_10 : decode cL_notes 10 = .ok (.invokestatic 172, 3) := by decide +kernel
theorem dL_notes_13 : decode cL_notes 13 = .ok (.goto 4, 3) := by decide +kernel
theorem dL_notes_16 : decode cL_notes 16 = .ok (.iconst (-1), 1) := by decide +kernel
theorem dL_notes_17 : decode cL_notes 17 = .ok (.istore_n 2, 1) := by decide +kernel
theorem dL_notes_18 : decode cL_notes 18 = .ok (.aload_n 1, 1) := by decide +kernel
theorem dL_notes_19 : decode cL_notes 19 = .ok (.iconst 3, 1) := by decide +kernel
theorem dL_notes_20 : decode cL_notes 20 = .ok (.invokestatic 172, 3) := by decide +kernel
theorem dL_notes_23 : decode cL_notes 23 = .ok (.ifCond .ne 14, 3) := by decide +kernel
theorem dL_notes_26 : decode cL_notes 26 = .ok (.aload_n 1, 1) := by decide +kernel
theorem dL_notes_27 : decode cL_notes 27 = .ok (.aload_n 0, 1) := by decide +kernel
theorem dL_notes_28 : decode cL_notes 28 = .ok (.invokevirtual 123, 3) := by decide +kernel
theorem dL_notes_31 : decode cL_notes 31 = .ok (.invokestatic 172, 3) := by decide +kernel
theorem dL_notes_34 : decode cL_notes 34 = .ok (.goto 4, 3) := by decide +kernel
theorem dL_notes_37 : decode cL_notes 37 = .ok (.iconst (-1), 1) := by decide +kernel
theorem dL_notes_38 : decode cL_notes 38 = .ok (.istore_n 3, 1) := by decide +kernel
theorem dL_notes_39 : decode cL_notes 39 = .ok (.aload_n 1, 1) := by decide +kernel
theorem dL_notes_40 : decode cL_notes 40 = .ok (.iconst 2, 1) := by decide +kernel
theorem dL_notes_41 : decode cL_notes 41 = .ok (.invokestatic 172, 3) := by decide +kernel
theorem dL_notes_44 : decode cL_notes 44 = .ok (.ifCond .ne 14, 3) := by decide +kernel
theorem dL_notes_47 : decode cL_notes 47 = .ok (.aload_n 1, 1) := by decide +kernel
theorem dL_notes_48 : decode cL_notes 48 = .ok (.aload_n 0, 1) := by decide +kernel
theorem dL_notes_49 : decode cL_notes 49 = .ok (.invokevirtual 123, 3) := by decide +kernel
theorem dL_notes_52 : decode cL_notes 52 = .ok (.invokestatic 172, 3) := by decide +kernel
theorem dL_notes_55 : decode cL_notes 55 = .ok (.goto 4, 3) := by decide +kernel
theorem dL_notes_58 : decode cL_notes 58 = .ok (.iconst (-1), 1) := by decide +kernel
theorem dL_notes_59 : decode cL_notes 59 = .ok (.istore 4, 2) := by decide +kernel
theorem dL_notes_61 : decode cL_notes 61 = .ok (.iload 4, 2) := by decide +kernel
theorem dL_notes_63 : decode cL_notes 63 = .ok (.ifCond .lt 14, 3) := by decide +kernel
theorem dL_notes_66 : decode cL_notes 66 = .ok (.aload_n 1, 1) := by decide +kernel
theorem dL_notes_67 : decode cL_notes 67 = .ok (.aload_n 0, 1) := by decide +kernel
theorem dL_notes_68 : decode cL_notes 68 = .ok (.invokevirtual 120, 3) := by decide +kernel
theorem dL_notes_71 : decode cL_notes 71 = .ok (.invokestatic 172, 3) := by decide +kernel
theorem dL_notes_74 : decode cL_notes 74 = .ok (.goto 4, 3) := by decide +kernel
theorem dL_notes_77 : decode cL_notes 77 = .ok (.iconst (-1), 1) := by decide +kernel
theorem dL_notes_78 : decode cL_notes 78 = .ok (.istore 5, 2) := by decide +kernel
theorem dL_notes_80 : decode cL_notes 80 = .ok (.aload_n 1, 1) := by decide +kernel
theorem dL_notes_81 : decode cL_notes 81 = .ok (.bipush 6, 2) := by decide +kernel
theorem dL_notes_83 : decode cL_notes 83 = .ok (.invokestatic 172, 3) := by decide +kernel
theorem dL_notes_86 : decode cL_notes 86 = .ok (.ifCond .ne 7, 3) := by decide +kernel
theorem dL_notes_89 : decode cL_notes 89 = .ok (.iconst 1, 1) := by decide +kernel
theorem dL_notes_90 : decode cL_notes 90 = .ok (.goto 4, 3) := by decide +kernel
theorem dL_notes_93 : decode cL_notes 93 = .ok (.iconst 0, 1) := by decide +kernel
theorem dL_notes_94 : decode cL_notes 94 = .ok (.istore 6, 2) := by decide +kernel
theorem dL_notes_96 : decode cL_notes 96 = .ok (.aload_n 1, 1) := by decide +kernel
theorem dL_notes_97 : decode cL_notes 97 = .ok (.bipush 8, 2) := by decide +kernel
theorem dL_notes_99 : decode cL_notes 99 = .ok (.invokestatic 172, 3) := by decide +kernel
theorem dL_notes_102 : decode cL_notes 102 = .ok (.ifCond .ne 7, 3) := by decide +kernel
theorem dL_notes_105 : decode cL_notes 105 = .ok (.iconst 1, 1) := by decide +kernel
theorem dL_notes_106 : decode cL_notes 106 = .ok (.goto 4, 3) := by decide +kernel
theorem dL_notes_109 : decode cL_notes 109 = .ok (.iconst 0, 1) := by decide +kernel
theorem dL_notes_110 : decode cL_notes 110 = .ok (.istore 7, 2) := by decide +kernel
theorem dL_notes_112 : decode cL_notes 112 = .ok (.aload_n 0, 1) := by decide +kernel
theorem dL_notes_113 : decode cL_notes 113 = .ok (.iload_n 2, 1) := by decide +kernel
theorem dL_notes_114 : decode cL_notes 114 = .ok (.iload_n 3, 1) := by decide +kernel
theorem dL_notes_115 : decode cL_notes 115 = .ok (.iload 4, 2) := by decide +kernel
theorem dL_notes_117 : decode cL_notes 117 = .ok (.iload 5, 2) := by decide +kernel
theorem dL_notes_119 : decode cL_notes 119 = .ok (.iload 6, 2) := by decide +kernel
theorem dL_notes_121 : decode cL_notes 121 = .ok (.iload 7, 2) := by decide +kernel
theorem dL_notes_123 : decode cL_notes 123 = .ok (.invokestatic 176, 3) := by decide +kernel
theorem dL_notes_126 : decode cL_notes 126 = .ok (.lstore 8, 2) := by decide +kernel
theorem dL_notes_128 : decode cL_notes 128 = .ok (.aload_n 0, 1) := by decide +kernel
theorem dL_notes_129 : decode cL_notes 129 = .ok (.iconst (-1), 1) := by decide +kernel
theorem dL_notes_130 : decode cL_notes 130 = .ok (.iload_n 3, 1) := by decide +kernel
theorem dL_notes_131 : decode cL_notes 131 = .ok (.iload 4, 2) := by decide +kernel
theorem dL_notes_133 : decode cL_notes 133 = .ok (.iload 5, 2) := by decide +kernel
theorem dL_notes_135 : decode cL_notes 135 = .ok (.iload 6, 2) := by decide +kernel
theorem dL_notes_137 : decode cL_notes 137 = .ok (.iload 7, 2) := by decide +kernel
theorem dL_notes_139 : decode cL_notes 139 = .ok (.invokestatic 176, 3) := by decide +kernel
theorem dL_notes_142 : decode cL_notes 142 = .ok (.lstore 10, 2) := by decide +kernel
theorem dL_notes_144 : decode cL_notes 144 = .ok (.aload_n 0, 1) := by decide +kernel
theorem dL_notes_145 : decode cL_notes 145 = .ok (.invokevirtual 115, 3) := by decide +kernel
theorem dL_notes_148 : decode cL_notes 148 = .ok (.istore 12, 2) := by decide +kernel
theorem dL_notes_150 : decode cL_notes 150 = .ok (.aload_n 0, 1) := by decide +kernel
theorem dL_notes_151 : decode cL_notes 151 = .ok (.iload 12, 2) := by decide +kernel
theorem dL_notes_153 : decode cL_notes 153 = .ok (.invokestatic 118, 3) := by decide +kernel
theorem dL_notes_156 : decode cL_notes 156 = .ok (.istore 13, 2) := by decide +kernel
theorem dL_notes_158 : decode cL_notes 158 = .ok (.aload_n 0, 1) := by decide +kernel
theorem dL_notes_159 : decode cL_notes 159 = .ok (.iload_n 2, 1) := by decide +kernel
theorem dL_notes_160 : decode cL_notes 160 = .ok (.iload_n 3, 1) := by decide +kernel
theorem dL_notes_161 : decode cL_notes 161 = .ok (.iload 4, 2) := by decide +kernel
theorem dL_notes_163 : decode cL_notes 163 = .ok (.iload 5, 2) := by decide +kernel
theorem dL_notes_165 : decode cL_notes 165 = .ok (.iload 6, 2) := by decide +kernel
theorem dL_notes_167 : decode cL_notes 167 = .ok (.iload 7, 2) := by decide +kernel
theorem dL_notes_169 : decode cL_notes 169 = .ok (.invokestatic 179, 3) := by decide +kernel
theorem dL_notes_172 : decode cL_notes 172 = .ok (.istore 14, 2) := by decide +kernel
theorem dL_notes_174 : decode cL_notes 174 = .ok (.lload 8, 2) := by decide +kernel
theorem dL_notes_176 : decode cL_notes 176 = .ok (.lconst 0, 1) := by decide +kernel
theorem dL_notes_177 : decode cL_notes 177 = .ok (.lcmp, 1) := by decide +kernel
theorem dL_notes_178 : decode cL_notes 178 = .ok (.ifCond .lt 20, 3) := by decide +kernel
theorem dL_notes_181 : decode cL_notes 181 = .ok (.lload 10, 2) := by decide +kernel
theorem dL_notes_183 : decode cL_notes 183 = .ok (.lconst 0, 1) := by decide +kernel
theorem dL_notes_184 : decode cL_notes 184 = .ok (.lcmp, 1) := by decide +kernel
theorem dL_notes_185 : decode cL_notes 185 = .ok (.ifCond .lt 13, 3) := by decide +kernel
theorem dL_notes_188 : decode cL_notes 188 = .ok (.lload 10, 2) := by decide +kernel
theorem dL_notes_190 : decode cL_notes 190 = .ok (.lload 8, 2) := by decide +kernel
theorem dL_notes_192 : decode cL_notes 192 = .ok (.lcmp, 1) := by decide +kernel
theorem dL_notes_193 : decode cL_notes 193 = .ok (.ifCond .ge 5, 3) := by decide +kernel
theorem dL_notes_196 : decode cL_notes 196 = .ok (.iconst 0, 1) := by decide +kernel
theorem dL_notes_197 : decode cL_notes 197 = .ok (.ireturn, 1) := by decide +kernel
theorem dL_notes_198 : decode cL_notes 198 = .ok (.lload 8, 2) := by decide +kernel
theorem dL_notes_200 : decode cL_notes 200 = .ok (.lconst 0, 1) := by decide +kernel
theorem dL_notes_201 : decode cL_notes 201 = .ok (.lcmp, 1) := by decide +kernel
theorem dL_notes_202 : decode cL_notes 202 = .ok (.ifCond .gt 36, 3) := by decide +kernel
theorem dL_notes_205 : decode cL_notes 205 = .ok (.iload 14, 2) := by decide +kernel
theorem dL_notes_207 : decode cL_notes 207 = .ok (.bipush (-19), 2) := by decide +kernel
theorem dL_notes_209 : decode cL_notes 209 = .ok (.if_icmp .ne 27, 3) := by decide +kernel
theorem dL_notes_212 : decode cL_notes 212 = .ok (.aload_n 0, 1) := by decide +kernel
theorem dL_notes_213 : decode cL_notes 213 = .ok (.invokevirtual 115, 3) := by decide +kernel
theorem dL_notes_216 : decode cL_notes 216 = .ok (.iload 12, 2) := by decide +kernel
theorem dL_notes_218 : decode cL_notes 218 = .ok (.if_icmp .ne 18, 3) := by decide +kernel
theorem dL_notes_221 : decode cL_notes 221 = .ok (.aload_n 0, 1) := by decide +kernel
theorem dL_notes_222 : decode cL_notes 222 = .ok (.iload 12, 2) := by decide +kernel
theorem dL_notes_224 : decode cL_notes 224 = .ok (.invokestatic 118, 3) := by decide +kernel
theorem dL_notes_227 : decode cL_notes 227 = .ok (.iload 13, 2) := by decide +kernel
theorem dL_notes_229 : decode cL_notes 229 = .ok (.if_icmp .ne 7, 3) := by decide +kernel
theorem dL_notes_232 : decode cL_notes 232 = .ok (.iconst 1, 1) := by decide +kernel
theorem dL_notes_233 : decode cL_notes 233 = .ok (.goto 4, 3) := by decide +kernel
theorem dL_notes_236 : decode cL_notes 236 = .ok (.iconst 0, 1) := by decide +kernel
theorem dL_notes_237 : decode cL_notes 237 = .ok (.ireturn, 1) := by decide +kernel
theorem dL_notes_238 : decode cL_notes 238 = .ok (.iload 14, 2) := by decide +kernel
theorem dL_notes_240 : decode cL_notes 240 = .ok (.aload_n 0, 1) := by decide +kernel
theorem dL_notes_241 : decode cL_notes 241 = .ok (.iload 12, 2) := by decide +kernel
theorem dL_notes_243 : decode cL_notes 243 = .ok (.iconst 1, 1) := by decide +kernel
theorem dL_notes_244 : decode cL_notes 244 = .ok (.iadd, 1) := by decide +kernel
theorem dL_notes_245 : decode cL_notes 245 = .ok (.invokestatic 118, 3) := by decide +kernel
theorem dL_notes_248 : decode cL_notes 248 = .ok (.if_icmp .ne 67, 3) := by decide +kernel
theorem dL_notes_251 : decode cL_notes 251 = .ok (.aload_n 0, 1) := by decide +kernel
theorem dL_notes_252 : decode cL_notes 252 = .ok (.invokevirtual 115, 3) := by decide +kernel
theorem dL_notes_255 : decode cL_notes 255 = .ok (.iload 12, 2) := by decide +kernel
theorem dL_notes_257 : decode cL_notes 257 = .ok (.iconst 1, 1) := by decide +kernel
theorem dL_notes_258 : decode cL_notes 258 = .ok (.iadd, 1) := by decide +kernel
theorem dL_notes_259 : decode cL_notes 259 = .ok (.if_icmp .ne 56, 3) := by decide +kernel
theorem dL_notes_262 : decode cL_notes 262 = .ok (.aload_n 0, 1) := by decide +kernel
theorem dL_notes_263 : decode cL_notes 263 = .ok (.invokevirtual 140, 3) := by decide +kernel
theorem dL_notes_266 : decode cL_notes 266 = .ok (.lload 8, 2) := by decide +kernel
theorem dL_notes_268 : decode cL_notes 268 = .ok (.lcmp, 1) := by decide +kernel
theorem dL_notes_269 : decode cL_notes 269 = .ok (.ifCond .ne 46, 3) := by decide +kernel
theorem dL_notes_272 : decode cL_notes 272 = .ok (.aload_n 0, 1) := by decide +kernel
theorem dL_notes_273 : decode cL_notes 273 = .ok (.iload 12, 2) := by decide +kernel
theorem dL_notes_275 : decode cL_notes 275 = .ok (.invokestatic 182, 3) := by decide +kernel
theorem dL_notes_278 : decode cL_notes 278 = .ok (.iload_n 2, 1) := by decide +kernel
theorem dL_notes_279 : decode cL_notes 279 = .ok (.if_icmp .ne 36, 3) := by decide +kernel
theorem dL_notes_282 : decode cL_notes 282 = .ok (.aload_n 0, 1) := by decide +kernel
theorem dL_notes_283 : decode cL_notes 283 = .ok (.iload 12, 2) := by decide +kernel
theorem dL_notes_285 : decode cL_notes 285 = .ok (.invokestatic 160, 3) := by decide +kernel
theorem dL_notes_288 : decode cL_notes 288 = .ok (.iconst (-1), 1) := by decide +kernel
theorem dL_notes_289 : decode cL_notes 289 = .ok (.if_icmp .ne 26, 3) := by decide +kernel
theorem dL_notes_292 : decode cL_notes 292 = .ok (.aload_n 0, 1) := by decide +kernel
theorem dL_notes_293 : decode cL_notes 293 = .ok (.iload 12, 2) := by decide +kernel
theorem dL_notes_295 : decode cL_notes 295 = .ok (.invokestatic 184, 3) := by decide +kernel
theorem dL_notes_298 : decode cL_notes 298 = .ok (.iload 6, 2) := by decide +kernel
theorem dL_notes_300 : decode cL_notes 300 = .ok (.ifCond .eq 7, 3) := by decide +kernel
theorem dL_notes_303 : decode cL_notes 303 = .ok (.iconst 1, 1) := by decide +kernel
theorem dL_notes_304 : decode cL_notes 304 = .ok (.goto 4, 3) := by decide +kernel
theorem dL_notes_307 : decode cL_notes 307 = .ok (.iconst 0, 1) := by decide +kernel
theorem dL_notes_308 : decode cL_notes 308 = .ok (.if_icmp .ne 7, 3) := by decide +kernel
theorem dL_notes_311 : decode cL_notes 311 = .ok (.iconst 1, 1) := by decide +kernel
theorem dL_notes_312 : decode cL_notes 312 = .ok (.goto 4, 3) := by decide +kernel
theorem dL_notes_315 : decode cL_notes 315 = .ok (.iconst 0, 1) := by decide +kernel
theorem dL_notes_316 : decode cL_notes 316 = .ok (.ireturn, 1) := by decide +kernel
theorem dL_acts_0 : decode cL_acts 0 = .ok (.aload_n 0, 1) := by decide +kernel
theorem dL_acts_1 : decode cL_acts 1 = .ok (.invokevirtual 115, 3) := by decide +kernel
theorem dL_acts_4 : decode cL_acts 4 = .ok (.istore_n 2, 1) := by decide +kernel
theorem dL_acts_5 : decode cL_acts 5 = .ok (.aload_n 1, 1) := by decide +kernel
theorem dL_acts_6 : decode cL_acts 6 = .ok (.bipush 6, 2) := by decide +kernel
theorem dL_acts_8 : decode cL_acts 8 = .ok (.invokestatic 172, 3) := by decide +kernel
theorem dL_acts_11 : decode cL_acts 11 = .ok (.lookupswitch 165 #[(0, 25), (1, 50)], 25) := by decide +kernel
theorem dL_acts_36 : decode cL_acts 36 = .ok (.aload_n 0, 1) := by decide +kernel
theorem dL_acts_37 : decode cL_acts 37 = .ok (.invokestatic 186, 3) := by decide +kernel
theorem dL_acts_40 : decode cL_acts 40 = .ok (.iload_n 2, 1) := by decide +kernel
theorem dL_acts_41 : decode cL_acts 41 = .ok (.ifCond .ne 8, 3) := by decide +kernel
theorem dL_acts_44 : decode cL_acts 44 = .ok (.bipush (-19), 2) := by decide +kernel
theorem dL_acts_46 : decode cL_acts 46 = .ok (.goto 6, 3) := by decide +kernel
theorem dL_acts_49 : decode cL_acts 49 = .ok (.iload_n 2, 1) := by decide +kernel
theorem dL_acts_50 : decode cL_acts 50 = .ok (.iconst 1, 1) := by decide +kernel
theorem dL_acts_51 : decode cL_acts 51 = .ok (.isub, 1) := by decide +kernel
theorem dL_acts_52 : decode cL_acts 52 = .ok (.if_icmp .ne 7, 3) := by decide +kernel
theorem dL_acts_55 : decode cL_acts 55 = .ok (.iconst 1, 1) := by decide +kernel
theorem dL_acts_56 : decode cL_acts 56 = .ok (.goto 4, 3) := by decide +kernel
theorem dL_acts_59 : decode cL_acts 59 = .ok (.iconst 0, 1) := by decide +kernel
theorem dL_acts_60 : decode cL_acts 60 = .ok (.ireturn, 1) := by decide +kernel
theorem dL_acts_61 : decode cL_acts 61 = .ok (.iload_n 2, 1) := by decide +kernel
theorem dL_acts_62 : decode cL_acts 62 = .ok (.ifCond .ne 21, 3) := by decide +kernel
theorem dL_acts_65 : decode cL_acts 65 = .ok (.aload_n 0, 1) := by decide +kernel
theorem dL_acts_66 : decode cL_acts 66 = .ok (.iconst 0, 1) := by decide +kernel
theorem dL_acts_67 : decode cL_acts 67 = .ok (.iconst 0, 1) := by decide +kernel
theorem dL_acts_68 : decode cL_acts 68 = .ok (.iconst 0, 1) := by decide +kernel
theorem dL_acts_69 : decode cL_acts 69 = .ok (.invokestatic 189, 3) := by decide +kernel
theorem dL_acts_72 : decode cL_acts 72 = .ok (.bipush (-17), 2) := by decide +kernel
theorem dL_acts_74 : decode cL_acts 74 = .ok (.if_icmp .ne 7, 3) := by decide +kernel
theorem dL_acts_77 : decode cL_acts 77 = .ok (.iconst 1, 1) := by decide +kernel
theorem dL_acts_78 : decode cL_acts 78 = .ok (.goto 4, 3) := by decide +kernel
theorem dL_acts_81 : decode cL_acts 81 = .ok (.iconst 0, 1) := by decide +kernel
theorem dL_acts_82 : decode cL_acts 82 = .ok (.ireturn, 1) := by decide +kernel
theorem dL_acts_83 : decode cL_acts 83 = .ok (.aload_n 1, 1) := by decide +kernel
theorem dL_acts_84 : decode cL_acts 84 = .ok (.iload_n 2, 1) := by decide +kernel
theorem dL_acts_85 : decode cL_acts 85 = .ok (.invokestatic 172, 3) := by decide +kernel
theorem dL_acts_88 : decode cL_acts 88 = .ok (.istore_n 3, 1) := by decide +kernel
theorem dL_acts_89 : decode cL_acts 89 = .ok (.aload_n 1, 1) := by decide +kernel
theorem dL_acts_90 : decode cL_acts 90 = .ok (.aload_n 0, 1) := by decide +kernel
theorem dL_acts_91 : decode cL_acts 91 = .ok (.iload_n 3, 1) := by decide +kernel
theorem dL_acts_92 : decode cL_acts 92 = .ok (.invokestatic 148, 3) := by decide +kernel
theorem dL_acts_95 : decode cL_acts 95 = .ok (.invokestatic 172, 3) := by decide +kernel
theorem dL_acts_98 : decode cL_acts 98 = .ok (.istore 4, 2) := by decide +kernel
theorem dL_acts_100 : decode cL_acts 100 = .ok (.aload_n 0, 1) := by decide +kernel
theorem dL_acts_101 : decode cL_acts 101 = .ok (.iload_n 3, 1) := by decide +kernel
theorem dL_acts_102 : decode cL_acts 102 = .ok (.iload 4, 2) := by decide +kernel
theorem dL_acts_104 : decode cL_acts 104 = .ok (.invokestatic 150, 3) := by decide +kernel
theorem dL_acts_107 : decode cL_acts 107 = .ok (.istore 5, 2) := by decide +kernel
theorem dL_acts_109 : decode cL_acts 109 = .ok (.aload_n 0, 1) := by decide +kernel
theorem dL_acts_110 : decode cL_acts 110 = .ok (.iload_n 3, 1) := by decide +kernel
theorem dL_acts_111 : decode cL_acts 111 = .ok (.iload 4, 2) := by decide +kernel
theorem dL_acts_113 : decode cL_acts 113 = .ok (.invokestatic 155, 3) := by decide +kernel
theorem dL_acts_116 : decode cL_acts 116 = .ok (.lstore 6, 2) := by decide +kernel
theorem dL_acts_118 : decode cL_acts 118 = .ok (.aload_n 0, 1) := by decide +kernel
theorem dL_acts_119 : decode cL_acts 119 = .ok (.iload_n 3, 1) := by decide +kernel
theorem dL_acts_120 : decode cL_acts 120 = .ok (.iload 5, 2) := by decide +kernel
theorem dL_acts_122 : decode cL_acts 122 = .ok (.aload_n 0, 1) := by decide +kernel
theorem dL_acts_123 : decode cL_acts 123 = .ok (.invokevirtual 123, 3) := by decide +kernel
theorem dL_acts_126 : decode cL_acts 126 = .ok (.irem, 1) := by decide +kernel
theorem dL_acts_127 : decode cL_acts 127 = .ok (.iload 5, 2) := by decide +kernel
theorem dL_acts_129 : decode cL_acts 129 = .ok (.aload_n 0, 1) := by decide +kernel
theorem dL_acts_130 : decode cL_acts 130 = .ok (.invokevirtual 123, 3) := by decide +kernel
theorem dL_acts_133 : decode cL_acts 133 = .ok (.idiv, 1) := by decide +kernel
theorem dL_acts_134 : decode cL_acts 134 = .ok (.invokestatic 189, 3) := by decide +kernel
theorem dL_acts_137 : decode cL_acts 137 = .ok (.istore 8, 2) := by decide +kernel
theorem dL_acts_139 : decode cL_acts 139 = .ok (.iload 8, 2) := by decide +kernel
theorem dL_acts_141 : decode cL_acts 141 = .ok (.iconst 1, 1) := by decide +kernel
theorem dL_acts_142 : decode cL_acts 142 = .ok (.if_icmp .lt 32, 3) := by decide +kernel
theorem dL_acts_145 : decode cL_acts 145 = .ok (.aload_n 0, 1) := by decide +kernel
theorem dL_acts_146 : decode cL_acts 146 = .ok (.invokevirtual 140, 3) := by decide +kernel
theorem dL_acts_149 : decode cL_acts 149 = .ok (.lload 6, 2) := by decide +kernel
theorem dL_acts_151 : decode cL_acts 151 = .ok (.lcmp, 1) := by decide +kernel
theorem dL_acts_152 : decode cL_acts 152 = .ok (.ifCond .lt 22, 3) := by decide +kernel
theorem dL_acts_155 : decode cL_acts 155 = .ok (.aload_n 0, 1) := by decide +kernel
theorem dL_acts_156 : decode cL_acts 156 = .ok (.iload_n 3, 1) := by decide +kernel
theorem dL_acts_157 : decode cL_acts 157 = .ok (.invokestatic 160, 3) := by decide +kernel
theorem dL_acts_160 : decode cL_acts 160 = .ok (.iload 5, 2) := by decide +kernel
theorem dL_acts_162 : decode cL_acts 162 = .ok (.aload_n 0, 1) := by decide +kernel
theorem dL_acts_163 : decode cL_acts 163 = .ok (.invokevirtual 123, 3) := by decide +kernel
theorem dL_acts_166 : decode cL_acts 166 = .ok (.idiv, 1) := by decide +kernel
theorem dL_acts_167 : decode cL_acts 167 = .ok (.if_icmp .ne 7, 3) := by decide +kernel
theorem dL_acts_170 : decode cL_acts 170 = .ok (.iconst 1, 1) := by decide +kernel
theorem dL_acts_171 : decode cL_acts 171 = .ok (.goto 4, 3) := by decide +kernel
theorem dL_acts_174 : decode cL_acts 174 = .ok (.iconst 0, 1) := by decide +kernel
theorem dL_acts_175 : decode cL_acts 175 = .ok (.ireturn, 1) := by decide +kernel
theorem dL_acts_176 : decode cL_acts 176 = .ok (.aload_n 0, 1) := by decide +kernel
theorem dL_acts_177 : decode cL_acts 177 = .ok (.aload_n 1, 1) := by decide +kernel
theorem dL_acts_178 : decode cL_acts 178 = .ok (.invokestatic 191, 3) := by decide +kernel
theorem dL_acts_181 : decode cL_acts 181 = .ok (.ireturn, 1) := by decide +kernel
theorem dL_law_0 : decode cL_law 0 = .ok (.iconst 0, 1) := by decide +kernel
theorem dL_law_1 : decode cL_law 1 = .ok (.istore_n 1, 1) := by decide +kernel
theorem dL_law_2 : decode cL_law 2 = .ok (.iload_n 1, 1) := by decide +kernel
theorem dL_law_3 : decode cL_law 3 = .ok (.aload_n 0, 1) := by decide +kernel
theorem dL_law_4 : decode cL_law 4 = .ok (.arraylength, 1) := by decide +kernel
theorem dL_law_5 : decode cL_law 5 = .ok (.if_icmp .ge 319, 3) := by decide +kernel
theorem dL_law_8 : decode cL_law 8 = .ok (.iload_n 1, 1) := by decide +kernel
theorem dL_law_9 : decode cL_law 9 = .ok (.iconst 1, 1) := by decide +kernel
theorem dL_law_10 : decode cL_law 10 = .ok (.if_icmp .ge 314, 3) := by decide +kernel
theorem dL_law_13 : decode cL_law 13 = .ok (.iconst 1, 1) := by decide +kernel
theorem dL_law_14 : decode cL_law 14 = .ok (.newarray .int, 2) := by decide +kernel
theorem dL_law_16 : decode cL_law 16 = .ok (.dup, 1) := by decide +kernel
theorem dL_law_17 : decode cL_law 17 = .ok (.iconst 0, 1) := by decide +kernel
theorem dL_law_18 : decode cL_law 18 = .ok (.aload_n 0, 1) := by decide +kernel
theorem dL_law_19 : decode cL_law 19 = .ok (.iload_n 1, 1) := by decide +kernel
theorem dL_law_20 : decode cL_law 20 = .ok (.iaload, 1) := by decide +kernel
theorem dL_law_21 : decode cL_law 21 = .ok (.iastore, 1) := by decide +kernel
theorem dL_law_22 : decode cL_law 22 = .ok (.astore_n 2, 1) := by decide +kernel
theorem dL_law_23 : decode cL_law 23 = .ok (.new 8, 3) := by decide +kernel
theorem dL_law_26 : decode cL_law 26 = .ok (.dup, 1) := by decide +kernel
theorem dL_law_27 : decode cL_law 27 = .ok (.invokespecial 195, 3) := by decide +kernel
theorem dL_law_30 : decode cL_law 30 = .ok (.astore_n 3, 1) := by decide +kernel
theorem dL_law_31 : decode cL_law 31 = .ok (.aload_n 2, 1) := by decide +kernel
theorem dL_law_32 : decode cL_law 32 = .ok (.iconst 2, 1) := by decide +kernel
theorem dL_law_33 : decode cL_law 33 = .ok (.invokestatic 172, 3) := by decide +kernel
theorem dL_law_36 : decode cL_law 36 = .ok (.ifCond .ne 164, 3) := by decide +kernel
theorem dL_law_39 : decode cL_law 39 = .ok (.iconst 5, 1) := by decide +kernel
theorem dL_law_40 : decode cL_law 40 = .ok (.anewarray 93, 3) := by decide +kernel
theorem dL_law_43 : decode cL_law 43 = .ok (.dup, 1) := by decide +kernel
theorem dL_law_44 : decode cL_law 44 = .ok (.iconst 0, 1) := by decide +kernel
theorem dL_law_45 : decode cL_law 45 = .ok (.ldc 196, 2) := by decide +kernel
theorem dL_law_47 : decode cL_law 47 = .ok (.aastore, 1) := by decide +kernel
theorem dL_law_48 : decode cL_law 48 = .ok (.dup, 1) := by decide +kernel
theorem dL_law_49 : decode cL_law 49 = .ok (.iconst 1, 1) := by decide +kernel
theorem dL_law_50 : decode cL_law 50 = .ok (.ldc 198, 2) := by decide +kernel
theorem dL_law_52 : decode cL_law 52 = .ok (.aastore, 1) := by decide +kernel
theorem dL_law_53 : decode cL_law 53 = .ok (.dup, 1) := by decide +kernel
theorem dL_law_54 : decode cL_law 54 = .ok (.iconst 2, 1) := by decide +kernel
theorem dL_law_55 : decode cL_law 55 = .ok (.ldc 200, 2) := by decide +kernel
theorem dL_law_57 : decode cL_law 57 = .ok (.aastore, 1) := by decide +kernel
theorem dL_law_58 : decode cL_law 58 = .ok (.dup, 1) := by decide +kernel
theorem dL_law_59 : decode cL_law 59 = .ok (.iconst 3, 1) := by decide +kernel
theorem dL_law_60 : decode cL_law 60 = .ok (.ldc 202, 2) := by decide +kernel
theorem dL_law_62 : decode cL_law 62 = .ok (.aastore, 1) := by decide +kernel
theorem dL_law_63 : decode cL_law 63 = .ok (.dup, 1) := by decide +kernel
theorem dL_law_64 : decode cL_law 64 = .ok (.iconst 4, 1) := by decide +kernel
theorem dL_law_65 : decode cL_law 65 = .ok (.ldc 204, 2) := by decide +kernel
theorem dL_law_67 : decode cL_law 67 = .ok (.aastore, 1) := by decide +kernel
theorem dL_law_68 : decode cL_law 68 = .ok (.astore 4, 2) := by decide +kernel
theorem dL_law_70 : decode cL_law 70 = .ok (.new 206, 3) := by decide +kernel
theorem dL_law_73 : decode cL_law 73 = .ok (.dup, 1) := by decide +kernel
theorem dL_law_74 : decode cL_law 74 = .ok (.ldc 208, 2) := by decide +kernel
theorem dL_law_76 : decode cL_law 76 = .ok (.invokespecial 210, 3) := by decide +kernel
theorem dL_law_79 : decode cL_law 79 = .ok (.astore 5, 2) := by decide +kernel
theorem dL_law_81 : decode cL_law 81 = .ok (.iconst 0, 1) := by decide +kernel
theorem dL_law_82 : decode cL_law 82 = .ok (.istore 6, 2) := by decide +kernel
theorem dL_law_84 : decode cL_law 84 = .ok (.iload 6, 2) := by decide +kernel
theorem dL_law_86 : decode cL_law 86 = .ok (.iconst 3, 1) := by decide +kernel
theorem dL_law_87 : decode cL_law 87 = .ok (.if_icmp .ge 91, 3) := by decide +kernel
theorem dL_law_90 : decode cL_law 90 = .ok (.aload 5, 2) := by decide +kernel
theorem dL_law_92 : decode cL_law 92 = .ok (.aload_n 2, 1) := by decide +kernel
theorem dL_law_93 : decode cL_law 93 = .ok (.iconst 2, 1) := by decide +kernel
theorem dL_law_94 : decode cL_law 94 = .ok (.invokestatic 172, 3) := by decide +kernel
theorem dL_law_97 : decode cL_law 97 = .ok (.ifCond .ne 8, 3) := by decide +kernel
theorem dL_law_100 : decode cL_law 100 = .ok (.ldc 213, 2) := by decide +kernel
theorem dL_law_102 : decode cL_law 102 = .ok (.goto 5, 3) := by decide +kernel
theorem dL_law_105 : decode cL_law 105 = .ok (.ldc 215, 2) := by decide +kernel
theorem dL_law_107 : decode cL_law 107 = .ok (.invokevirtual 217, 3) := by decide +kernel
theorem dL_law_110 : decode cL_law 110 = .ok (.aload 4, 2) := by decide +kernel
theorem dL_law_112 : decode cL_law 112 = .ok (.iconst 1, 1) := by decide +kernel
theorem dL_law_113 : decode cL_law 113 = .ok (.aload_n 2, 1) := by decide +kernel
theorem dL_law_114 : decode cL_law 114 = .ok (.iconst 4, 1) := by decide +kernel
theorem dL_law_115 : decode cL_law 115 = .ok (.invokestatic 172, 3) := by decide +kernel
theorem dL_law_118 : decode cL_law 118 = .ok (.iadd, 1) := by decide +kernel
theorem dL_law_119 : decode cL_law 119 = .ok (.aaload, 1) := by decide +kernel
theorem dL_law_120 : decode cL_law 120 = .ok (.invokevirtual 217, 3) := by decide +kernel
theorem dL_law_123 : decode cL_law 123 = .ok (.bipush 32, 2) := by decide +kernel
theorem dL_law_125 : decode cL_law 125 = .ok (.invokevirtual 220, 3) := by decide +kernel
theorem dL_law_128 : decode cL_law 128 = .ok (.iload 6, 2) := by decide +kernel
theorem dL_law_130 : decode cL_law 130 = .ok (.iconst 1, 1) := by decide +kernel
theorem dL_law_131 : decode cL_law 131 = .ok (.iadd, 1) := by decide +kernel
theorem dL_law_132 : decode cL_law 132 = .ok (.iconst 3, 1) := by decide +kernel
theorem dL_law_133 : decode cL_law 133 = .ok (.if_icmp .ne 7, 3) := by decide +kernel
theorem dL_law_136 : decode cL_law 136 = .ok (.iconst 1, 1) := by decide +kernel
theorem dL_law_137 : decode cL_law 137 = .ok (.goto 7, 3) := by decide +kernel
theorem dL_law_140 : decode cL_law 140 = .ok (.iload 6, 2) := by decide +kernel
theorem dL_law_142 : decode cL_law 142 = .ok (.iconst 1, 1) := by decide +kernel
theorem dL_law_143 : decode cL_law 143 = .ok (.iadd, 1) := by decide +kernel
theorem dL_law_144 : decode cL_law 144 = .ok (.invokevirtual 223, 3) := by decide +kernel
theorem dL_law_147 : decode cL_law 147 = .ok (.bipush 32, 2) := by decide +kernel
theorem dL_law_149 : decode cL_law 149 = .ok (.invokevirtual 220, 3) := by decide +kernel
theorem dL_law_152 : decode cL_law 152 = .ok (.iload 6, 2) := by decide +kernel
theorem dL_law_154 : decode cL_law 154 = .ok (.iconst 2, 1) := by decide +kernel
theorem dL_law_155 : decode cL_law 155 = .ok (.if_icmp .ne 7, 3) := by decide +kernel
theorem dL_law_158 : decode cL_law 158 = .ok (.iconst 2, 1) := by decide +kernel
theorem dL_law_159 : decode cL_law 159 = .ok (.goto 4, 3) := by decide +kernel
theorem dL_law_162 : decode cL_law 162 = .ok (.iconst 0, 1) := by decide +kernel
theorem dL_law_163 : decode cL_law 163 = .ok (.invokevirtual 223, 3) := by decide +kernel
theorem dL_law_166 : decode cL_law 166 = .ok (.bipush 59, 2) := by decide +kernel
theorem dL_law_168 : decode cL_law 168 = .ok (.invokevirtual 220, 3) := by decide +kernel
theorem dL_law_171 : decode cL_law 171 = .ok (.pop, 1) := by decide +kernel
theorem dL_law_172 : decode cL_law 172 = .ok (.iinc 6 1, 3) := by decide +kernel
theorem dL_law_175 : decode cL_law 175 = .ok (.goto (-91), 3) := by decide +kernel
theorem dL_law_178 : decode cL_law 178 = .ok (.aload_n 3, 1) := by decide +kernel
theorem dL_law_179 : decode cL_law 179 = .ok (.aload 5, 2) := by decide +kernel
theorem dL_law_181 : decode cL_law 181 = .ok (.invokevirtual 226, 3) := by decide +kernel
theorem dL_law_184 : decode cL_law 184 = .ok (.invokestatic 230, 3) := by decide +kernel
theorem dL_law_187 : decode cL_law 187 = .ok (.ifCond .eq 11, 3) := by decide +kernel
theorem dL_law_190 : decode cL_law 190 = .ok (.aload_n 3, 1) := by decide +kernel
theorem dL_law_191 : decode cL_law 191 = .ok (.invokevirtual 234, 3) := by decide +kernel
theorem dL_law_194 : decode cL_law 194 = .ok (.iconst 5, 1) := by decide +kernel
theorem dL_law_195 : decode cL_law 195 = .ok (.if_icmp .eq 5, 3) := by decide +kernel
theorem dL_law_198 : decode cL_law 198 = .ok (.iconst 0, 1) := by decide +kernel
theorem dL_law_199 : decode cL_law 199 = .ok (.ireturn, 1) := by decide +kernel
theorem dL_law_200 : decode cL_law 200 = .ok (.iconst 0, 1) := by decide +kernel
theorem dL_law_201 : decode cL_law 201 = .ok (.istore 4, 2) := by decide +kernel
theorem dL_law_203 : decode cL_law 203 = .ok (.iload 4, 2) := by decide +kernel
theorem dL_law_205 : decode cL_law 205 = .ok (.bipush 9, 2) := by decide +kernel
theorem dL_law_207 : decode cL_law 207 = .ok (.if_icmp .ge 19, 3) := by decide +kernel
theorem dL_law_210 : decode cL_law 210 = .ok (.aload_n 3, 1) := by decide +kernel
theorem dL_law_211 : decode cL_law 211 = .ok (.aload_n 2, 1) := by decide +kernel
theorem dL_law_212 : decode cL_law 212 = .ok (.invokestatic 237, 3) := by decide +kernel
theorem dL_law_215 : decode cL_law 215 = .ok (.ifCond .ne 5, 3) := by decide +kernel
theorem dL_law_218 : decode cL_law 218 = .ok (.iconst 0, 1) := by decide +kernel
theorem dL_law_219 : decode cL_law 219 = .ok (.ireturn, 1) := by decide +kernel
theorem dL_law_220 : decode cL_law 220 = .ok (.iinc 4 1, 3) := by decide +kernel
theorem dL_law_223 : decode cL_law 223 = .ok (.goto (-20), 3) := by decide +kernel
theorem dL_law_226 : decode cL_law 226 = .ok (.aload_n 3, 1) := by decide +kernel
theorem dL_law_227 : decode cL_law 227 = .ok (.invokestatic 240, 3) := by decide +kernel
theorem dL_law_230 : decode cL_law 230 = .ok (.ifCond .ne 5, 3) := by decide +kernel
theorem dL_law_233 : decode cL_law 233 = .ok (.iconst 0, 1) := by decide +kernel
theorem dL_law_234 : decode cL_law 234 = .ok (.ireturn, 1) := by decide +kernel
theorem dL_law_235 : decode cL_law 235 = .ok (.aload_n 3, 1) := by decide +kernel
theorem dL_law_236 : decode cL_law 236 = .ok (.invokevirtual 244, 3) := by decide +kernel
theorem dL_law_239 : decode cL_law 239 = .ok (.istore 4, 2) := by decide +kernel
theorem dL_law_241 : decode cL_law 241 = .ok (.aload_n 3, 1) := by decide +kernel
theorem dL_law_242 : decode cL_law 242 = .ok (.invokevirtual 140, 3) := by decide +kernel
theorem dL_law_245 : decode cL_law 245 = .ok (.lstore 5, 2) := by decide +kernel
theorem dL_law_247 : decode cL_law 247 = .ok (.aload_n 3, 1) := by decide +kernel
theorem dL_law_248 : decode cL_law 248 = .ok (.invokevirtual 115, 3) := by decide +kernel
theorem dL_law_251 : decode cL_law 251 = .ok (.istore 7, 2) := by decide +kernel
theorem dL_law_253 : decode cL_law 253 = .ok (.iload 7, 2) := by decide +kernel
theorem dL_law_255 : decode cL_law 255 = .ok (.ifCond .ne 6, 3) := by decide +kernel
theorem dL_law_258 : decode cL_law 258 = .ok (.goto 60, 3) := by decide +kernel
theorem dL_law_261 : decode cL_law 261 = .ok (.aload_n 3, 1) := by decide +kernel
theorem dL_law_262 : decode cL_law 262 = .ok (.invokestatic 186, 3) := by decide +kernel
theorem dL_law_265 : decode cL_law 265 = .ok (.iload 7, 2) := by decide +kernel
theorem dL_law_267 : decode cL_law 267 = .ok (.iconst 1, 1) := by decide +kernel
theorem dL_law_268 : decode cL_law 268 = .ok (.isub, 1) := by decide +kernel
theorem dL_law_269 : decode cL_law 269 = .ok (.if_icmp .ne 47, 3) := by decide +kernel
theorem dL_law_272 : decode cL_law 272 = .ok (.aload_n 3, 1) := by decide +kernel
theorem dL_law_273 : decode cL_law 273 = .ok (.invokestatic 247, 3) := by decide +kernel
theorem dL_law_276 : decode cL_law 276 = .ok (.bipush 8, 2) := by decide +kernel
theorem dL_law_278 : decode cL_law 278 = .ok (.iload 4, 2) := by decide +kernel
theorem dL_law_280 : decode cL_law 280 = .ok (.iconst 1, 1) := by decide +kernel
theorem dL_law_281 : decode cL_law 281 = .ok (.iadd, 1) := by decide +kernel
theorem dL_law_282 : decode cL_law 282 = .ok (.invokestatic 249, 3) := by decide +kernel
theorem dL_law_285 : decode cL_law 285 = .ok (.iconst 1, 1) := by decide +kernel
theorem dL_law_286 : decode cL_law 286 = .ok (.isub, 1) := by decide +kernel
theorem dL_law_287 : decode cL_law 287 = .ok (.if_icmp .ne 29, 3) := by decide +kernel
theorem dL_law_290 : decode cL_law 290 = .ok (.aload_n 3, 1) := by decide +kernel
theorem dL_law_291 : decode cL_law 291 = .ok (.invokevirtual 140, 3) := by decide +kernel
theorem dL_law_294 : decode cL_law 294 = .ok (.lload 5, 2) := by decide +kernel
theorem dL_law_296 : decode cL_law 296 = .ok (.lcmp, 1) := by decide +kernel
theorem dL_law_297 : decode cL_law 297 = .ok (.ifCond .ne 19, 3) := by decide +kernel
theorem dL_law_300 : decode cL_law 300 = .ok (.aload_n 3, 1) := by decide +kernel
theorem dL_law_301 : decode cL_law 301 = .ok (.invokevirtual 115, 3) := by decide +kernel
theorem dL_law_304 : decode cL_law 304 = .ok (.iload 7, 2) := by decide +kernel
theorem dL_law_306 : decode cL_law 306 = .ok (.if_icmp .ne 10, 3) := by decide +kernel
theorem dL_law_309 : decode cL_law 309 = .ok (.aload_n 3, 1) := by decide +kernel
theorem dL_law_310 : decode cL_law 310 = .ok (.invokestatic 240, 3) := by decide +kernel
theorem dL_law_313 : decode cL_law 313 = .ok (.ifCond .ne 5, 3) := by decide +kernel
theorem dL_law_316 : decode cL_law 316 = .ok (.iconst 0, 1) := by decide +kernel
theorem dL_law_317 : decode cL_law 317 = .ok (.ireturn, 1) := by decide +kernel
theorem dL_law_318 : decode cL_law 318 = .ok (.iinc 1 1, 3) := by decide +kernel
theorem dL_law_321 : decode cL_law 321 = .ok (.goto (-319), 3) := by decide +kernel
theorem dL_law_324 : decode cL_law 324 = .ok (.iconst 1, 1) := by decide +kernel
theorem dL_law_325 : decode cL_law 325 = .ok (.ireturn, 1) := by decide +kernel

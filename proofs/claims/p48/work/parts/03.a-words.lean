theorem wf_J0_38 : Cond.fieldLink RJ0 38 "java/lang/String" "COMPACT_STRINGS" "Z" ∈ WT := wt_in 436 (by decide +kernel) (by decide +kernel)
theorem wf_J0_15 : Cond.fieldLink RJ0 15 "java/lang/String" "coder" "B" ∈ WT := wt_in 950 (by decide +kernel) (by decide +kernel)
theorem wy_X7_0 : u_lay RJ0 TJ0 0 ∈ WT := wt_in 951 (by decide +kernel) (by decide +kernel)
theorem wy_X7_1 : u_lay RJ0 TJ0 1 ∈ WT := wt_in 953 (by decide +kernel) (by decide +kernel)
theorem wy_X7_2 : u_lay RJ0 TJ0 2 ∈ WT := wt_in 955 (by decide +kernel) (by decide +kernel)
theorem wy_X7_3 : u_lay RJ0 TJ0 3 ∈ WT := wt_in 957 (by decide +kernel) (by decide +kernel)
theorem in_X7 : ∀ w ∈ u_ws RJ0 TJ0 4, w ∈ WT := fun w hw => by
  obtain ⟨k, hk, rfl⟩ := List.mem_map.mp hw
  have hk := List.mem_range.mp hk
  rcases (show k = 0 ∨ k = 1 ∨ k = 2 ∨ k = 3 by omega) with rfl | rfl | rfl | rfl
  · exact wy_X7_0
  · exact wy_X7_1
  · exact wy_X7_2
  · exact wy_X7_3
theorem fp_X7 : FP RJ0 TJ0 4 tyJ0 := ⟨tyJ0_ok, nmJ0⟩
theorem fl_J0_15 : FL RJ0 RJ0 TJ0 4 7 1 15 false := ⟨in_X7, rfl, by decide, wf_J0_15, rfl⟩
theorem wf_J0_1053 : Cond.fieldLink RJ0 1053 "jdk/internal/util/Preconditions" "SIOOBE_FORMATTER" "Ljava/util/function/BiFunction;" ∈ WT := wt_in 452 (by decide +kernel) (by decide +kernel)
theorem wm_J0_1059 : Cond.methodLink RJ0 1059 yJ3_checkIndex_8e157 ∈ WT := wt_in 454 (by decide +kernel) (by decide +kernel)
theorem wc_J3_checkIndex_8e157 : Cond.code yJ3_checkIndex_8e157 cJ3_checkIndex_8e157 3 (some .int) ∈ WT := wt_in 456 (by decide +kernel) (by decide +kernel)
theorem hy_J3_checkIndex_8e157 : (yJ3_checkIndex_8e157.cls = RJ3 ∧ yJ3_checkIndex_8e157.cls ≠ "java/lang/invoke/MethodHandle" ∧ yJ3_checkIndex_8e157.cls ≠ "java/lang/invoke/VarHandle" ∧ (parseMethodDescriptor yJ3_checkIndex_8e157.desc).map (fun d => d.parameters.length) = some 3) := by decide +kernel
theorem wn_J3 : Cond.initialized RJ3 ∈ WT := wt_in 51 (by decide +kernel) (by decide +kernel)
theorem wt_J3_checkIndex_8e157 : Cond.static yJ3_checkIndex_8e157 ∈ WT := wt_in 455 (by decide +kernel) (by decide +kernel)
theorem kl_J0_1059 : CLS RJ0 1059 yJ3_checkIndex_8e157 cJ3_checkIndex_8e157 3 (some .int) 3 := ⟨wm_J0_1059, wt_J3_checkIndex_8e157, wn_J3, wc_J3_checkIndex_8e157, hy_J3_checkIndex_8e157.2⟩
theorem wm_J1_9 : Cond.methodLink RJ1 9 yJ0_checkIndex_df160 ∈ WT := wt_in 449 (by decide +kernel) (by decide +kernel)
theorem wc_J0_checkIndex_df160 : Cond.code yJ0_checkIndex_df160 cJ0_checkIndex_df160 2 none ∈ WT := wt_in 451 (by decide +kernel) (by decide +kernel)
theorem hy_J0_checkIndex_df160 : (yJ0_checkIndex_df160.cls = RJ0 ∧ yJ0_checkIndex_df160.cls ≠ "java/lang/invoke/MethodHandle" ∧ yJ0_checkIndex_df160.cls ≠ "java/lang/invoke/VarHandle" ∧ (parseMethodDescriptor yJ0_checkIndex_df160.desc).map (fun d => d.parameters.length) = some 2) := by decide +kernel
theorem wn_J0 : Cond.initialized RJ0 ∈ WT := wt_in 47 (by decide +kernel) (by decide +kernel)
theorem wt_J0_checkIndex_df160 : Cond.static yJ0_checkIndex_df160 ∈ WT := wt_in 450 (by decide +kernel) (by decide +kernel)
theorem kl_J1_9 : CLS RJ1 9 yJ0_checkIndex_df160 cJ0_checkIndex_df160 2 none 2 := ⟨wm_J1_9, wt_J0_checkIndex_df160, wn_J0, wc_J0_checkIndex_df160, hy_J0_checkIndex_df160.2⟩
theorem wm_J0_492 : Cond.methodLink RJ0 492 yJ0_isLatin1_aae02 ∈ WT := wt_in 442 (by decide +kernel) (by decide +kernel)
theorem wc_J0_isLatin1_aae02 : Cond.code yJ0_isLatin1_aae02 cJ0_isLatin1_aae02 1 (some .boolean) ∈ WT := wt_in 445 (by decide +kernel) (by decide +kernel)
theorem hy_J0_isLatin1_aae02 : (yJ0_isLatin1_aae02.cls = RJ0 ∧ yJ0_isLatin1_aae02.cls ≠ "java/lang/invoke/MethodHandle" ∧ yJ0_isLatin1_aae02.cls ≠ "java/lang/invoke/VarHandle" ∧ (parseMethodDescriptor yJ0_isLatin1_aae02.desc).map (fun d => d.parameters.length) = some 0) := by decide +kernel
theorem wi_J0_isLatin1_aae02 : Cond.instanceMethod yJ0_isLatin1_aae02 ∈ WT := wt_in 443 (by decide +kernel) (by decide +kernel)
theorem ws_J0_isLatin1_aae02 : Cond.selects RJ0 yJ0_isLatin1_aae02 yJ0_isLatin1_aae02 ∈ WT := wt_in 444 (by decide +kernel) (by decide +kernel)
theorem kl_J0_492 : CLT RJ0 492 yJ0_isLatin1_aae02 cJ0_isLatin1_aae02 1 (some .boolean) 0 := ⟨wm_J0_492, wi_J0_isLatin1_aae02, ws_J0_isLatin1_aae02, wn_J0, wc_J0_isLatin1_aae02, hy_J0_isLatin1_aae02⟩
theorem wf_J0_9 : Cond.fieldLink RJ0 9 "java/lang/String" "value" "[B" ∈ WT := wt_in 949 (by decide +kernel) (by decide +kernel)
theorem wm_J0_495 : Cond.methodLink RJ0 495 yJ1_charAt_3b067 ∈ WT := wt_in 446 (by decide +kernel) (by decide +kernel)
theorem wc_J1_charAt_3b067 : Cond.code yJ1_charAt_3b067 cJ1_charAt_3b067 2 (some .char) ∈ WT := wt_in 448 (by decide +kernel) (by decide +kernel)
theorem hy_J1_charAt_3b067 : (yJ1_charAt_3b067.cls = RJ1 ∧ yJ1_charAt_3b067.cls ≠ "java/lang/invoke/MethodHandle" ∧ yJ1_charAt_3b067.cls ≠ "java/lang/invoke/VarHandle" ∧ (parseMethodDescriptor yJ1_charAt_3b067.desc).map (fun d => d.parameters.length) = some 2) := by decide +kernel
theorem wn_J1 : Cond.initialized RJ1 ∈ WT := wt_in 52 (by decide +kernel) (by decide +kernel)
theorem wt_J1_charAt_3b067 : Cond.static yJ1_charAt_3b067 ∈ WT := wt_in 447 (by decide +kernel) (by decide +kernel)
theorem kl_J0_495 : CLS RJ0 495 yJ1_charAt_3b067 cJ1_charAt_3b067 2 (some .char) 2 := ⟨wm_J0_495, wt_J1_charAt_3b067, wn_J1, wc_J1_charAt_3b067, hy_J1_charAt_3b067.2⟩
theorem klh_J0_492 : CLV RJ0 RJ0 7 492 yJ0_isLatin1_aae02 cJ0_isLatin1_aae02 1 (some .boolean) 0 := ⟨⟨_, _, rfl⟩, wm_J0_492, wi_J0_isLatin1_aae02, ws_J0_isLatin1_aae02, wn_J0, wc_J0_isLatin1_aae02, hy_J0_isLatin1_aae02⟩
theorem fl_J0_9 : FL RJ0 RJ0 TJ0 4 7 0 9 true := ⟨in_X7, rfl, by decide, wf_J0_9, rfl⟩
theorem wm_J0_335 : Cond.methodLink RJ0 335 yJ0_coder_7d493 ∈ WT := wt_in 432 (by decide +kernel) (by decide +kernel)
theorem wc_J0_coder_7d493 : Cond.code yJ0_coder_7d493 cJ0_coder_7d493 1 (some .byte) ∈ WT := wt_in 435 (by decide +kernel) (by decide +kernel)
theorem hy_J0_coder_7d493 : (yJ0_coder_7d493.cls = RJ0 ∧ yJ0_coder_7d493.cls ≠ "java/lang/invoke/MethodHandle" ∧ yJ0_coder_7d493.cls ≠ "java/lang/invoke/VarHandle" ∧ (parseMethodDescriptor yJ0_coder_7d493.desc).map (fun d => d.parameters.length) = some 0) := by decide +kernel
theorem wi_J0_coder_7d493 : Cond.instanceMethod yJ0_coder_7d493 ∈ WT := wt_in 433 (by decide +kernel) (by decide +kernel)
theorem ws_J0_coder_7d493 : Cond.selects RJ0 yJ0_coder_7d493 yJ0_coder_7d493 ∈ WT := wt_in 434 (by decide +kernel) (by decide +kernel)
theorem kl_J0_335 : CLT RJ0 335 yJ0_coder_7d493 cJ0_coder_7d493 1 (some .byte) 0 := ⟨wm_J0_335, wi_J0_coder_7d493, ws_J0_coder_7d493, wn_J0, wc_J0_coder_7d493, hy_J0_coder_7d493⟩
theorem wm_J0_212 : Cond.methodLink RJ0 212 arraycopyName ∈ WT := wt_in 848 (by decide +kernel) (by decide +kernel)
theorem wy_X8_0 : u_lay RJ4 TJ4 0 ∈ WT := wt_in 749 (by decide +kernel) (by decide +kernel)
theorem wy_X8_1 : u_lay RJ4 TJ4 1 ∈ WT := wt_in 751 (by decide +kernel) (by decide +kernel)
theorem wy_X8_2 : u_lay RJ4 TJ4 2 ∈ WT := wt_in 753 (by decide +kernel) (by decide +kernel)
theorem wy_X8_3 : u_lay RJ4 TJ4 3 ∈ WT := wt_in 755 (by decide +kernel) (by decide +kernel)
theorem in_X8 : ∀ w ∈ u_ws RJ4 TJ4 4, w ∈ WT := fun w hw => by
  obtain ⟨k, hk, rfl⟩ := List.mem_map.mp hw
  have hk := List.mem_range.mp hk
  rcases (show k = 0 ∨ k = 1 ∨ k = 2 ∨ k = 3 by omega) with rfl | rfl | rfl | rfl
  · exact wy_X8_0
  · exact wy_X8_1
  · exact wy_X8_2
  · exact wy_X8_3
theorem fp_X8 : FP RJ4 TJ4 4 tyJ4 := ⟨tyJ4_ok, nmJ4⟩
theorem wf_J5_15 : Cond.fieldLink RJ5 15 (TJ4 0).1 (TJ4 0).2.1 (TJ4 0).2.2.1 ∈ WT := wt_in 745 (by decide +kernel) (by decide +kernel)
theorem fl_J5_15 : FL RJ5 RJ4 TJ4 4 8 0 15 true := ⟨in_X8, rfl, by decide, wf_J5_15, rfl⟩
theorem wf_J5_79 : Cond.fieldLink RJ5 79 (TJ4 3).1 (TJ4 3).2.1 (TJ4 3).2.2.1 ∈ WT := wt_in 748 (by decide +kernel) (by decide +kernel)
theorem fl_J5_79 : FL RJ5 RJ4 TJ4 4 8 3 79 false := ⟨in_X8, rfl, by decide, wf_J5_79, rfl⟩
theorem wm_J4_343 : Cond.methodLink RJ4 343 yJ5_length_8abf5 ∈ WT := wt_in 901 (by decide +kernel) (by decide +kernel)
theorem wz_J5_length_8abf5 : Cond.sameMethod yJ5_length_8abf5.cls yJ5_length_8abf5.cls yJ5_length_8abf5.name yJ5_length_8abf5.desc ∈ WT := wt_in 897 (by decide +kernel) (by decide +kernel)
theorem wsup_J4 : Cond.superclass RJ4 RJ5 ∈ WT := wt_in 757 (by decide +kernel) (by decide +kernel)
theorem wi_J5_length_8abf5 : Cond.instanceMethod yJ5_length_8abf5 ∈ WT := wt_in 896 (by decide +kernel) (by decide +kernel)
theorem wc_J5_length_8abf5 : Cond.code yJ5_length_8abf5 cJ5_length_8abf5 1 (some .int) ∈ WT := wt_in 902 (by decide +kernel) (by decide +kernel)
theorem hy_J5_length_8abf5 : (yJ5_length_8abf5.cls = RJ5 ∧ yJ5_length_8abf5.cls ≠ "java/lang/invoke/MethodHandle" ∧ yJ5_length_8abf5.cls ≠ "java/lang/invoke/VarHandle" ∧ (parseMethodDescriptor yJ5_length_8abf5.desc).map (fun d => d.parameters.length) = some 0) := by decide +kernel
theorem wn_J5 : Cond.initialized RJ5 ∈ WT := wt_in 45 (by decide +kernel) (by decide +kernel)
theorem kl_J4_343 : CLP RJ4 RJ4 8 343 yJ5_length_8abf5 cJ5_length_8abf5 1 (some .int) 0 := ⟨⟨_, _, rfl⟩, wm_J4_343, wz_J5_length_8abf5, wsup_J4, wi_J5_length_8abf5, wn_J5, wc_J5_length_8abf5, ⟨by decide, hy_J5_length_8abf5.2.2.2⟩⟩
theorem wf_J5_18 : Cond.fieldLink RJ5 18 "java/lang/String" "COMPACT_STRINGS" "Z" ∈ WT := wt_in 737 (by decide +kernel) (by decide +kernel)
theorem wf_J5_22 : Cond.fieldLink RJ5 22 (TJ4 1).1 (TJ4 1).2.1 (TJ4 1).2.2.1 ∈ WT := wt_in 746 (by decide +kernel) (by decide +kernel)
theorem fl_J5_22 : FL RJ5 RJ4 TJ4 4 8 1 22 false := ⟨in_X8, rfl, by decide, wf_J5_22, rfl⟩
theorem wm_J7_343 : Cond.methodLink RJ7 343 yJ7_checkLength_df160 ∈ WT := wt_in 910 (by decide +kernel) (by decide +kernel)
theorem wc_J7_checkLength_df160 : Cond.code yJ7_checkLength_df160 cJ7_checkLength_df160 2 none ∈ WT := wt_in 912 (by decide +kernel) (by decide +kernel)
theorem hy_J7_checkLength_df160 : (yJ7_checkLength_df160.cls = RJ7 ∧ yJ7_checkLength_df160.cls ≠ "java/lang/invoke/MethodHandle" ∧ yJ7_checkLength_df160.cls ≠ "java/lang/invoke/VarHandle" ∧ (parseMethodDescriptor yJ7_checkLength_df160.desc).map (fun d => d.parameters.length) = some 2) := by decide +kernel
theorem wn_J7 : Cond.initialized RJ7 ∈ WT := wt_in 43 (by decide +kernel) (by decide +kernel)
theorem wt_J7_checkLength_df160 : Cond.static yJ7_checkLength_df160 ∈ WT := wt_in 911 (by decide +kernel) (by decide +kernel)
theorem kl_J7_343 : CLS RJ7 343 yJ7_checkLength_df160 cJ7_checkLength_df160 2 none 2 := ⟨wm_J7_343, wt_J7_checkLength_df160, wn_J7, wc_J7_checkLength_df160, hy_J7_checkLength_df160.2⟩
theorem wa_2 : Cond.arrayClass (newarray.typeOf .byte) ∈ WT := wt_in 105 (by decide +kernel) (by decide +kernel)
theorem wm_J7_304 : Cond.methodLink RJ7 304 Lib.Math.min.name ∈ WT := wt_in 653 (by decide +kernel) (by decide +kernel)
theorem wm_J7_150 : Cond.methodLink RJ7 150 arraycopyName ∈ WT := wt_in 654 (by decide +kernel) (by decide +kernel)
theorem wm_J7_339 : Cond.methodLink RJ7 339 yJ7_copyOfRangeByte_39247 ∈ WT := wt_in 907 (by decide +kernel) (by decide +kernel)
theorem wc_J7_copyOfRangeByte_39247 : Cond.code yJ7_copyOfRangeByte_39247 cJ7_copyOfRangeByte_39247 5 (some (.array .byte)) ∈ WT := wt_in 909 (by decide +kernel) (by decide +kernel)
theorem hy_J7_copyOfRangeByte_39247 : (yJ7_copyOfRangeByte_39247.cls = RJ7 ∧ yJ7_copyOfRangeByte_39247.cls ≠ "java/lang/invoke/MethodHandle" ∧ yJ7_copyOfRangeByte_39247.cls ≠ "java/lang/invoke/VarHandle" ∧ (parseMethodDescriptor yJ7_copyOfRangeByte_39247.desc).map (fun d => d.parameters.length) = some 3) := by decide +kernel
theorem wt_J7_copyOfRangeByte_39247 : Cond.static yJ7_copyOfRangeByte_39247 ∈ WT := wt_in 908 (by decide +kernel) (by decide +kernel)
theorem kl_J7_339 : CLS RJ7 339 yJ7_copyOfRangeByte_39247 cJ7_copyOfRangeByte_39247 5 (some (.array .byte)) 3 := ⟨wm_J7_339, wt_J7_copyOfRangeByte_39247, wn_J7, wc_J7_copyOfRangeByte_39247, hy_J7_copyOfRangeByte_39247.2⟩
theorem wm_J0_1 : Cond.methodLink RJ0 1 Lib.objectInit ∈ WT := wt_in 889 (by decide +kernel) (by decide +kernel)
theorem wm_J0_552 : Cond.methodLink RJ0 552 yJ5_getValue_6d5f1 ∈ WT := wt_in 890 (by decide +kernel) (by decide +kernel)
theorem wz_J5_getValue_6d5f1 : Cond.sameMethod yJ5_getValue_6d5f1.cls yJ5_getValue_6d5f1.cls yJ5_getValue_6d5f1.name yJ5_getValue_6d5f1.desc ∈ WT := wt_in 892 (by decide +kernel) (by decide +kernel)
theorem ws_J4_J5_getValue_6d5f1 : Cond.selects RJ4 yJ5_getValue_6d5f1 yJ5_getValue_6d5f1 ∈ WT := wt_in 893 (by decide +kernel) (by decide +kernel)
theorem wi_J5_getValue_6d5f1 : Cond.instanceMethod yJ5_getValue_6d5f1 ∈ WT := wt_in 891 (by decide +kernel) (by decide +kernel)
theorem wc_J5_getValue_6d5f1 : Cond.code yJ5_getValue_6d5f1 cJ5_getValue_6d5f1 1 (some (.array .byte)) ∈ WT := wt_in 894 (by decide +kernel) (by decide +kernel)
theorem hy_J5_getValue_6d5f1 : (yJ5_getValue_6d5f1.cls = RJ5 ∧ yJ5_getValue_6d5f1.cls ≠ "java/lang/invoke/MethodHandle" ∧ yJ5_getValue_6d5f1.cls ≠ "java/lang/invoke/VarHandle" ∧ (parseMethodDescriptor yJ5_getValue_6d5f1.desc).map (fun d => d.parameters.length) = some 0) := by decide +kernel
theorem kl_J0_552 : CLU RJ0 RJ4 8 552 yJ5_getValue_6d5f1 yJ5_getValue_6d5f1 cJ5_getValue_6d5f1 1 (some (.array .byte)) 0 := ⟨⟨_, _, rfl⟩, wm_J0_552, wz_J5_getValue_6d5f1, ws_J4_J5_getValue_6d5f1, wi_J5_getValue_6d5f1, ⟨_, _, _, wc_J5_getValue_6d5f1⟩, wi_J5_getValue_6d5f1, wn_J5, wc_J5_getValue_6d5f1, hy_J5_getValue_6d5f1.2⟩
theorem wm_J0_549 : Cond.methodLink RJ0 549 yJ5_length_8abf5 ∈ WT := wt_in 895 (by decide +kernel) (by decide +kernel)
theorem ws_J4_J5_length_8abf5 : Cond.selects RJ4 yJ5_length_8abf5 yJ4_length_8abf5 ∈ WT := wt_in 898 (by decide +kernel) (by decide +kernel)
theorem wi_J4_length_8abf5 : Cond.instanceMethod yJ4_length_8abf5 ∈ WT := wt_in 899 (by decide +kernel) (by decide +kernel)
theorem wc_J4_length_8abf5 : Cond.code yJ4_length_8abf5 cJ4_length_8abf5 1 (some .int) ∈ WT := wt_in 900 (by decide +kernel) (by decide +kernel)
theorem wn_J4 : Cond.initialized RJ4 ∈ WT := wt_in 46 (by decide +kernel) (by decide +kernel)
theorem kl_J0_549 : CLU RJ0 RJ4 8 549 yJ5_length_8abf5 yJ4_length_8abf5 cJ4_length_8abf5 1 (some .int) 0 := ⟨⟨_, _, rfl⟩, wm_J0_549, wz_J5_length_8abf5, ws_J4_J5_length_8abf5, wi_J5_length_8abf5, ⟨_, _, _, wc_J5_length_8abf5⟩, wi_J4_length_8abf5, wn_J4, wc_J4_length_8abf5, hy_J5_length_8abf5.2⟩
theorem wm_J0_1047 : Cond.methodLink RJ0 1047 yJ5_isLatin1_aae02 ∈ WT := wt_in 903 (by decide +kernel) (by decide +kernel)
theorem wz_J5_isLatin1_aae02 : Cond.sameMethod yJ5_isLatin1_aae02.cls yJ5_isLatin1_aae02.cls yJ5_isLatin1_aae02.name yJ5_isLatin1_aae02.desc ∈ WT := wt_in 797 (by decide +kernel) (by decide +kernel)
theorem ws_J4_J5_isLatin1_aae02 : Cond.selects RJ4 yJ5_isLatin1_aae02 yJ5_isLatin1_aae02 ∈ WT := wt_in 798 (by decide +kernel) (by decide +kernel)
theorem wi_J5_isLatin1_aae02 : Cond.instanceMethod yJ5_isLatin1_aae02 ∈ WT := wt_in 796 (by decide +kernel) (by decide +kernel)
theorem wc_J5_isLatin1_aae02 : Cond.code yJ5_isLatin1_aae02 cJ5_isLatin1_aae02 1 (some .boolean) ∈ WT := wt_in 799 (by decide +kernel) (by decide +kernel)
theorem hy_J5_isLatin1_aae02 : (yJ5_isLatin1_aae02.cls = RJ5 ∧ yJ5_isLatin1_aae02.cls ≠ "java/lang/invoke/MethodHandle" ∧ yJ5_isLatin1_aae02.cls ≠ "java/lang/invoke/VarHandle" ∧ (parseMethodDescriptor yJ5_isLatin1_aae02.desc).map (fun d => d.parameters.length) = some 0) := by decide +kernel
theorem kl_J0_1047 : CLU RJ0 RJ4 8 1047 yJ5_isLatin1_aae02 yJ5_isLatin1_aae02 cJ5_isLatin1_aae02 1 (some .boolean) 0 := ⟨⟨_, _, rfl⟩, wm_J0_1047, wz_J5_isLatin1_aae02, ws_J4_J5_isLatin1_aae02, wi_J5_isLatin1_aae02, ⟨_, _, _, wc_J5_isLatin1_aae02⟩, wi_J5_isLatin1_aae02, wn_J5, wc_J5_isLatin1_aae02, hy_J5_isLatin1_aae02.2⟩
theorem wm_J0_54 : Cond.methodLink RJ0 54 yJ7_copyOfRange_39247 ∈ WT := wt_in 904 (by decide +kernel) (by decide +kernel)
theorem wc_J7_copyOfRange_39247 : Cond.code yJ7_copyOfRange_39247 cJ7_copyOfRange_39247 3 (some (.array .byte)) ∈ WT := wt_in 906 (by decide +kernel) (by decide +kernel)
theorem hy_J7_copyOfRange_39247 : (yJ7_copyOfRange_39247.cls = RJ7 ∧ yJ7_copyOfRange_39247.cls ≠ "java/lang/invoke/MethodHandle" ∧ yJ7_copyOfRange_39247.cls ≠ "java/lang/invoke/VarHandle" ∧ (parseMethodDescriptor yJ7_copyOfRange_39247.desc).map (fun d => d.parameters.length) = some 3) := by decide +kernel
theorem wt_J7_copyOfRange_39247 : Cond.static yJ7_copyOfRange_39247 ∈ WT := wt_in 905 (by decide +kernel) (by decide +kernel)
theorem kl_J0_54 : CLS RJ0 54 yJ7_copyOfRange_39247 cJ7_copyOfRange_39247 3 (some (.array .byte)) 3 := ⟨wm_J0_54, wt_J7_copyOfRange_39247, wn_J7, wc_J7_copyOfRange_39247, hy_J7_copyOfRange_39247.2⟩
theorem wf_J0_1048 : Cond.fieldLink RJ0 1048 (TJ4 2).1 (TJ4 2).2.1 (TJ4 2).2.2.1 ∈ WT := wt_in 747 (by decide +kernel) (by decide +kernel)
theorem fl_J0_1048 : FL RJ0 RJ4 TJ4 4 8 2 1048 false := ⟨in_X8, rfl, by decide, wf_J0_1048, rfl⟩
theorem wc_J0_init_db425 : Cond.code yJ0_init_db425 cJ0_init_db425 5 none ∈ WT := wt_in 888 (by decide +kernel) (by decide +kernel)
theorem hy_J0_init_db425 : (yJ0_init_db425.cls = RJ0 ∧ yJ0_init_db425.cls ≠ "java/lang/invoke/MethodHandle" ∧ yJ0_init_db425.cls ≠ "java/lang/invoke/VarHandle" ∧ (parseMethodDescriptor yJ0_init_db425.desc).map (fun d => d.parameters.length) = some 2) := by decide +kernel
theorem wi_J0_init_db425 : Cond.instanceMethod yJ0_init_db425 ∈ WT := wt_in 887 (by decide +kernel) (by decide +kernel)
theorem wm_J0_489 : Cond.methodLink RJ0 489 yJ0_init_db425 ∈ WT := wt_in 886 (by decide +kernel) (by decide +kernel)
theorem kl_J0_489 : CLI RJ0 489 yJ0_init_db425 cJ0_init_db425 5 2 := ⟨Or.inl wm_J0_489, wi_J0_init_db425, wn_J0, wc_J0_init_db425, rfl, hy_J0_init_db425.2⟩
theorem klh_J0_335 : CLV RJ0 RJ0 7 335 yJ0_coder_7d493 cJ0_coder_7d493 1 (some .byte) 0 := ⟨⟨_, _, rfl⟩, wm_J0_335, wi_J0_coder_7d493, ws_J0_coder_7d493, wn_J0, wc_J0_coder_7d493, hy_J0_coder_7d493⟩
theorem wm_J8_194 : Cond.methodLink RJ8 194 Lib.Math.max.name ∈ WT := wt_in 781 (by decide +kernel) (by decide +kernel)
theorem wk_J8_200 : Cond.constant RJ8 200 (2147483639) ∈ WT := wt_in 782 (by decide +kernel) (by decide +kernel)
theorem wm_J5_114 : Cond.methodLink RJ5 114 yJ8_newLength_cabcc ∈ WT := wt_in 778 (by decide +kernel) (by decide +kernel)
theorem wc_J8_newLength_cabcc : Cond.code yJ8_newLength_cabcc cJ8_newLength_cabcc 4 (some .int) ∈ WT := wt_in 780 (by decide +kernel) (by decide +kernel)
theorem hy_J8_newLength_cabcc : (yJ8_newLength_cabcc.cls = RJ8 ∧ yJ8_newLength_cabcc.cls ≠ "java/lang/invoke/MethodHandle" ∧ yJ8_newLength_cabcc.cls ≠ "java/lang/invoke/VarHandle" ∧ (parseMethodDescriptor yJ8_newLength_cabcc.desc).map (fun d => d.parameters.length) = some 3) := by decide +kernel
theorem wn_J8 : Cond.initialized RJ8 ∈ WT := wt_in 49 (by decide +kernel) (by decide +kernel)
theorem wt_J8_newLength_cabcc : Cond.static yJ8_newLength_cabcc ∈ WT := wt_in 779 (by decide +kernel) (by decide +kernel)
theorem kl_J5_114 : CLS RJ5 114 yJ8_newLength_cabcc cJ8_newLength_cabcc 4 (some .int) 3 := ⟨wm_J5_114, wt_J8_newLength_cabcc, wn_J8, wc_J8_newLength_cabcc, hy_J8_newLength_cabcc.2⟩
theorem wk_J5_39 : Cond.constant RJ5 39 (2147483647) ∈ WT := wt_in 786 (by decide +kernel) (by decide +kernel)
theorem wm_J5_104 : Cond.methodLink RJ5 104 yJ5_newCapacity_0f7a4 ∈ WT := wt_in 774 (by decide +kernel) (by decide +kernel)
theorem wz_J5_newCapacity_0f7a4 : Cond.sameMethod yJ5_newCapacity_0f7a4.cls yJ5_newCapacity_0f7a4.cls yJ5_newCapacity_0f7a4.name yJ5_newCapacity_0f7a4.desc ∈ WT := wt_in 1401 (by decide +kernel) (by decide +kernel)
theorem ws_J4_J5_newCapacity_0f7a4 : Cond.selects RJ4 yJ5_newCapacity_0f7a4 yJ5_newCapacity_0f7a4 ∈ WT := wt_pv 0 (by decide +kernel) (by decide +kernel)
theorem wi_J5_newCapacity_0f7a4 : Cond.instanceMethod yJ5_newCapacity_0f7a4 ∈ WT := wt_in 776 (by decide +kernel) (by decide +kernel)
theorem wc_J5_newCapacity_0f7a4 : Cond.code yJ5_newCapacity_0f7a4 cJ5_newCapacity_0f7a4 6 (some .int) ∈ WT := wt_in 777 (by decide +kernel) (by decide +kernel)
theorem hy_J5_newCapacity_0f7a4 : (yJ5_newCapacity_0f7a4.cls = RJ5 ∧ yJ5_newCapacity_0f7a4.cls ≠ "java/lang/invoke/MethodHandle" ∧ yJ5_newCapacity_0f7a4.cls ≠ "java/lang/invoke/VarHandle" ∧ (parseMethodDescriptor yJ5_newCapacity_0f7a4.desc).map (fun d => d.parameters.length) = some 1) := by decide +kernel
theorem kl_J5_104 : CLU RJ5 RJ4 8 104 yJ5_newCapacity_0f7a4 yJ5_newCapacity_0f7a4 cJ5_newCapacity_0f7a4 6 (some .int) 1 := ⟨⟨_, _, rfl⟩, wm_J5_104, wz_J5_newCapacity_0f7a4, ws_J4_J5_newCapacity_0f7a4, wi_J5_newCapacity_0f7a4, ⟨_, _, _, wc_J5_newCapacity_0f7a4⟩, wi_J5_newCapacity_0f7a4, wn_J5, wc_J5_newCapacity_0f7a4, hy_J5_newCapacity_0f7a4.2⟩
theorem wm_J5_108 : Cond.methodLink RJ5 108 yJ7_copyOf_9075b ∈ WT := wt_in 787 (by decide +kernel) (by decide +kernel)
theorem wc_J7_copyOf_9075b : Cond.code yJ7_copyOf_9075b cJ7_copyOf_9075b 3 (some (.array .byte)) ∈ WT := wt_in 789 (by decide +kernel) (by decide +kernel)
theorem hy_J7_copyOf_9075b : (yJ7_copyOf_9075b.cls = RJ7 ∧ yJ7_copyOf_9075b.cls ≠ "java/lang/invoke/MethodHandle" ∧ yJ7_copyOf_9075b.cls ≠ "java/lang/invoke/VarHandle" ∧ (parseMethodDescriptor yJ7_copyOf_9075b.desc).map (fun d => d.parameters.length) = some 2) := by decide +kernel
theorem wt_J7_copyOf_9075b : Cond.static yJ7_copyOf_9075b ∈ WT := wt_in 788 (by decide +kernel) (by decide +kernel)
theorem kl_J5_108 : CLS RJ5 108 yJ7_copyOf_9075b cJ7_copyOf_9075b 3 (some (.array .byte)) 2 := ⟨wm_J5_108, wt_J7_copyOf_9075b, wn_J7, wc_J7_copyOf_9075b, hy_J7_copyOf_9075b.2⟩
theorem wm_J5_40 : Cond.methodLink RJ5 40 yJ0_coder_7d493 ∈ WT := wt_in 824 (by decide +kernel) (by decide +kernel)
theorem kl_J5_40 : CLT RJ5 40 yJ0_coder_7d493 cJ0_coder_7d493 1 (some .byte) 0 := ⟨wm_J5_40, wi_J0_coder_7d493, ws_J0_coder_7d493, wn_J0, wc_J0_coder_7d493, hy_J0_coder_7d493⟩
theorem wm_J5_397 : Cond.methodLink RJ5 397 yJ5_inflateIfNeededFor_a7421 ∈ WT := wt_in 820 (by decide +kernel) (by decide +kernel)
theorem wz_J5_inflateIfNeededFor_a7421 : Cond.sameMethod yJ5_inflateIfNeededFor_a7421.cls yJ5_inflateIfNeededFor_a7421.cls yJ5_inflateIfNeededFor_a7421.name yJ5_inflateIfNeededFor_a7421.desc ∈ WT := wt_in 1403 (by decide +kernel) (by decide +kernel)
theorem ws_J4_J5_inflateIfNeededFor_a7421 : Cond.selects RJ4 yJ5_inflateIfNeededFor_a7421 yJ5_inflateIfNeededFor_a7421 ∈ WT := wt_pv 1 (by decide +kernel) (by decide +kernel)
theorem wi_J5_inflateIfNeededFor_a7421 : Cond.instanceMethod yJ5_inflateIfNeededFor_a7421 ∈ WT := wt_in 822 (by decide +kernel) (by decide +kernel)
theorem wc_J5_inflateIfNeededFor_a7421 : Cond.code yJ5_inflateIfNeededFor_a7421 cJ5_inflateIfNeededFor_a7421 2 none ∈ WT := wt_in 823 (by decide +kernel) (by decide +kernel)
theorem hy_J5_inflateIfNeededFor_a7421 : (yJ5_inflateIfNeededFor_a7421.cls = RJ5 ∧ yJ5_inflateIfNeededFor_a7421.cls ≠ "java/lang/invoke/MethodHandle" ∧ yJ5_inflateIfNeededFor_a7421.cls ≠ "java/lang/invoke/VarHandle" ∧ (parseMethodDescriptor yJ5_inflateIfNeededFor_a7421.desc).map (fun d => d.parameters.length) = some 1) := by decide +kernel
theorem kl_J5_397 : CLU RJ5 RJ4 8 397 yJ5_inflateIfNeededFor_a7421 yJ5_inflateIfNeededFor_a7421 cJ5_inflateIfNeededFor_a7421 2 none 1 := ⟨⟨_, _, rfl⟩, wm_J5_397, wz_J5_inflateIfNeededFor_a7421, ws_J4_J5_inflateIfNeededFor_a7421, wi_J5_inflateIfNeededFor_a7421, ⟨_, _, _, wc_J5_inflateIfNeededFor_a7421⟩, wi_J5_inflateIfNeededFor_a7421, wn_J5, wc_J5_inflateIfNeededFor_a7421, hy_J5_inflateIfNeededFor_a7421.2⟩
theorem wm_J5_399 : Cond.methodLink RJ5 399 yJ0_getBytes_840e7 ∈ WT := wt_in 844 (by decide +kernel) (by decide +kernel)
theorem wc_J0_getBytes_840e7 : Cond.code yJ0_getBytes_840e7 cJ0_getBytes_840e7 4 none ∈ WT := wt_in 847 (by decide +kernel) (by decide +kernel)
theorem hy_J0_getBytes_840e7 : (yJ0_getBytes_840e7.cls = RJ0 ∧ yJ0_getBytes_840e7.cls ≠ "java/lang/invoke/MethodHandle" ∧ yJ0_getBytes_840e7.cls ≠ "java/lang/invoke/VarHandle" ∧ (parseMethodDescriptor yJ0_getBytes_840e7.desc).map (fun d => d.parameters.length) = some 3) := by decide +kernel
theorem wi_J0_getBytes_840e7 : Cond.instanceMethod yJ0_getBytes_840e7 ∈ WT := wt_in 845 (by decide +kernel) (by decide +kernel)
theorem ws_J0_getBytes_840e7 : Cond.selects RJ0 yJ0_getBytes_840e7 yJ0_getBytes_840e7 ∈ WT := wt_in 846 (by decide +kernel) (by decide +kernel)
theorem kl_J5_399 : CLT RJ5 399 yJ0_getBytes_840e7 cJ0_getBytes_840e7 4 none 3 := ⟨wm_J5_399, wi_J0_getBytes_840e7, ws_J0_getBytes_840e7, wn_J0, wc_J0_getBytes_840e7, hy_J0_getBytes_840e7⟩
theorem wm_J5_32 : Cond.methodLink RJ5 32 yJ0_length_8abf5 ∈ WT := wt_in 815 (by decide +kernel) (by decide +kernel)
theorem wc_J0_length_8abf5 : Cond.code yJ0_length_8abf5 cJ0_length_8abf5 1 (some .int) ∈ WT := wt_in 431 (by decide +kernel) (by decide +kernel)
theorem hy_J0_length_8abf5 : (yJ0_length_8abf5.cls = RJ0 ∧ yJ0_length_8abf5.cls ≠ "java/lang/invoke/MethodHandle" ∧ yJ0_length_8abf5.cls ≠ "java/lang/invoke/VarHandle" ∧ (parseMethodDescriptor yJ0_length_8abf5.desc).map (fun d => d.parameters.length) = some 0) := by decide +kernel
theorem wi_J0_length_8abf5 : Cond.instanceMethod yJ0_length_8abf5 ∈ WT := wt_in 429 (by decide +kernel) (by decide +kernel)
theorem ws_J0_length_8abf5 : Cond.selects RJ0 yJ0_length_8abf5 yJ0_length_8abf5 ∈ WT := wt_in 430 (by decide +kernel) (by decide +kernel)
theorem kl_J5_32 : CLT RJ5 32 yJ0_length_8abf5 cJ0_length_8abf5 1 (some .int) 0 := ⟨wm_J5_32, wi_J0_length_8abf5, ws_J0_length_8abf5, wn_J0, wc_J0_length_8abf5, hy_J0_length_8abf5⟩
theorem wm_J5_100 : Cond.methodLink RJ5 100 yJ5_ensureCapacityInternal_d00df ∈ WT := wt_in 770 (by decide +kernel) (by decide +kernel)
theorem wz_J5_ensureCapacityInternal_d00df : Cond.sameMethod yJ5_ensureCapacityInternal_d00df.cls yJ5_ensureCapacityInternal_d00df.cls yJ5_ensureCapacityInternal_d00df.name yJ5_ensureCapacityInternal_d00df.desc ∈ WT := wt_in 1400 (by decide +kernel) (by decide +kernel)
theorem ws_J4_J5_ensureCapacityInternal_d00df : Cond.selects RJ4 yJ5_ensureCapacityInternal_d00df yJ5_ensureCapacityInternal_d00df ∈ WT := wt_pv 2 (by decide +kernel) (by decide +kernel)
theorem wi_J5_ensureCapacityInternal_d00df : Cond.instanceMethod yJ5_ensureCapacityInternal_d00df ∈ WT := wt_in 772 (by decide +kernel) (by decide +kernel)
theorem wc_J5_ensureCapacityInternal_d00df : Cond.code yJ5_ensureCapacityInternal_d00df cJ5_ensureCapacityInternal_d00df 3 none ∈ WT := wt_in 773 (by decide +kernel) (by decide +kernel)
theorem hy_J5_ensureCapacityInternal_d00df : (yJ5_ensureCapacityInternal_d00df.cls = RJ5 ∧ yJ5_ensureCapacityInternal_d00df.cls ≠ "java/lang/invoke/MethodHandle" ∧ yJ5_ensureCapacityInternal_d00df.cls ≠ "java/lang/invoke/VarHandle" ∧ (parseMethodDescriptor yJ5_ensureCapacityInternal_d00df.desc).map (fun d => d.parameters.length) = some 1) := by decide +kernel
theorem kl_J5_100 : CLU RJ5 RJ4 8 100 yJ5_ensureCapacityInternal_d00df yJ5_ensureCapacityInternal_d00df cJ5_ensureCapacityInternal_d00df 3 none 1 := ⟨⟨_, _, rfl⟩, wm_J5_100, wz_J5_ensureCapacityInternal_d00df, ws_J4_J5_ensureCapacityInternal_d00df, wi_J5_ensureCapacityInternal_d00df, ⟨_, _, _, wc_J5_ensureCapacityInternal_d00df⟩, wi_J5_ensureCapacityInternal_d00df, wn_J5, wc_J5_ensureCapacityInternal_d00df, hy_J5_ensureCapacityInternal_d00df.2⟩
theorem wm_J5_208 : Cond.methodLink RJ5 208 yJ5_putStringAt_47b60 ∈ WT := wt_in 816 (by decide +kernel) (by decide +kernel)
theorem wz_J5_putStringAt_47b60 : Cond.sameMethod yJ5_putStringAt_47b60.cls yJ5_putStringAt_47b60.cls yJ5_putStringAt_47b60.name yJ5_putStringAt_47b60.desc ∈ WT := wt_in 1402 (by decide +kernel) (by decide +kernel)
theorem ws_J4_J5_putStringAt_47b60 : Cond.selects RJ4 yJ5_putStringAt_47b60 yJ5_putStringAt_47b60 ∈ WT := wt_pv 3 (by decide +kernel) (by decide +kernel)
theorem wi_J5_putStringAt_47b60 : Cond.instanceMethod yJ5_putStringAt_47b60 ∈ WT := wt_in 818 (by decide +kernel) (by decide +kernel)
theorem wc_J5_putStringAt_47b60 : Cond.code yJ5_putStringAt_47b60 cJ5_putStringAt_47b60 3 none ∈ WT := wt_in 819 (by decide +kernel) (by decide +kernel)
theorem hy_J5_putStringAt_47b60 : (yJ5_putStringAt_47b60.cls = RJ5 ∧ yJ5_putStringAt_47b60.cls ≠ "java/lang/invoke/MethodHandle" ∧ yJ5_putStringAt_47b60.cls ≠ "java/lang/invoke/VarHandle" ∧ (parseMethodDescriptor yJ5_putStringAt_47b60.desc).map (fun d => d.parameters.length) = some 2) := by decide +kernel
theorem kl_J5_208 : CLU RJ5 RJ4 8 208 yJ5_putStringAt_47b60 yJ5_putStringAt_47b60 cJ5_putStringAt_47b60 3 none 2 := ⟨⟨_, _, rfl⟩, wm_J5_208, wz_J5_putStringAt_47b60, ws_J4_J5_putStringAt_47b60, wi_J5_putStringAt_47b60, ⟨_, _, _, wc_J5_putStringAt_47b60⟩, wi_J5_putStringAt_47b60, wn_J5, wc_J5_putStringAt_47b60, hy_J5_putStringAt_47b60.2⟩
theorem wm_J4_29 : Cond.methodLink RJ4 29 yJ5_append_cf1ce ∈ WT := wt_in 763 (by decide +kernel) (by decide +kernel)
theorem wz_J5_append_cf1ce : Cond.sameMethod yJ5_append_cf1ce.cls yJ5_append_cf1ce.cls yJ5_append_cf1ce.name yJ5_append_cf1ce.desc ∈ WT := wt_in 1398 (by decide +kernel) (by decide +kernel)
theorem wi_J5_append_cf1ce : Cond.instanceMethod yJ5_append_cf1ce ∈ WT := wt_in 764 (by decide +kernel) (by decide +kernel)
theorem wc_J5_append_cf1ce : Cond.code yJ5_append_cf1ce cJ5_append_cf1ce 3 (some (.object "java/lang/AbstractStringBuilder")) ∈ WT := wt_in 765 (by decide +kernel) (by decide +kernel)
theorem hy_J5_append_cf1ce : (yJ5_append_cf1ce.cls = RJ5 ∧ yJ5_append_cf1ce.cls ≠ "java/lang/invoke/MethodHandle" ∧ yJ5_append_cf1ce.cls ≠ "java/lang/invoke/VarHandle" ∧ (parseMethodDescriptor yJ5_append_cf1ce.desc).map (fun d => d.parameters.length) = some 1) := by decide +kernel
theorem kl_J4_29 : CLP RJ4 RJ4 8 29 yJ5_append_cf1ce cJ5_append_cf1ce 3 (some (.object "java/lang/AbstractStringBuilder")) 1 := ⟨⟨_, _, rfl⟩, wm_J4_29, wz_J5_append_cf1ce, wsup_J4, wi_J5_append_cf1ce, wn_J5, wc_J5_append_cf1ce, ⟨by decide, hy_J5_append_cf1ce.2.2.2⟩⟩
theorem wg_J6_83 : Cond.fieldLink RJ6 83 (tabN 0).1 (tabN 0).2.1 (tabN 0).2.2.1 ∈ WT := wt_in 863 (by decide +kernel) (by decide +kernel)
theorem wm_J5_245 : Cond.methodLink RJ5 245 yJ6_stringSize_0f7a4 ∈ WT := wt_in 857 (by decide +kernel) (by decide +kernel)
theorem wc_J6_stringSize_0f7a4 : Cond.code yJ6_stringSize_0f7a4 cJ6_stringSize_0f7a4 4 (some .int) ∈ WT := wt_in 859 (by decide +kernel) (by decide +kernel)
theorem hy_J6_stringSize_0f7a4 : (yJ6_stringSize_0f7a4.cls = RJ6 ∧ yJ6_stringSize_0f7a4.cls ≠ "java/lang/invoke/MethodHandle" ∧ yJ6_stringSize_0f7a4.cls ≠ "java/lang/invoke/VarHandle" ∧ (parseMethodDescriptor yJ6_stringSize_0f7a4.desc).map (fun d => d.parameters.length) = some 1) := by decide +kernel
theorem wn_J6 : Cond.initialized RJ6 ∈ WT := wt_in 54 (by decide +kernel) (by decide +kernel)
theorem wt_J6_stringSize_0f7a4 : Cond.static yJ6_stringSize_0f7a4 ∈ WT := wt_in 858 (by decide +kernel) (by decide +kernel)
theorem kl_J5_245 : CLS RJ5 245 yJ6_stringSize_0f7a4 cJ6_stringSize_0f7a4 4 (some .int) 1 := ⟨wm_J5_245, wt_J6_stringSize_0f7a4, wn_J6, wc_J6_stringSize_0f7a4, hy_J6_stringSize_0f7a4.2⟩
theorem wm_J5_83 : Cond.methodLink RJ5 83 yJ5_isLatin1_aae02 ∈ WT := wt_in 795 (by decide +kernel) (by decide +kernel)
theorem kl_J5_83 : CLU RJ5 RJ4 8 83 yJ5_isLatin1_aae02 yJ5_isLatin1_aae02 cJ5_isLatin1_aae02 1 (some .boolean) 0 := ⟨⟨_, _, rfl⟩, wm_J5_83, wz_J5_isLatin1_aae02, ws_J4_J5_isLatin1_aae02, wi_J5_isLatin1_aae02, ⟨_, _, _, wc_J5_isLatin1_aae02⟩, wi_J5_isLatin1_aae02, wn_J5, wc_J5_isLatin1_aae02, hy_J5_isLatin1_aae02.2⟩
theorem wm_J5_248 : Cond.methodLink RJ5 248 yJ6_getChars_ba4f3 ∈ WT := wt_in 860 (by decide +kernel) (by decide +kernel)
theorem wc_J6_getChars_ba4f3 : Cond.code yJ6_getChars_ba4f3 cJ6_getChars_ba4f3 7 (some .int) ∈ WT := wt_in 862 (by decide +kernel) (by decide +kernel)
theorem hy_J6_getChars_ba4f3 : (yJ6_getChars_ba4f3.cls = RJ6 ∧ yJ6_getChars_ba4f3.cls ≠ "java/lang/invoke/MethodHandle" ∧ yJ6_getChars_ba4f3.cls ≠ "java/lang/invoke/VarHandle" ∧ (parseMethodDescriptor yJ6_getChars_ba4f3.desc).map (fun d => d.parameters.length) = some 3) := by decide +kernel
theorem wt_J6_getChars_ba4f3 : Cond.static yJ6_getChars_ba4f3 ∈ WT := wt_in 861 (by decide +kernel) (by decide +kernel)
theorem kl_J5_248 : CLS RJ5 248 yJ6_getChars_ba4f3 cJ6_getChars_ba4f3 7 (some .int) 3 := ⟨wm_J5_248, wt_J6_getChars_ba4f3, wn_J6, wc_J6_getChars_ba4f3, hy_J6_getChars_ba4f3.2⟩
theorem wm_J4_53 : Cond.methodLink RJ4 53 yJ5_append_c97b9 ∈ WT := wt_in 854 (by decide +kernel) (by decide +kernel)
theorem wz_J5_append_c97b9 : Cond.sameMethod yJ5_append_c97b9.cls yJ5_append_c97b9.cls yJ5_append_c97b9.name yJ5_append_c97b9.desc ∈ WT := wt_in 1405 (by decide +kernel) (by decide +kernel)
theorem wi_J5_append_c97b9 : Cond.instanceMethod yJ5_append_c97b9 ∈ WT := wt_in 855 (by decide +kernel) (by decide +kernel)
theorem wc_J5_append_c97b9 : Cond.code yJ5_append_c97b9 cJ5_append_c97b9 4 (some (.object "java/lang/AbstractStringBuilder")) ∈ WT := wt_in 856 (by decide +kernel) (by decide +kernel)
theorem hy_J5_append_c97b9 : (yJ5_append_c97b9.cls = RJ5 ∧ yJ5_append_c97b9.cls ≠ "java/lang/invoke/MethodHandle" ∧ yJ5_append_c97b9.cls ≠ "java/lang/invoke/VarHandle" ∧ (parseMethodDescriptor yJ5_append_c97b9.desc).map (fun d => d.parameters.length) = some 1) := by decide +kernel
theorem kl_J4_53 : CLP RJ4 RJ4 8 53 yJ5_append_c97b9 cJ5_append_c97b9 4 (some (.object "java/lang/AbstractStringBuilder")) 1 := ⟨⟨_, _, rfl⟩, wm_J4_53, wz_J5_append_c97b9, wsup_J4, wi_J5_append_c97b9, wn_J5, wc_J5_append_c97b9, ⟨by decide, hy_J5_append_c97b9.2.2.2⟩⟩
theorem wm_J4_23 : Cond.methodLink RJ4 23 yJ4_append_15ec4 ∈ WT := wt_in 1370 (by decide +kernel) (by decide +kernel)
theorem wc_J4_append_15ec4 : Cond.code yJ4_append_15ec4 cJ4_append_15ec4 2 (some (.object "java/lang/StringBuilder")) ∈ WT := wt_in 762 (by decide +kernel) (by decide +kernel)
theorem hy_J4_append_15ec4 : (yJ4_append_15ec4.cls = RJ4 ∧ yJ4_append_15ec4.cls ≠ "java/lang/invoke/MethodHandle" ∧ yJ4_append_15ec4.cls ≠ "java/lang/invoke/VarHandle" ∧ (parseMethodDescriptor yJ4_append_15ec4.desc).map (fun d => d.parameters.length) = some 1) := by decide +kernel
theorem wi_J4_append_15ec4 : Cond.instanceMethod yJ4_append_15ec4 ∈ WT := wt_in 760 (by decide +kernel) (by decide +kernel)
theorem ws_J4_append_15ec4 : Cond.selects RJ4 yJ4_append_15ec4 yJ4_append_15ec4 ∈ WT := wt_in 761 (by decide +kernel) (by decide +kernel)
theorem kl_J4_23 : CLV RJ4 RJ4 8 23 yJ4_append_15ec4 cJ4_append_15ec4 2 (some (.object "java/lang/StringBuilder")) 1 := ⟨⟨_, _, rfl⟩, wm_J4_23, wi_J4_append_15ec4, ws_J4_append_15ec4, wn_J4, wc_J4_append_15ec4, hy_J4_append_15ec4⟩
theorem wm_J5_191 : Cond.methodLink RJ5 191 yJ1_canEncode_fc78d ∈ WT := wt_in 1379 (by decide +kernel) (by decide +kernel)
theorem wc_J1_canEncode_fc78d : Cond.code yJ1_canEncode_fc78d cJ1_canEncode_fc78d 1 (some .boolean) ∈ WT := wt_in 1381 (by decide +kernel) (by decide +kernel)
theorem hy_J1_canEncode_fc78d : (yJ1_canEncode_fc78d.cls = RJ1 ∧ yJ1_canEncode_fc78d.cls ≠ "java/lang/invoke/MethodHandle" ∧ yJ1_canEncode_fc78d.cls ≠ "java/lang/invoke/VarHandle" ∧ (parseMethodDescriptor yJ1_canEncode_fc78d.desc).map (fun d => d.parameters.length) = some 1) := by decide +kernel
theorem wt_J1_canEncode_fc78d : Cond.static yJ1_canEncode_fc78d ∈ WT := wt_in 1380 (by decide +kernel) (by decide +kernel)
theorem kl_J5_191 : CLS RJ5 191 yJ1_canEncode_fc78d cJ1_canEncode_fc78d 1 (some .boolean) 1 := ⟨wm_J5_191, wt_J1_canEncode_fc78d, wn_J1, wc_J1_canEncode_fc78d, hy_J1_canEncode_fc78d.2⟩
theorem wm_J4_50 : Cond.methodLink RJ4 50 yJ5_append_3fe6f ∈ WT := wt_in 1376 (by decide +kernel) (by decide +kernel)
theorem wz_J5_append_3fe6f : Cond.sameMethod yJ5_append_3fe6f.cls yJ5_append_3fe6f.cls yJ5_append_3fe6f.name yJ5_append_3fe6f.desc ∈ WT := wt_in 1407 (by decide +kernel) (by decide +kernel)
theorem wi_J5_append_3fe6f : Cond.instanceMethod yJ5_append_3fe6f ∈ WT := wt_in 1377 (by decide +kernel) (by decide +kernel)
theorem wc_J5_append_3fe6f : Cond.code yJ5_append_3fe6f cJ5_append_3fe6f 2 (some (.object "java/lang/AbstractStringBuilder")) ∈ WT := wt_in 1378 (by decide +kernel) (by decide +kernel)
theorem hy_J5_append_3fe6f : (yJ5_append_3fe6f.cls = RJ5 ∧ yJ5_append_3fe6f.cls ≠ "java/lang/invoke/MethodHandle" ∧ yJ5_append_3fe6f.cls ≠ "java/lang/invoke/VarHandle" ∧ (parseMethodDescriptor yJ5_append_3fe6f.desc).map (fun d => d.parameters.length) = some 1) := by decide +kernel
theorem kl_J4_50 : CLP RJ4 RJ4 8 50 yJ5_append_3fe6f cJ5_append_3fe6f 2 (some (.object "java/lang/AbstractStringBuilder")) 1 := ⟨⟨_, _, rfl⟩, wm_J4_50, wz_J5_append_3fe6f, wsup_J4, wi_J5_append_3fe6f, wn_J5, wc_J5_append_3fe6f, ⟨by decide, hy_J5_append_3fe6f.2.2.2⟩⟩
theorem wm_J5_3 : Cond.methodLink RJ5 3 Lib.objectInit ∈ WT := wt_in 736 (by decide +kernel) (by decide +kernel)
theorem wk_J5_38 : Cond.constant RJ5 38 (2147483631) ∈ WT := wt_in 1366 (by decide +kernel) (by decide +kernel)
theorem wm_J5_43 : Cond.methodLink RJ5 43 yJ5_append_cf1ce ∈ WT := wt_in 1367 (by decide +kernel) (by decide +kernel)
theorem ws_J4_J5_append_cf1ce : Cond.selects RJ4 yJ5_append_cf1ce yJ4_append_cf1ce ∈ WT := wt_in 1406 (by decide +kernel) (by decide +kernel)
theorem wi_J4_append_cf1ce : Cond.instanceMethod yJ4_append_cf1ce ∈ WT := wt_in 1368 (by decide +kernel) (by decide +kernel)
theorem wc_J4_append_cf1ce : Cond.code yJ4_append_cf1ce cJ4_append_cf1ce 2 (some (.object "java/lang/AbstractStringBuilder")) ∈ WT := wt_in 1369 (by decide +kernel) (by decide +kernel)
theorem kl_J5_43 : CLU RJ5 RJ4 8 43 yJ5_append_cf1ce yJ4_append_cf1ce cJ4_append_cf1ce 2 (some (.object "java/lang/AbstractStringBuilder")) 1 := ⟨⟨_, _, rfl⟩, wm_J5_43, wz_J5_append_cf1ce, ws_J4_J5_append_cf1ce, wi_J5_append_cf1ce, ⟨_, _, _, wc_J5_append_cf1ce⟩, wi_J4_append_cf1ce, wn_J4, wc_J4_append_cf1ce, hy_J5_append_cf1ce.2⟩
theorem wc_J5_init_a7421 : Cond.code yJ5_init_a7421 cJ5_init_a7421 5 none ∈ WT := wt_in 1365 (by decide +kernel) (by decide +kernel)
theorem hy_J5_init_a7421 : (yJ5_init_a7421.cls = RJ5 ∧ yJ5_init_a7421.cls ≠ "java/lang/invoke/MethodHandle" ∧ yJ5_init_a7421.cls ≠ "java/lang/invoke/VarHandle" ∧ (parseMethodDescriptor yJ5_init_a7421.desc).map (fun d => d.parameters.length) = some 1) := by decide +kernel
theorem wi_J5_init_a7421 : Cond.instanceMethod yJ5_init_a7421 ∈ WT := wt_in 1364 (by decide +kernel) (by decide +kernel)
theorem wm_J4_7 : Cond.methodLink RJ4 7 yJ5_init_a7421 ∈ WT := wt_in 1363 (by decide +kernel) (by decide +kernel)
theorem kl_J4_7 : CLI RJ4 7 yJ5_init_a7421 cJ5_init_a7421 5 1 := ⟨Or.inl wm_J4_7, wi_J5_init_a7421, wn_J5, wc_J5_init_a7421, rfl, hy_J5_init_a7421.2⟩
theorem wl_J4_18 : Cond.classLink RJ4 18 RJ0 ∈ WT := wt_in 881 (by decide +kernel) (by decide +kernel)
theorem wx_X7 : Cond.instantiable RJ0 4 ∈ WT := wt_in 882 (by decide +kernel) (by decide +kernel)
theorem wn_X7 : Cond.initialized RJ0 ∈ WT := wt_in 47 (by decide +kernel) (by decide +kernel)
theorem df_X7 : ∀ j, j < 4 → defaultValue (tyJ0 j) = if (fk (7 + 10)).getD j false = true then .null else .int 0 := fun j hj => by
  rcases (show j = 0 ∨ j = 1 ∨ j = 2 ∨ j = 3 by omega) with rfl | rfl | rfl | rfl <;> rfl
theorem wc_J0_init_81219 : Cond.code yJ0_init_81219 cJ0_init_81219 2 none ∈ WT := wt_in 885 (by decide +kernel) (by decide +kernel)
theorem hy_J0_init_81219 : (yJ0_init_81219.cls = RJ0 ∧ yJ0_init_81219.cls ≠ "java/lang/invoke/MethodHandle" ∧ yJ0_init_81219.cls ≠ "java/lang/invoke/VarHandle" ∧ (parseMethodDescriptor yJ0_init_81219.desc).map (fun d => d.parameters.length) = some 1) := by decide +kernel
theorem wi_J0_init_81219 : Cond.instanceMethod yJ0_init_81219 ∈ WT := wt_in 884 (by decide +kernel) (by decide +kernel)
theorem wm_J4_137 : Cond.methodLink RJ4 137 yJ0_init_81219 ∈ WT := wt_in 883 (by decide +kernel) (by decide +kernel)
theorem kl_J4_137 : CLI RJ4 137 yJ0_init_81219 cJ0_init_81219 2 1 := ⟨Or.inl wm_J4_137, wi_J0_init_81219, wn_J0, wc_J0_init_81219, rfl, hy_J0_init_81219.2⟩
theorem wa_1 : Cond.arrayClass (newarray.typeOf .int) ∈ WT := wt_in 250 (by decide +kernel) (by decide +kernel)
theorem wm_J7_13 : Cond.methodLink RJ7 13 yJ7_rangeCheck_23922 ∈ WT := wt_in 683 (by decide +kernel) (by decide +kernel)
theorem wc_J7_rangeCheck_23922 : Cond.code yJ7_rangeCheck_23922 cJ7_rangeCheck_23922 3 none ∈ WT := wt_in 685 (by decide +kernel) (by decide +kernel)
theorem hy_J7_rangeCheck_23922 : (yJ7_rangeCheck_23922.cls = RJ7 ∧ yJ7_rangeCheck_23922.cls ≠ "java/lang/invoke/MethodHandle" ∧ yJ7_rangeCheck_23922.cls ≠ "java/lang/invoke/VarHandle" ∧ (parseMethodDescriptor yJ7_rangeCheck_23922.desc).map (fun d => d.parameters.length) = some 3) := by decide +kernel
theorem wt_J7_rangeCheck_23922 : Cond.static yJ7_rangeCheck_23922 ∈ WT := wt_in 684 (by decide +kernel) (by decide +kernel)
theorem kl_J7_13 : CLS RJ7 13 yJ7_rangeCheck_23922 cJ7_rangeCheck_23922 3 none 3 := ⟨wm_J7_13, wt_J7_rangeCheck_23922, wn_J7, wc_J7_rangeCheck_23922, hy_J7_rangeCheck_23922.2⟩
theorem wy_X0_0 : u_lay RX0 TX0 0 ∈ WT := wt_in 235 (by decide +kernel) (by decide +kernel)
theorem wy_X0_1 : u_lay RX0 TX0 1 ∈ WT := wt_in 237 (by decide +kernel) (by decide +kernel)
theorem wy_X0_2 : u_lay RX0 TX0 2 ∈ WT := wt_in 239 (by decide +kernel) (by decide +kernel)
theorem wy_X0_3 : u_lay RX0 TX0 3 ∈ WT := wt_in 241 (by decide +kernel) (by decide +kernel)
theorem wy_X0_4 : u_lay RX0 TX0 4 ∈ WT := wt_in 243 (by decide +kernel) (by decide +kernel)
theorem wy_X0_5 : u_lay RX0 TX0 5 ∈ WT := wt_in 245 (by decide +kernel) (by decide +kernel)
theorem wy_X0_6 : u_lay RX0 TX0 6 ∈ WT := wt_in 247 (by decide +kernel) (by decide +kernel)
theorem in_X0 : ∀ w ∈ u_ws RX0 TX0 7, w ∈ WT := fun w hw => by
  obtain ⟨k, hk, rfl⟩ := List.mem_map.mp hw
  have hk := List.mem_range.mp hk
  rcases (show k = 0 ∨ k = 1 ∨ k = 2 ∨ k = 3 ∨ k = 4 ∨ k = 5 ∨ k = 6 by omega) with rfl | rfl | rfl | rfl | rfl | rfl | rfl
  · exact wy_X0_0
  · exact wy_X0_1
  · exact wy_X0_2
  · exact wy_X0_3
  · exact wy_X0_4
  · exact wy_X0_5
  · exact wy_X0_6
theorem fp_X0 : FP RX0 TX0 7 tyX0 := ⟨tyX0_ok, nmX0⟩
theorem wf_X0_25 : Cond.fieldLink RX0 25 (TX0 4).1 (TX0 4).2.1 (TX0 4).2.2.1 ∈ WT := wt_in 232 (by decide +kernel) (by decide +kernel)
theorem fl_X0_25 : FL RX0 RX0 TX0 7 0 4 25 true := ⟨in_X0, rfl, by decide, wf_X0_25, rfl⟩
theorem wm_X0_44 : Cond.methodLink RX0 44 yX0_placeOf ∈ WT := wt_in 308 (by decide +kernel) (by decide +kernel)
theorem wc_X0_placeOf : Cond.code yX0_placeOf cX0_placeOf 3 (some .int) ∈ WT := wt_in 311 (by decide +kernel) (by decide +kernel)
theorem hy_X0_placeOf : (yX0_placeOf.cls = RX0 ∧ yX0_placeOf.cls ≠ "java/lang/invoke/MethodHandle" ∧ yX0_placeOf.cls ≠ "java/lang/invoke/VarHandle" ∧ (parseMethodDescriptor yX0_placeOf.desc).map (fun d => d.parameters.length) = some 2) := by decide +kernel
theorem wn_X0 : Cond.initialized RX0 ∈ WT := wt_in 42 (by decide +kernel) (by decide +kernel)
theorem wi_X0_placeOf : Cond.instanceMethod yX0_placeOf ∈ WT := wt_in 309 (by decide +kernel) (by decide +kernel)
theorem ws_X0_placeOf : Cond.selects RX0 yX0_placeOf yX0_placeOf ∈ WT := wt_in 310 (by decide +kernel) (by decide +kernel)
theorem kl_X0_44 : CLV RX0 RX0 0 44 yX0_placeOf cX0_placeOf 3 (some .int) 2 := ⟨⟨_, _, rfl⟩, wm_X0_44, wi_X0_placeOf, ws_X0_placeOf, wn_X0, wc_X0_placeOf, hy_X0_placeOf⟩
theorem wm_X0_48 : Cond.methodLink RX0 48 yX0_on ∈ WT := wt_in 335 (by decide +kernel) (by decide +kernel)
theorem wc_X0_on : Cond.code yX0_on cX0_on 2 (some .int) ∈ WT := wt_in 338 (by decide +kernel) (by decide +kernel)
theorem hy_X0_on : (yX0_on.cls = RX0 ∧ yX0_on.cls ≠ "java/lang/invoke/MethodHandle" ∧ yX0_on.cls ≠ "java/lang/invoke/VarHandle" ∧ (parseMethodDescriptor yX0_on.desc).map (fun d => d.parameters.length) = some 1) := by decide +kernel
theorem wi_X0_on : Cond.instanceMethod yX0_on ∈ WT := wt_in 337 (by decide +kernel) (by decide +kernel)
theorem ws_X0_on : Cond.selects RX0 yX0_on yX0_on ∈ WT := wt_in 1 (by decide +kernel) (by decide +kernel)
theorem kl_X0_48 : CLV RX0 RX0 0 48 yX0_on cX0_on 2 (some .int) 1 := ⟨⟨_, _, rfl⟩, wm_X0_48, wi_X0_on, ws_X0_on, wn_X0, wc_X0_on, hy_X0_on⟩
theorem wy_X1_0 : u_lay RX1 TX1 0 ∈ WT := wt_in 133 (by decide +kernel) (by decide +kernel)
theorem wy_X1_1 : u_lay RX1 TX1 1 ∈ WT := wt_in 135 (by decide +kernel) (by decide +kernel)
theorem wy_X1_2 : u_lay RX1 TX1 2 ∈ WT := wt_in 137 (by decide +kernel) (by decide +kernel)
theorem wy_X1_3 : u_lay RX1 TX1 3 ∈ WT := wt_in 139 (by decide +kernel) (by decide +kernel)
theorem wy_X1_4 : u_lay RX1 TX1 4 ∈ WT := wt_in 141 (by decide +kernel) (by decide +kernel)
theorem wy_X1_5 : u_lay RX1 TX1 5 ∈ WT := wt_in 143 (by decide +kernel) (by decide +kernel)
theorem wy_X1_6 : u_lay RX1 TX1 6 ∈ WT := wt_in 145 (by decide +kernel) (by decide +kernel)
theorem in_X1 : ∀ w ∈ u_ws RX1 TX1 7, w ∈ WT := fun w hw => by
  obtain ⟨k, hk, rfl⟩ := List.mem_map.mp hw
  have hk := List.mem_range.mp hk
  rcases (show k = 0 ∨ k = 1 ∨ k = 2 ∨ k = 3 ∨ k = 4 ∨ k = 5 ∨ k = 6 by omega) with rfl | rfl | rfl | rfl | rfl | rfl | rfl
  · exact wy_X1_0
  · exact wy_X1_1
  · exact wy_X1_2
  · exact wy_X1_3
  · exact wy_X1_4
  · exact wy_X1_5
  · exact wy_X1_6
theorem fp_X1 : FP RX1 TX1 7 tyX1 := ⟨tyX1_ok, nmX1⟩
theorem wf_X1_9 : Cond.fieldLink RX1 9 (TX1 0).1 (TX1 0).2.1 (TX1 0).2.2.1 ∈ WT := wt_in 112 (by decide +kernel) (by decide +kernel)
theorem fl_X1_9 : FL RX1 RX1 TX1 7 1 0 9 false := ⟨in_X1, rfl, by decide, wf_X1_9, rfl⟩
theorem wf_X1_15 : Cond.fieldLink RX1 15 (TX1 1).1 (TX1 1).2.1 (TX1 1).2.2.1 ∈ WT := wt_in 114 (by decide +kernel) (by decide +kernel)
theorem fl_X1_15 : FL RX1 RX1 TX1 7 1 1 15 false := ⟨in_X1, rfl, by decide, wf_X1_15, rfl⟩
theorem wf_X1_18 : Cond.fieldLink RX1 18 (TX1 2).1 (TX1 2).2.1 (TX1 2).2.2.1 ∈ WT := wt_in 118 (by decide +kernel) (by decide +kernel)
theorem fl_X1_18 : FL RX1 RX1 TX1 7 1 2 18 false := ⟨in_X1, rfl, by decide, wf_X1_18, rfl⟩
theorem wc_X6_kindOf : Cond.code yX6_kindOf cX6_kindOf 1 (some .int) ∈ WT := wt_in 594 (by decide +kernel) (by decide +kernel)
theorem hy_X6_kindOf : (yX6_kindOf.cls = RX6 ∧ yX6_kindOf.cls ≠ "java/lang/invoke/MethodHandle" ∧ yX6_kindOf.cls ≠ "java/lang/invoke/VarHandle" ∧ (parseMethodDescriptor yX6_kindOf.desc).map (fun d => d.parameters.length) = some 1) := by decide +kernel
theorem wn_X6 : Cond.initialized RX6 ∈ WT := wt_in 36 (by decide +kernel) (by decide +kernel)
theorem wt_X6_kindOf : Cond.static yX6_kindOf ∈ WT := wt_in 593 (by decide +kernel) (by decide +kernel)
theorem kl_X0_68 : CLN RX0 68 yX6_kindOf cX6_kindOf 1 (some .int) 1 := ⟨by decide +kernel, wt_X6_kindOf, wn_X6, wc_X6_kindOf, hy_X6_kindOf.2⟩
theorem wg_X0_56 : Cond.fieldLink RX0 56 (tabN 1).1 (tabN 1).2.1 (tabN 1).2.2.1 ∈ WT := wt_in 612 (by decide +kernel) (by decide +kernel)
theorem wm_X0_85 : Cond.methodLink RX0 85 yX0_bitOf ∈ WT := wt_in 609 (by decide +kernel) (by decide +kernel)
theorem wc_X0_bitOf : Cond.code yX0_bitOf cX0_bitOf 1 (some .long) ∈ WT := wt_in 611 (by decide +kernel) (by decide +kernel)
theorem hy_X0_bitOf : (yX0_bitOf.cls = RX0 ∧ yX0_bitOf.cls ≠ "java/lang/invoke/MethodHandle" ∧ yX0_bitOf.cls ≠ "java/lang/invoke/VarHandle" ∧ (parseMethodDescriptor yX0_bitOf.desc).map (fun d => d.parameters.length) = some 1) := by decide +kernel
theorem wt_X0_bitOf : Cond.static yX0_bitOf ∈ WT := wt_in 610 (by decide +kernel) (by decide +kernel)
theorem kl_X0_85 : CLS RX0 85 yX0_bitOf cX0_bitOf 1 (some .long) 1 := ⟨wm_X0_85, wt_X0_bitOf, wn_X0, wc_X0_bitOf, hy_X0_bitOf.2⟩
theorem wg_X0_59 : Cond.fieldLink RX0 59 (tabN 2).1 (tabN 2).2.1 (tabN 2).2.2.1 ∈ WT := wt_in 607 (by decide +kernel) (by decide +kernel)
theorem wf_X1_21 : Cond.fieldLink RX1 21 (TX1 3).1 (TX1 3).2.1 (TX1 3).2.2.1 ∈ WT := wt_in 121 (by decide +kernel) (by decide +kernel)
theorem fl_X1_21 : FL RX1 RX1 TX1 7 1 3 21 false := ⟨in_X1, rfl, by decide, wf_X1_21, rfl⟩
theorem wf_X1_24 : Cond.fieldLink RX1 24 (TX1 4).1 (TX1 4).2.1 (TX1 4).2.2.1 ∈ WT := wt_in 124 (by decide +kernel) (by decide +kernel)
theorem fl_X1_24 : FL RX1 RX1 TX1 7 1 4 24 false := ⟨in_X1, rfl, by decide, wf_X1_24, rfl⟩
theorem wf_X1_27 : Cond.fieldLink RX1 27 (TX1 5).1 (TX1 5).2.1 (TX1 5).2.2.1 ∈ WT := wt_in 127 (by decide +kernel) (by decide +kernel)
theorem fl_X1_27 : FL RX1 RX1 TX1 7 1 5 27 false := ⟨in_X1, rfl, by decide, wf_X1_27, rfl⟩
theorem wf_X0_31 : Cond.fieldLink RX0 31 (TX0 6).1 (TX0 6).2.1 (TX0 6).2.2.1 ∈ WT := wt_in 234 (by decide +kernel) (by decide +kernel)
theorem fl_X0_31 : FL RX0 RX0 TX0 7 0 6 31 false := ⟨in_X0, rfl, by decide, wf_X0_31, rfl⟩
theorem wf_X0_28 : Cond.fieldLink RX0 28 (TX0 5).1 (TX0 5).2.1 (TX0 5).2.2.1 ∈ WT := wt_in 233 (by decide +kernel) (by decide +kernel)
theorem fl_X0_28 : FL RX0 RX0 TX0 7 0 5 28 false := ⟨in_X0, rfl, by decide, wf_X0_28, rfl⟩
theorem wc_X6_colourOf : Cond.code yX6_colourOf cX6_colourOf 1 (some .int) ∈ WT := wt_in 591 (by decide +kernel) (by decide +kernel)
theorem hy_X6_colourOf : (yX6_colourOf.cls = RX6 ∧ yX6_colourOf.cls ≠ "java/lang/invoke/MethodHandle" ∧ yX6_colourOf.cls ≠ "java/lang/invoke/VarHandle" ∧ (parseMethodDescriptor yX6_colourOf.desc).map (fun d => d.parameters.length) = some 1) := by decide +kernel
theorem wt_X6_colourOf : Cond.static yX6_colourOf ∈ WT := wt_in 590 (by decide +kernel) (by decide +kernel)
theorem kl_X0_65 : CLN RX0 65 yX6_colourOf cX6_colourOf 1 (some .int) 1 := ⟨by decide +kernel, wt_X6_colourOf, wn_X6, wc_X6_colourOf, hy_X6_colourOf.2⟩
theorem wm_X0_52 : Cond.methodLink RX0 52 yX0_set ∈ WT := wt_in 312 (by decide +kernel) (by decide +kernel)
theorem wc_X0_set : Cond.code yX0_set cX0_set 3 none ∈ WT := wt_in 315 (by decide +kernel) (by decide +kernel)
theorem hy_X0_set : (yX0_set.cls = RX0 ∧ yX0_set.cls ≠ "java/lang/invoke/MethodHandle" ∧ yX0_set.cls ≠ "java/lang/invoke/VarHandle" ∧ (parseMethodDescriptor yX0_set.desc).map (fun d => d.parameters.length) = some 2) := by decide +kernel
theorem wi_X0_set : Cond.instanceMethod yX0_set ∈ WT := wt_in 314 (by decide +kernel) (by decide +kernel)
theorem ws_X0_set : Cond.selects RX0 yX0_set yX0_set ∈ WT := wt_in 0 (by decide +kernel) (by decide +kernel)
theorem kl_X0_52 : CLV RX0 RX0 0 52 yX0_set cX0_set 3 none 2 := ⟨⟨_, _, rfl⟩, wm_X0_52, wi_X0_set, ws_X0_set, wn_X0, wc_X0_set, hy_X0_set⟩
theorem wm_X0_102 : Cond.methodLink RX0 102 yX0_kingPlace ∈ WT := wt_in 622 (by decide +kernel) (by decide +kernel)
theorem wc_X0_kingPlace : Cond.code yX0_kingPlace cX0_kingPlace 2 (some .int) ∈ WT := wt_in 625 (by decide +kernel) (by decide +kernel)
theorem hy_X0_kingPlace : (yX0_kingPlace.cls = RX0 ∧ yX0_kingPlace.cls ≠ "java/lang/invoke/MethodHandle" ∧ yX0_kingPlace.cls ≠ "java/lang/invoke/VarHandle" ∧ (parseMethodDescriptor yX0_kingPlace.desc).map (fun d => d.parameters.length) = some 1) := by decide +kernel
theorem wi_X0_kingPlace : Cond.instanceMethod yX0_kingPlace ∈ WT := wt_in 623 (by decide +kernel) (by decide +kernel)
theorem ws_X0_kingPlace : Cond.selects RX0 yX0_kingPlace yX0_kingPlace ∈ WT := wt_in 624 (by decide +kernel) (by decide +kernel)
theorem kl_X0_102 : CLV RX0 RX0 0 102 yX0_kingPlace cX0_kingPlace 2 (some .int) 1 := ⟨⟨_, _, rfl⟩, wm_X0_102, wi_X0_kingPlace, ws_X0_kingPlace, wn_X0, wc_X0_kingPlace, hy_X0_kingPlace⟩
theorem wm_X0_105 : Cond.methodLink RX0 105 yX0_isReached ∈ WT := wt_in 626 (by decide +kernel) (by decide +kernel)
theorem wc_X0_isReached : Cond.code yX0_isReached cX0_isReached 8 (some .boolean) ∈ WT := wt_in 629 (by decide +kernel) (by decide +kernel)
theorem hy_X0_isReached : (yX0_isReached.cls = RX0 ∧ yX0_isReached.cls ≠ "java/lang/invoke/MethodHandle" ∧ yX0_isReached.cls ≠ "java/lang/invoke/VarHandle" ∧ (parseMethodDescriptor yX0_isReached.desc).map (fun d => d.parameters.length) = some 2) := by decide +kernel
theorem wi_X0_isReached : Cond.instanceMethod yX0_isReached ∈ WT := wt_in 627 (by decide +kernel) (by decide +kernel)
theorem ws_X0_isReached : Cond.selects RX0 yX0_isReached yX0_isReached ∈ WT := wt_in 628 (by decide +kernel) (by decide +kernel)
theorem kl_X0_105 : CLV RX0 RX0 0 105 yX0_isReached cX0_isReached 8 (some .boolean) 2 := ⟨⟨_, _, rfl⟩, wm_X0_105, wi_X0_isReached, ws_X0_isReached, wn_X0, wc_X0_isReached, hy_X0_isReached⟩
theorem wf_X0_9 : Cond.fieldLink RX0 9 (TX0 0).1 (TX0 0).2.1 (TX0 0).2.2.1 ∈ WT := wt_in 221 (by decide +kernel) (by decide +kernel)
theorem fl_X0_9 : FL RX0 RX0 TX0 7 0 0 9 false := ⟨in_X0, rfl, by decide, wf_X0_9, rfl⟩
theorem wm_X0_81 : Cond.methodLink RX0 81 yX0_rangeOf ∈ WT := wt_in 603 (by decide +kernel) (by decide +kernel)
theorem wc_X0_rangeOf : Cond.code yX0_rangeOf cX0_rangeOf 12 (some .long) ∈ WT := wt_in 606 (by decide +kernel) (by decide +kernel)
theorem hy_X0_rangeOf : (yX0_rangeOf.cls = RX0 ∧ yX0_rangeOf.cls ≠ "java/lang/invoke/MethodHandle" ∧ yX0_rangeOf.cls ≠ "java/lang/invoke/VarHandle" ∧ (parseMethodDescriptor yX0_rangeOf.desc).map (fun d => d.parameters.length) = some 1) := by decide +kernel
theorem wi_X0_rangeOf : Cond.instanceMethod yX0_rangeOf ∈ WT := wt_in 605 (by decide +kernel) (by decide +kernel)
theorem ws_X0_rangeOf : Cond.selects RX0 yX0_rangeOf yX0_rangeOf ∈ WT := wt_in 18 (by decide +kernel) (by decide +kernel)
theorem kl_X0_81 : CLV RX0 RX0 0 81 yX0_rangeOf cX0_rangeOf 12 (some .long) 1 := ⟨⟨_, _, rfl⟩, wm_X0_81, wi_X0_rangeOf, ws_X0_rangeOf, wn_X0, wc_X0_rangeOf, hy_X0_rangeOf⟩
theorem wf_X0_15 : Cond.fieldLink RX0 15 (TX0 1).1 (TX0 1).2.1 (TX0 1).2.2.1 ∈ WT := wt_in 225 (by decide +kernel) (by decide +kernel)
theorem fl_X0_15 : FL RX0 RX0 TX0 7 0 1 15 false := ⟨in_X0, rfl, by decide, wf_X0_15, rfl⟩
theorem wm_X0_88 : Cond.methodLink RX0 88 yX1_allowsTarget ∈ WT := wt_in 614 (by decide +kernel) (by decide +kernel)
theorem wc_X1_allowsTarget : Cond.code yX1_allowsTarget cX1_allowsTarget 4 (some .boolean) ∈ WT := wt_in 617 (by decide +kernel) (by decide +kernel)
theorem hy_X1_allowsTarget : (yX1_allowsTarget.cls = RX1 ∧ yX1_allowsTarget.cls ≠ "java/lang/invoke/MethodHandle" ∧ yX1_allowsTarget.cls ≠ "java/lang/invoke/VarHandle" ∧ (parseMethodDescriptor yX1_allowsTarget.desc).map (fun d => d.parameters.length) = some 3) := by decide +kernel
theorem wn_X1 : Cond.initialized RX1 ∈ WT := wt_in 39 (by decide +kernel) (by decide +kernel)
theorem wi_X1_allowsTarget : Cond.instanceMethod yX1_allowsTarget ∈ WT := wt_in 615 (by decide +kernel) (by decide +kernel)
theorem ws_X1_allowsTarget : Cond.selects RX1 yX1_allowsTarget yX1_allowsTarget ∈ WT := wt_in 616 (by decide +kernel) (by decide +kernel)
theorem kl_X0_88 : CLV RX0 RX1 1 88 yX1_allowsTarget cX1_allowsTarget 4 (some .boolean) 3 := ⟨⟨_, _, rfl⟩, wm_X0_88, wi_X1_allowsTarget, ws_X1_allowsTarget, wn_X1, wc_X1_allowsTarget, hy_X1_allowsTarget⟩
theorem wf_X0_92 : Cond.fieldLink RX0 92 (TX1 6).1 (TX1 6).2.1 (TX1 6).2.2.1 ∈ WT := wt_in 132 (by decide +kernel) (by decide +kernel)
theorem fl_X0_92 : FL RX0 RX1 TX1 7 1 6 92 false := ⟨in_X1, rfl, by decide, wf_X0_92, rfl⟩
theorem wm_X0_96 : Cond.methodLink RX0 96 yX0_isLegal ∈ WT := wt_in 618 (by decide +kernel) (by decide +kernel)
theorem wc_X0_isLegal : Cond.code yX0_isLegal cX0_isLegal 9 (some .boolean) ∈ WT := wt_in 621 (by decide +kernel) (by decide +kernel)
theorem hy_X0_isLegal : (yX0_isLegal.cls = RX0 ∧ yX0_isLegal.cls ≠ "java/lang/invoke/MethodHandle" ∧ yX0_isLegal.cls ≠ "java/lang/invoke/VarHandle" ∧ (parseMethodDescriptor yX0_isLegal.desc).map (fun d => d.parameters.length) = some 3) := by decide +kernel
theorem wi_X0_isLegal : Cond.instanceMethod yX0_isLegal ∈ WT := wt_in 620 (by decide +kernel) (by decide +kernel)
theorem ws_X0_isLegal : Cond.selects RX0 yX0_isLegal yX0_isLegal ∈ WT := wt_in 19 (by decide +kernel) (by decide +kernel)
theorem kl_X0_96 : CLV RX0 RX0 0 96 yX0_isLegal cX0_isLegal 9 (some .boolean) 3 := ⟨⟨_, _, rfl⟩, wm_X0_96, wi_X0_isLegal, ws_X0_isLegal, wn_X0, wc_X0_isLegal, hy_X0_isLegal⟩
theorem wf_X0_22 : Cond.fieldLink RX0 22 (TX0 3).1 (TX0 3).2.1 (TX0 3).2.2.1 ∈ WT := wt_in 231 (by decide +kernel) (by decide +kernel)
theorem fl_X0_22 : FL RX0 RX0 TX0 7 0 3 22 false := ⟨in_X0, rfl, by decide, wf_X0_22, rfl⟩
theorem wf_X0_18 : Cond.fieldLink RX0 18 (TX0 2).1 (TX0 2).2.1 (TX0 2).2.2.1 ∈ WT := wt_in 229 (by decide +kernel) (by decide +kernel)
theorem fl_X0_18 : FL RX0 RX0 TX0 7 0 2 18 true := ⟨in_X0, rfl, by decide, wf_X0_18, rfl⟩
theorem wm_X0_99 : Cond.methodLink RX0 99 yX0_squareOf ∈ WT := wt_in 630 (by decide +kernel) (by decide +kernel)
theorem wc_X0_squareOf : Cond.code yX0_squareOf cX0_squareOf 3 (some .int) ∈ WT := wt_in 330 (by decide +kernel) (by decide +kernel)
theorem hy_X0_squareOf : (yX0_squareOf.cls = RX0 ∧ yX0_squareOf.cls ≠ "java/lang/invoke/MethodHandle" ∧ yX0_squareOf.cls ≠ "java/lang/invoke/VarHandle" ∧ (parseMethodDescriptor yX0_squareOf.desc).map (fun d => d.parameters.length) = some 2) := by decide +kernel
theorem wi_X0_squareOf : Cond.instanceMethod yX0_squareOf ∈ WT := wt_in 328 (by decide +kernel) (by decide +kernel)
theorem ws_X0_squareOf : Cond.selects RX0 yX0_squareOf yX0_squareOf ∈ WT := wt_in 329 (by decide +kernel) (by decide +kernel)
theorem kl_X0_99 : CLV RX0 RX0 0 99 yX0_squareOf cX0_squareOf 3 (some .int) 2 := ⟨⟨_, _, rfl⟩, wm_X0_99, wi_X0_squareOf, ws_X0_squareOf, wn_X0, wc_X0_squareOf, hy_X0_squareOf⟩
theorem wm_X0_62 : Cond.methodLink RX0 62 yX0_at ∈ WT := wt_in 588 (by decide +kernel) (by decide +kernel)
theorem wc_X0_at : Cond.code yX0_at cX0_at 3 (some .int) ∈ WT := wt_in 334 (by decide +kernel) (by decide +kernel)
theorem hy_X0_at : (yX0_at.cls = RX0 ∧ yX0_at.cls ≠ "java/lang/invoke/MethodHandle" ∧ yX0_at.cls ≠ "java/lang/invoke/VarHandle" ∧ (parseMethodDescriptor yX0_at.desc).map (fun d => d.parameters.length) = some 2) := by decide +kernel
theorem wi_X0_at : Cond.instanceMethod yX0_at ∈ WT := wt_in 332 (by decide +kernel) (by decide +kernel)
theorem ws_X0_at : Cond.selects RX0 yX0_at yX0_at ∈ WT := wt_in 333 (by decide +kernel) (by decide +kernel)
theorem kl_X0_62 : CLV RX0 RX0 0 62 yX0_at cX0_at 3 (some .int) 2 := ⟨⟨_, _, rfl⟩, wm_X0_62, wi_X0_at, ws_X0_at, wn_X0, wc_X0_at, hy_X0_at⟩
theorem wm_X0_71 : Cond.methodLink RX0 71 yX1_allowsOrigin ∈ WT := wt_in 595 (by decide +kernel) (by decide +kernel)
theorem wc_X1_allowsOrigin : Cond.code yX1_allowsOrigin cX1_allowsOrigin 4 (some .boolean) ∈ WT := wt_in 598 (by decide +kernel) (by decide +kernel)
theorem hy_X1_allowsOrigin : (yX1_allowsOrigin.cls = RX1 ∧ yX1_allowsOrigin.cls ≠ "java/lang/invoke/MethodHandle" ∧ yX1_allowsOrigin.cls ≠ "java/lang/invoke/VarHandle" ∧ (parseMethodDescriptor yX1_allowsOrigin.desc).map (fun d => d.parameters.length) = some 3) := by decide +kernel
theorem wi_X1_allowsOrigin : Cond.instanceMethod yX1_allowsOrigin ∈ WT := wt_in 596 (by decide +kernel) (by decide +kernel)
theorem ws_X1_allowsOrigin : Cond.selects RX1 yX1_allowsOrigin yX1_allowsOrigin ∈ WT := wt_in 597 (by decide +kernel) (by decide +kernel)
theorem kl_X0_71 : CLV RX0 RX1 1 71 yX1_allowsOrigin cX1_allowsOrigin 4 (some .boolean) 3 := ⟨⟨_, _, rfl⟩, wm_X0_71, wi_X1_allowsOrigin, ws_X1_allowsOrigin, wn_X1, wc_X1_allowsOrigin, hy_X1_allowsOrigin⟩
theorem wm_X0_77 : Cond.methodLink RX0 77 yX0_findMovesFrom ∈ WT := wt_in 599 (by decide +kernel) (by decide +kernel)
theorem wc_X0_findMovesFrom : Cond.code yX0_findMovesFrom cX0_findMovesFrom 13 none ∈ WT := wt_in 602 (by decide +kernel) (by decide +kernel)
theorem hy_X0_findMovesFrom : (yX0_findMovesFrom.cls = RX0 ∧ yX0_findMovesFrom.cls ≠ "java/lang/invoke/MethodHandle" ∧ yX0_findMovesFrom.cls ≠ "java/lang/invoke/VarHandle" ∧ (parseMethodDescriptor yX0_findMovesFrom.desc).map (fun d => d.parameters.length) = some 3) := by decide +kernel
theorem wi_X0_findMovesFrom : Cond.instanceMethod yX0_findMovesFrom ∈ WT := wt_in 601 (by decide +kernel) (by decide +kernel)
theorem ws_X0_findMovesFrom : Cond.selects RX0 yX0_findMovesFrom yX0_findMovesFrom ∈ WT := wt_in 17 (by decide +kernel) (by decide +kernel)
theorem kl_X0_77 : CLV RX0 RX0 0 77 yX0_findMovesFrom cX0_findMovesFrom 13 none 3 := ⟨⟨_, _, rfl⟩, wm_X0_77, wi_X0_findMovesFrom, ws_X0_findMovesFrom, wn_X0, wc_X0_findMovesFrom, hy_X0_findMovesFrom⟩
theorem wm_X0_3 : Cond.methodLink RX0 3 Lib.objectInit ∈ WT := wt_in 220 (by decide +kernel) (by decide +kernel)
theorem wm_X0_34 : Cond.methodLink RX0 34 yJ7_fill_53178 ∈ WT := wt_in 301 (by decide +kernel) (by decide +kernel)
theorem wc_J7_fill_53178 : Cond.code yJ7_fill_53178 cJ7_fill_53178 4 none ∈ WT := wt_in 303 (by decide +kernel) (by decide +kernel)
theorem hy_J7_fill_53178 : (yJ7_fill_53178.cls = RJ7 ∧ yJ7_fill_53178.cls ≠ "java/lang/invoke/MethodHandle" ∧ yJ7_fill_53178.cls ≠ "java/lang/invoke/VarHandle" ∧ (parseMethodDescriptor yJ7_fill_53178.desc).map (fun d => d.parameters.length) = some 2) := by decide +kernel
theorem wt_J7_fill_53178 : Cond.static yJ7_fill_53178 ∈ WT := wt_in 302 (by decide +kernel) (by decide +kernel)
theorem kl_X0_34 : CLS RX0 34 yJ7_fill_53178 cJ7_fill_53178 4 none 2 := ⟨wm_X0_34, wt_J7_fill_53178, wn_J7, wc_J7_fill_53178, hy_J7_fill_53178.2⟩
theorem wm_X0_40 : Cond.methodLink RX0 40 yX0_put ∈ WT := wt_in 304 (by decide +kernel) (by decide +kernel)
theorem wc_X0_put : Cond.code yX0_put cX0_put 5 none ∈ WT := wt_in 307 (by decide +kernel) (by decide +kernel)
theorem hy_X0_put : (yX0_put.cls = RX0 ∧ yX0_put.cls ≠ "java/lang/invoke/MethodHandle" ∧ yX0_put.cls ≠ "java/lang/invoke/VarHandle" ∧ (parseMethodDescriptor yX0_put.desc).map (fun d => d.parameters.length) = some 3) := by decide +kernel
theorem wi_X0_put : Cond.instanceMethod yX0_put ∈ WT := wt_in 305 (by decide +kernel) (by decide +kernel)
theorem ws_X0_put : Cond.selects RX0 yX0_put yX0_put ∈ WT := wt_in 306 (by decide +kernel) (by decide +kernel)
theorem kl_X0_40 : CLV RX0 RX0 0 40 yX0_put cX0_put 5 none 3 := ⟨⟨_, _, rfl⟩, wm_X0_40, wi_X0_put, ws_X0_put, wn_X0, wc_X0_put, hy_X0_put⟩
theorem wf_X1_31 : Cond.fieldLink RX1 31 (TX1 6).1 (TX1 6).2.1 (TX1 6).2.2.1 ∈ WT := wt_in 130 (by decide +kernel) (by decide +kernel)
theorem fl_X1_31 : FL RX1 RX1 TX1 7 1 6 31 false := ⟨in_X1, rfl, by decide, wf_X1_31, rfl⟩
theorem wm_X1_3 : Cond.methodLink RX1 3 Lib.objectInit ∈ WT := wt_in 111 (by decide +kernel) (by decide +kernel)
theorem wy_X5_0 : u_lay RX5 TX5 0 ∈ WT := wt_in 92 (by decide +kernel) (by decide +kernel)
theorem wy_X5_1 : u_lay RX5 TX5 1 ∈ WT := wt_in 94 (by decide +kernel) (by decide +kernel)
theorem wy_X5_2 : u_lay RX5 TX5 2 ∈ WT := wt_in 96 (by decide +kernel) (by decide +kernel)
theorem wy_X5_3 : u_lay RX5 TX5 3 ∈ WT := wt_in 98 (by decide +kernel) (by decide +kernel)
theorem wy_X5_4 : u_lay RX5 TX5 4 ∈ WT := wt_in 100 (by decide +kernel) (by decide +kernel)
theorem wy_X5_5 : u_lay RX5 TX5 5 ∈ WT := wt_in 102 (by decide +kernel) (by decide +kernel)
theorem in_X5 : ∀ w ∈ u_ws RX5 TX5 6, w ∈ WT := fun w hw => by
  obtain ⟨k, hk, rfl⟩ := List.mem_map.mp hw
  have hk := List.mem_range.mp hk
  rcases (show k = 0 ∨ k = 1 ∨ k = 2 ∨ k = 3 ∨ k = 4 ∨ k = 5 by omega) with rfl | rfl | rfl | rfl | rfl | rfl
  · exact wy_X5_0
  · exact wy_X5_1
  · exact wy_X5_2
  · exact wy_X5_3
  · exact wy_X5_4
  · exact wy_X5_5
theorem fp_X5 : FP RX5 TX5 6 tyX5 := ⟨tyX5_ok, nmX5⟩
theorem wf_X5_9 : Cond.fieldLink RX5 9 (TX5 0).1 (TX5 0).2.1 (TX5 0).2.2.1 ∈ WT := wt_in 82 (by decide +kernel) (by decide +kernel)
theorem fl_X5_9 : FL RX5 RX5 TX5 6 5 0 9 false := ⟨in_X5, rfl, by decide, wf_X5_9, rfl⟩
theorem wf_X5_27 : Cond.fieldLink RX5 27 (TX5 5).1 (TX5 5).2.1 (TX5 5).2.2.1 ∈ WT := wt_in 91 (by decide +kernel) (by decide +kernel)
theorem fl_X5_27 : FL RX5 RX5 TX5 6 5 5 27 true := ⟨in_X5, rfl, by decide, wf_X5_27, rfl⟩
theorem wf_X5_24 : Cond.fieldLink RX5 24 (TX5 4).1 (TX5 4).2.1 (TX5 4).2.2.1 ∈ WT := wt_in 90 (by decide +kernel) (by decide +kernel)
theorem fl_X5_24 : FL RX5 RX5 TX5 6 5 4 24 false := ⟨in_X5, rfl, by decide, wf_X5_24, rfl⟩
theorem wf_X5_18 : Cond.fieldLink RX5 18 (TX5 2).1 (TX5 2).2.1 (TX5 2).2.2.1 ∈ WT := wt_in 86 (by decide +kernel) (by decide +kernel)
theorem fl_X5_18 : FL RX5 RX5 TX5 6 5 2 18 false := ⟨in_X5, rfl, by decide, wf_X5_18, rfl⟩
theorem wm_X5_34 : Cond.methodLink RX5 34 yX5_byteAt ∈ WT := wt_in 405 (by decide +kernel) (by decide +kernel)
theorem wc_X5_byteAt : Cond.code yX5_byteAt cX5_byteAt 2 (some .int) ∈ WT := wt_in 408 (by decide +kernel) (by decide +kernel)
theorem hy_X5_byteAt : (yX5_byteAt.cls = RX5 ∧ yX5_byteAt.cls ≠ "java/lang/invoke/MethodHandle" ∧ yX5_byteAt.cls ≠ "java/lang/invoke/VarHandle" ∧ (parseMethodDescriptor yX5_byteAt.desc).map (fun d => d.parameters.length) = some 1) := by decide +kernel
theorem wn_X5 : Cond.initialized RX5 ∈ WT := wt_in 38 (by decide +kernel) (by decide +kernel)
theorem wi_X5_byteAt : Cond.instanceMethod yX5_byteAt ∈ WT := wt_in 407 (by decide +kernel) (by decide +kernel)
theorem ws_X5_byteAt : Cond.selects RX5 yX5_byteAt yX5_byteAt ∈ WT := wt_in 3 (by decide +kernel) (by decide +kernel)
theorem kl_X5_34 : CLV RX5 RX5 5 34 yX5_byteAt cX5_byteAt 2 (some .int) 1 := ⟨⟨_, _, rfl⟩, wm_X5_34, wi_X5_byteAt, ws_X5_byteAt, wn_X5, wc_X5_byteAt, hy_X5_byteAt⟩
theorem wm_X5_38 : Cond.methodLink RX5 38 yX5_sortOf ∈ WT := wt_in 409 (by decide +kernel) (by decide +kernel)
theorem wc_X5_sortOf : Cond.code yX5_sortOf cX5_sortOf 1 (some .int) ∈ WT := wt_in 411 (by decide +kernel) (by decide +kernel)
theorem hy_X5_sortOf : (yX5_sortOf.cls = RX5 ∧ yX5_sortOf.cls ≠ "java/lang/invoke/MethodHandle" ∧ yX5_sortOf.cls ≠ "java/lang/invoke/VarHandle" ∧ (parseMethodDescriptor yX5_sortOf.desc).map (fun d => d.parameters.length) = some 1) := by decide +kernel
theorem wt_X5_sortOf : Cond.static yX5_sortOf ∈ WT := wt_in 410 (by decide +kernel) (by decide +kernel)
theorem kl_X5_38 : CLS RX5 38 yX5_sortOf cX5_sortOf 1 (some .int) 1 := ⟨wm_X5_38, wt_X5_sortOf, wn_X5, wc_X5_sortOf, hy_X5_sortOf.2⟩
theorem wf_X5_15 : Cond.fieldLink RX5 15 (TX5 1).1 (TX5 1).2.1 (TX5 1).2.2.1 ∈ WT := wt_in 84 (by decide +kernel) (by decide +kernel)
theorem fl_X5_15 : FL RX5 RX5 TX5 6 5 1 15 false := ⟨in_X5, rfl, by decide, wf_X5_15, rfl⟩
theorem wf_X5_21 : Cond.fieldLink RX5 21 (TX5 3).1 (TX5 3).2.1 (TX5 3).2.2.1 ∈ WT := wt_in 88 (by decide +kernel) (by decide +kernel)
theorem fl_X5_21 : FL RX5 RX5 TX5 6 5 3 21 false := ⟨in_X5, rfl, by decide, wf_X5_21, rfl⟩
theorem wm_X5_41 : Cond.methodLink RX5 41 Lib.Math.min.name ∈ WT := wt_in 412 (by decide +kernel) (by decide +kernel)
theorem wm_X5_31 : Cond.methodLink RX5 31 yX5_readNext ∈ WT := wt_in 401 (by decide +kernel) (by decide +kernel)
theorem wc_X5_readNext : Cond.code yX5_readNext cX5_readNext 3 none ∈ WT := wt_in 404 (by decide +kernel) (by decide +kernel)
theorem hy_X5_readNext : (yX5_readNext.cls = RX5 ∧ yX5_readNext.cls ≠ "java/lang/invoke/MethodHandle" ∧ yX5_readNext.cls ≠ "java/lang/invoke/VarHandle" ∧ (parseMethodDescriptor yX5_readNext.desc).map (fun d => d.parameters.length) = some 0) := by decide +kernel
theorem wi_X5_readNext : Cond.instanceMethod yX5_readNext ∈ WT := wt_in 402 (by decide +kernel) (by decide +kernel)
theorem ws_X5_readNext : Cond.selects RX5 yX5_readNext yX5_readNext ∈ WT := wt_in 403 (by decide +kernel) (by decide +kernel)
theorem kl_X5_31 : CLV RX5 RX5 5 31 yX5_readNext cX5_readNext 3 none 0 := ⟨⟨_, _, rfl⟩, wm_X5_31, wi_X5_readNext, ws_X5_readNext, wn_X5, wc_X5_readNext, hy_X5_readNext⟩
theorem wy_X2_0 : u_lay RX2 TX2 0 ∈ WT := wt_in 166 (by decide +kernel) (by decide +kernel)
theorem wy_X2_1 : u_lay RX2 TX2 1 ∈ WT := wt_in 168 (by decide +kernel) (by decide +kernel)
theorem wy_X2_2 : u_lay RX2 TX2 2 ∈ WT := wt_in 170 (by decide +kernel) (by decide +kernel)
theorem wy_X2_3 : u_lay RX2 TX2 3 ∈ WT := wt_in 172 (by decide +kernel) (by decide +kernel)
theorem wy_X2_4 : u_lay RX2 TX2 4 ∈ WT := wt_in 174 (by decide +kernel) (by decide +kernel)
theorem wy_X2_5 : u_lay RX2 TX2 5 ∈ WT := wt_in 176 (by decide +kernel) (by decide +kernel)
theorem wy_X2_6 : u_lay RX2 TX2 6 ∈ WT := wt_in 178 (by decide +kernel) (by decide +kernel)
theorem wy_X2_7 : u_lay RX2 TX2 7 ∈ WT := wt_in 180 (by decide +kernel) (by decide +kernel)
theorem wy_X2_8 : u_lay RX2 TX2 8 ∈ WT := wt_in 182 (by decide +kernel) (by decide +kernel)
theorem wy_X2_9 : u_lay RX2 TX2 9 ∈ WT := wt_in 184 (by decide +kernel) (by decide +kernel)
theorem wy_X2_10 : u_lay RX2 TX2 10 ∈ WT := wt_in 186 (by decide +kernel) (by decide +kernel)
theorem in_X2 : ∀ w ∈ u_ws RX2 TX2 11, w ∈ WT := fun w hw => by
  obtain ⟨k, hk, rfl⟩ := List.mem_map.mp hw
  have hk := List.mem_range.mp hk
  rcases (show k = 0 ∨ k = 1 ∨ k = 2 ∨ k = 3 ∨ k = 4 ∨ k = 5 ∨ k = 6 ∨ k = 7 ∨ k = 8 ∨ k = 9 ∨ k = 10 by omega) with rfl | rfl | rfl | rfl | rfl | rfl | rfl | rfl | rfl | rfl | rfl
  · exact wy_X2_0
  · exact wy_X2_1
  · exact wy_X2_2
  · exact wy_X2_3
  · exact wy_X2_4
  · exact wy_X2_5
  · exact wy_X2_6
  · exact wy_X2_7
  · exact wy_X2_8
  · exact wy_X2_9
  · exact wy_X2_10
theorem fp_X2 : FP RX2 TX2 11 tyX2 := ⟨tyX2_ok, nmX2⟩
theorem wf_X2_18 : Cond.fieldLink RX2 18 (TX2 1).1 (TX2 1).2.1 (TX2 1).2.2.1 ∈ WT := wt_in 150 (by decide +kernel) (by decide +kernel)
theorem fl_X2_18 : FL RX2 RX2 TX2 11 2 1 18 false := ⟨in_X2, rfl, by decide, wf_X2_18, rfl⟩
theorem wf_X2_22 : Cond.fieldLink RX2 22 (TX2 2).1 (TX2 2).2.1 (TX2 2).2.2.1 ∈ WT := wt_in 151 (by decide +kernel) (by decide +kernel)
theorem fl_X2_22 : FL RX2 RX2 TX2 11 2 2 22 false := ⟨in_X2, rfl, by decide, wf_X2_22, rfl⟩
theorem wf_X2_25 : Cond.fieldLink RX2 25 (TX2 3).1 (TX2 3).2.1 (TX2 3).2.2.1 ∈ WT := wt_in 152 (by decide +kernel) (by decide +kernel)
theorem fl_X2_25 : FL RX2 RX2 TX2 11 2 3 25 false := ⟨in_X2, rfl, by decide, wf_X2_25, rfl⟩
theorem wf_X2_28 : Cond.fieldLink RX2 28 (TX2 4).1 (TX2 4).2.1 (TX2 4).2.2.1 ∈ WT := wt_in 154 (by decide +kernel) (by decide +kernel)
theorem fl_X2_28 : FL RX2 RX2 TX2 11 2 4 28 false := ⟨in_X2, rfl, by decide, wf_X2_28, rfl⟩
theorem wf_X2_50 : Cond.fieldLink RX2 50 (TX2 10).1 (TX2 10).2.1 (TX2 10).2.2.1 ∈ WT := wt_in 165 (by decide +kernel) (by decide +kernel)
theorem fl_X2_50 : FL RX2 RX2 TX2 11 2 10 50 false := ⟨in_X2, rfl, by decide, wf_X2_50, rfl⟩
theorem wf_X2_12 : Cond.fieldLink RX2 12 (TX2 0).1 (TX2 0).2.1 (TX2 0).2.2.1 ∈ WT := wt_in 148 (by decide +kernel) (by decide +kernel)
theorem fl_X2_12 : FL RX2 RX2 TX2 11 2 0 12 true := ⟨in_X2, rfl, by decide, wf_X2_12, rfl⟩
theorem wm_X2_53 : Cond.methodLink RX2 53 yX5_readFirst ∈ WT := wt_in 397 (by decide +kernel) (by decide +kernel)
theorem wc_X5_readFirst : Cond.code yX5_readFirst cX5_readFirst 1 none ∈ WT := wt_in 400 (by decide +kernel) (by decide +kernel)
theorem hy_X5_readFirst : (yX5_readFirst.cls = RX5 ∧ yX5_readFirst.cls ≠ "java/lang/invoke/MethodHandle" ∧ yX5_readFirst.cls ≠ "java/lang/invoke/VarHandle" ∧ (parseMethodDescriptor yX5_readFirst.desc).map (fun d => d.parameters.length) = some 0) := by decide +kernel
theorem wi_X5_readFirst : Cond.instanceMethod yX5_readFirst ∈ WT := wt_in 398 (by decide +kernel) (by decide +kernel)
theorem ws_X5_readFirst : Cond.selects RX5 yX5_readFirst yX5_readFirst ∈ WT := wt_in 399 (by decide +kernel) (by decide +kernel)
theorem kl_X2_53 : CLV RX2 RX5 5 53 yX5_readFirst cX5_readFirst 1 none 0 := ⟨⟨_, _, rfl⟩, wm_X2_53, wi_X5_readFirst, ws_X5_readFirst, wn_X5, wc_X5_readFirst, hy_X5_readFirst⟩
theorem wf_X2_128 : Cond.fieldLink RX2 128 (TX5 2).1 (TX5 2).2.1 (TX5 2).2.2.1 ∈ WT := wt_in 87 (by decide +kernel) (by decide +kernel)
theorem fl_X2_128 : FL RX2 RX5 TX5 6 5 2 128 false := ⟨in_X5, rfl, by decide, wf_X2_128, rfl⟩
theorem wm_X2_137 : Cond.methodLink RX2 137 yX2_rejectAt ∈ WT := wt_in 480 (by decide +kernel) (by decide +kernel)
theorem wc_X2_rejectAt : Cond.code yX2_rejectAt cX2_rejectAt 3 (some .boolean) ∈ WT := wt_in 483 (by decide +kernel) (by decide +kernel)
theorem hy_X2_rejectAt : (yX2_rejectAt.cls = RX2 ∧ yX2_rejectAt.cls ≠ "java/lang/invoke/MethodHandle" ∧ yX2_rejectAt.cls ≠ "java/lang/invoke/VarHandle" ∧ (parseMethodDescriptor yX2_rejectAt.desc).map (fun d => d.parameters.length) = some 2) := by decide +kernel
theorem wn_X2 : Cond.initialized RX2 ∈ WT := wt_in 37 (by decide +kernel) (by decide +kernel)
theorem wi_X2_rejectAt : Cond.instanceMethod yX2_rejectAt ∈ WT := wt_in 482 (by decide +kernel) (by decide +kernel)
theorem ws_X2_rejectAt : Cond.selects RX2 yX2_rejectAt yX2_rejectAt ∈ WT := wt_in 6 (by decide +kernel) (by decide +kernel)
theorem kl_X2_137 : CLV RX2 RX2 2 137 yX2_rejectAt cX2_rejectAt 3 (some .boolean) 2 := ⟨⟨_, _, rfl⟩, wm_X2_137, wi_X2_rejectAt, ws_X2_rejectAt, wn_X2, wc_X2_rejectAt, hy_X2_rejectAt⟩
theorem wm_X2_96 : Cond.methodLink RX2 96 yX5_readNext ∈ WT := wt_in 484 (by decide +kernel) (by decide +kernel)
theorem kl_X2_96 : CLV RX2 RX5 5 96 yX5_readNext cX5_readNext 3 none 0 := ⟨⟨_, _, rfl⟩, wm_X2_96, wi_X5_readNext, ws_X5_readNext, wn_X5, wc_X5_readNext, hy_X5_readNext⟩
theorem wm_X2_67 : Cond.methodLink RX2 67 yX2_reject ∈ WT := wt_in 476 (by decide +kernel) (by decide +kernel)
theorem wc_X2_reject : Cond.code yX2_reject cX2_reject 2 (some .boolean) ∈ WT := wt_in 479 (by decide +kernel) (by decide +kernel)
theorem hy_X2_reject : (yX2_reject.cls = RX2 ∧ yX2_reject.cls ≠ "java/lang/invoke/MethodHandle" ∧ yX2_reject.cls ≠ "java/lang/invoke/VarHandle" ∧ (parseMethodDescriptor yX2_reject.desc).map (fun d => d.parameters.length) = some 1) := by decide +kernel
theorem wi_X2_reject : Cond.instanceMethod yX2_reject ∈ WT := wt_in 478 (by decide +kernel) (by decide +kernel)
theorem ws_X2_reject : Cond.selects RX2 yX2_reject yX2_reject ∈ WT := wt_in 5 (by decide +kernel) (by decide +kernel)
theorem kl_X2_67 : CLV RX2 RX2 2 67 yX2_reject cX2_reject 2 (some .boolean) 1 := ⟨⟨_, _, rfl⟩, wm_X2_67, wi_X2_reject, ws_X2_reject, wn_X2, wc_X2_reject, hy_X2_reject⟩
theorem wm_X5_3 : Cond.methodLink RX5 3 Lib.objectInit ∈ WT := wt_in 81 (by decide +kernel) (by decide +kernel)
theorem wm_X2_3 : Cond.methodLink RX2 3 Lib.objectInit ∈ WT := wt_in 75 (by decide +kernel) (by decide +kernel)
theorem wl_X2_9 : Cond.classLink RX2 9 RX5 ∈ WT := wt_in 76 (by decide +kernel) (by decide +kernel)
theorem wx_X5 : Cond.instantiable RX5 6 ∈ WT := wt_in 77 (by decide +kernel) (by decide +kernel)
theorem df_X5 : ∀ j, j < 6 → defaultValue (tyX5 j) = if (fk (5 + 10)).getD j false = true then .null else .int 0 := fun j hj => by
  rcases (show j = 0 ∨ j = 1 ∨ j = 2 ∨ j = 3 ∨ j = 4 ∨ j = 5 by omega) with rfl | rfl | rfl | rfl | rfl | rfl <;> rfl
theorem wc_X5_init : Cond.code yX5_init cX5_init 1 none ∈ WT := wt_in 80 (by decide +kernel) (by decide +kernel)
theorem hy_X5_init : (yX5_init.cls = RX5 ∧ yX5_init.cls ≠ "java/lang/invoke/MethodHandle" ∧ yX5_init.cls ≠ "java/lang/invoke/VarHandle" ∧ (parseMethodDescriptor yX5_init.desc).map (fun d => d.parameters.length) = some 0) := by decide +kernel
theorem wi_X5_init : Cond.instanceMethod yX5_init ∈ WT := wt_in 79 (by decide +kernel) (by decide +kernel)
theorem kl_X2_11 : CLI RX2 11 yX5_init cX5_init 1 0 := ⟨Or.inr (by decide +kernel), wi_X5_init, wn_X5, wc_X5_init, rfl, hy_X5_init.2⟩
theorem wf_X2_31 : Cond.fieldLink RX2 31 (TX2 5).1 (TX2 5).2.1 (TX2 5).2.2.1 ∈ WT := wt_in 155 (by decide +kernel) (by decide +kernel)
theorem fl_X2_31 : FL RX2 RX2 TX2 11 2 5 31 false := ⟨in_X2, rfl, by decide, wf_X2_31, rfl⟩
theorem wl_X2_34 : Cond.classLink RX2 34 RX1 ∈ WT := wt_in 106 (by decide +kernel) (by decide +kernel)
theorem wx_X1 : Cond.instantiable RX1 7 ∈ WT := wt_in 107 (by decide +kernel) (by decide +kernel)
theorem df_X1 : ∀ j, j < 7 → defaultValue (tyX1 j) = if (fk (1 + 10)).getD j false = true then .null else .int 0 := fun j hj => by
  rcases (show j = 0 ∨ j = 1 ∨ j = 2 ∨ j = 3 ∨ j = 4 ∨ j = 5 ∨ j = 6 by omega) with rfl | rfl | rfl | rfl | rfl | rfl | rfl <;> rfl
theorem wc_X1_init : Cond.code yX1_init cX1_init 1 none ∈ WT := wt_in 110 (by decide +kernel) (by decide +kernel)
theorem hy_X1_init : (yX1_init.cls = RX1 ∧ yX1_init.cls ≠ "java/lang/invoke/MethodHandle" ∧ yX1_init.cls ≠ "java/lang/invoke/VarHandle" ∧ (parseMethodDescriptor yX1_init.desc).map (fun d => d.parameters.length) = some 0) := by decide +kernel
theorem wi_X1_init : Cond.instanceMethod yX1_init ∈ WT := wt_in 109 (by decide +kernel) (by decide +kernel)
theorem kl_X2_36 : CLI RX2 36 yX1_init cX1_init 1 0 := ⟨Or.inr (by decide +kernel), wi_X1_init, wn_X1, wc_X1_init, rfl, hy_X1_init.2⟩
theorem wf_X2_37 : Cond.fieldLink RX2 37 (TX2 6).1 (TX2 6).2.1 (TX2 6).2.2.1 ∈ WT := wt_in 157 (by decide +kernel) (by decide +kernel)
theorem fl_X2_37 : FL RX2 RX2 TX2 11 2 6 37 true := ⟨in_X2, rfl, by decide, wf_X2_37, rfl⟩
theorem wf_X2_41 : Cond.fieldLink RX2 41 (TX2 7).1 (TX2 7).2.1 (TX2 7).2.2.1 ∈ WT := wt_in 159 (by decide +kernel) (by decide +kernel)
theorem fl_X2_41 : FL RX2 RX2 TX2 11 2 7 41 false := ⟨in_X2, rfl, by decide, wf_X2_41, rfl⟩
theorem wf_X2_44 : Cond.fieldLink RX2 44 (TX2 8).1 (TX2 8).2.1 (TX2 8).2.2.1 ∈ WT := wt_in 161 (by decide +kernel) (by decide +kernel)
theorem fl_X2_44 : FL RX2 RX2 TX2 11 2 8 44 false := ⟨in_X2, rfl, by decide, wf_X2_44, rfl⟩
theorem wf_X2_47 : Cond.fieldLink RX2 47 (TX2 9).1 (TX2 9).2.1 (TX2 9).2.2.1 ∈ WT := wt_in 163 (by decide +kernel) (by decide +kernel)
theorem fl_X2_47 : FL RX2 RX2 TX2 11 2 9 47 false := ⟨in_X2, rfl, by decide, wf_X2_47, rfl⟩
theorem wf_X2_56 : Cond.fieldLink RX2 56 (TX5 1).1 (TX5 1).2.1 (TX5 1).2.2.1 ∈ WT := wt_in 85 (by decide +kernel) (by decide +kernel)
theorem fl_X2_56 : FL RX2 RX5 TX5 6 5 1 56 false := ⟨in_X5, rfl, by decide, wf_X2_56, rfl⟩
theorem wm_X5_47 : Cond.methodLink RX5 47 yJ0_length_8abf5 ∈ WT := wt_in 428 (by decide +kernel) (by decide +kernel)
theorem kl_X5_47 : CLT RX5 47 yJ0_length_8abf5 cJ0_length_8abf5 1 (some .int) 0 := ⟨wm_X5_47, wi_J0_length_8abf5, ws_J0_length_8abf5, wn_J0, wc_J0_length_8abf5, hy_J0_length_8abf5⟩
theorem wm_X5_52 : Cond.methodLink RX5 52 yJ0_charAt_5068e ∈ WT := wt_in 438 (by decide +kernel) (by decide +kernel)
theorem wc_J0_charAt_5068e : Cond.code yJ0_charAt_5068e cJ0_charAt_5068e 2 (some .char) ∈ WT := wt_in 441 (by decide +kernel) (by decide +kernel)
theorem hy_J0_charAt_5068e : (yJ0_charAt_5068e.cls = RJ0 ∧ yJ0_charAt_5068e.cls ≠ "java/lang/invoke/MethodHandle" ∧ yJ0_charAt_5068e.cls ≠ "java/lang/invoke/VarHandle" ∧ (parseMethodDescriptor yJ0_charAt_5068e.desc).map (fun d => d.parameters.length) = some 1) := by decide +kernel
theorem wi_J0_charAt_5068e : Cond.instanceMethod yJ0_charAt_5068e ∈ WT := wt_in 439 (by decide +kernel) (by decide +kernel)
theorem ws_J0_charAt_5068e : Cond.selects RJ0 yJ0_charAt_5068e yJ0_charAt_5068e ∈ WT := wt_in 440 (by decide +kernel) (by decide +kernel)
theorem kl_X5_52 : CLT RX5 52 yJ0_charAt_5068e cJ0_charAt_5068e 2 (some .char) 1 := ⟨wm_X5_52, wi_J0_charAt_5068e, ws_J0_charAt_5068e, wn_J0, wc_J0_charAt_5068e, hy_J0_charAt_5068e⟩
theorem st_X2_117 : (RX2, 117, "white", 1) ∈ strTab := by decide +kernel
theorem wm_X2_79 : Cond.methodLink RX2 79 yX5_is ∈ WT := wt_in 424 (by decide +kernel) (by decide +kernel)
theorem wc_X5_is : Cond.code yX5_is cX5_is 3 (some .boolean) ∈ WT := wt_in 427 (by decide +kernel) (by decide +kernel)
theorem hy_X5_is : (yX5_is.cls = RX5 ∧ yX5_is.cls ≠ "java/lang/invoke/MethodHandle" ∧ yX5_is.cls ≠ "java/lang/invoke/VarHandle" ∧ (parseMethodDescriptor yX5_is.desc).map (fun d => d.parameters.length) = some 1) := by decide +kernel
theorem wi_X5_is : Cond.instanceMethod yX5_is ∈ WT := wt_in 425 (by decide +kernel) (by decide +kernel)
theorem ws_X5_is : Cond.selects RX5 yX5_is yX5_is ∈ WT := wt_in 426 (by decide +kernel) (by decide +kernel)
theorem kl_X2_79 : CLV RX2 RX5 5 79 yX5_is cX5_is 3 (some .boolean) 1 := ⟨⟨_, _, rfl⟩, wm_X2_79, wi_X5_is, ws_X5_is, wn_X5, wc_X5_is, hy_X5_is⟩
theorem st_X2_119 : (RX2, 119, "black", 2) ∈ strTab := by decide +kernel
theorem st_X2_148 : (RX2, 148, "king", 3) ∈ strTab := by decide +kernel
theorem st_X2_150 : (RX2, 150, "queen", 4) ∈ strTab := by decide +kernel
theorem st_X2_152 : (RX2, 152, "rook", 5) ∈ strTab := by decide +kernel
theorem st_X2_154 : (RX2, 154, "bishop", 6) ∈ strTab := by decide +kernel
theorem st_X2_156 : (RX2, 156, "knight", 7) ∈ strTab := by decide +kernel
theorem wf_X2_192 : Cond.fieldLink RX2 192 (TX5 3).1 (TX5 3).2.1 (TX5 3).2.2.1 ∈ WT := wt_in 89 (by decide +kernel) (by decide +kernel)
theorem fl_X2_192 : FL RX2 RX5 TX5 6 5 3 192 false := ⟨in_X5, rfl, by decide, wf_X2_192, rfl⟩
theorem st_X2_106 : (RX2, 106, "board", 0) ∈ strTab := by decide +kernel
theorem wm_X2_107 : Cond.methodLink RX2 107 yX2_readNumber ∈ WT := wt_in 485 (by decide +kernel) (by decide +kernel)
theorem wc_X2_readNumber : Cond.code yX2_readNumber cX2_readNumber 4 (some .int) ∈ WT := wt_in 488 (by decide +kernel) (by decide +kernel)
theorem hy_X2_readNumber : (yX2_readNumber.cls = RX2 ∧ yX2_readNumber.cls ≠ "java/lang/invoke/MethodHandle" ∧ yX2_readNumber.cls ≠ "java/lang/invoke/VarHandle" ∧ (parseMethodDescriptor yX2_readNumber.desc).map (fun d => d.parameters.length) = some 2) := by decide +kernel
theorem wi_X2_readNumber : Cond.instanceMethod yX2_readNumber ∈ WT := wt_in 487 (by decide +kernel) (by decide +kernel)
theorem ws_X2_readNumber : Cond.selects RX2 yX2_readNumber yX2_readNumber ∈ WT := wt_in 7 (by decide +kernel) (by decide +kernel)
theorem kl_X2_107 : CLV RX2 RX2 2 107 yX2_readNumber cX2_readNumber 4 (some .int) 2 := ⟨⟨_, _, rfl⟩, wm_X2_107, wi_X2_readNumber, ws_X2_readNumber, wn_X2, wc_X2_readNumber, hy_X2_readNumber⟩
theorem wm_X2_103 : Cond.methodLink RX2 103 yX2_isSemicolon ∈ WT := wt_in 489 (by decide +kernel) (by decide +kernel)
theorem wc_X2_isSemicolon : Cond.code yX2_isSemicolon cX2_isSemicolon 1 (some .boolean) ∈ WT := wt_in 492 (by decide +kernel) (by decide +kernel)
theorem hy_X2_isSemicolon : (yX2_isSemicolon.cls = RX2 ∧ yX2_isSemicolon.cls ≠ "java/lang/invoke/MethodHandle" ∧ yX2_isSemicolon.cls ≠ "java/lang/invoke/VarHandle" ∧ (parseMethodDescriptor yX2_isSemicolon.desc).map (fun d => d.parameters.length) = some 0) := by decide +kernel
theorem wi_X2_isSemicolon : Cond.instanceMethod yX2_isSemicolon ∈ WT := wt_in 491 (by decide +kernel) (by decide +kernel)
theorem ws_X2_isSemicolon : Cond.selects RX2 yX2_isSemicolon yX2_isSemicolon ∈ WT := wt_in 8 (by decide +kernel) (by decide +kernel)
theorem kl_X2_103 : CLV RX2 RX2 2 103 yX2_isSemicolon cX2_isSemicolon 1 (some .boolean) 0 := ⟨⟨_, _, rfl⟩, wm_X2_103, wi_X2_isSemicolon, ws_X2_isSemicolon, wn_X2, wc_X2_isSemicolon, hy_X2_isSemicolon⟩
theorem wm_X2_111 : Cond.methodLink RX2 111 yX0_resize ∈ WT := wt_in 493 (by decide +kernel) (by decide +kernel)
theorem wc_X0_resize : Cond.code yX0_resize cX0_resize 5 none ∈ WT := wt_in 300 (by decide +kernel) (by decide +kernel)
theorem hy_X0_resize : (yX0_resize.cls = RX0 ∧ yX0_resize.cls ≠ "java/lang/invoke/MethodHandle" ∧ yX0_resize.cls ≠ "java/lang/invoke/VarHandle" ∧ (parseMethodDescriptor yX0_resize.desc).map (fun d => d.parameters.length) = some 2) := by decide +kernel
theorem wi_X0_resize : Cond.instanceMethod yX0_resize ∈ WT := wt_in 298 (by decide +kernel) (by decide +kernel)
theorem ws_X0_resize : Cond.selects RX0 yX0_resize yX0_resize ∈ WT := wt_in 299 (by decide +kernel) (by decide +kernel)
theorem kl_X2_111 : CLV RX2 RX0 0 111 yX0_resize cX0_resize 5 none 2 := ⟨⟨_, _, rfl⟩, wm_X2_111, wi_X0_resize, ws_X0_resize, wn_X0, wc_X0_resize, hy_X0_resize⟩
theorem wm_X2_121 : Cond.methodLink RX2 121 yX2_kindHere ∈ WT := wt_in 504 (by decide +kernel) (by decide +kernel)
theorem wc_X2_kindHere : Cond.code yX2_kindHere cX2_kindHere 1 (some .int) ∈ WT := wt_in 507 (by decide +kernel) (by decide +kernel)
theorem hy_X2_kindHere : (yX2_kindHere.cls = RX2 ∧ yX2_kindHere.cls ≠ "java/lang/invoke/MethodHandle" ∧ yX2_kindHere.cls ≠ "java/lang/invoke/VarHandle" ∧ (parseMethodDescriptor yX2_kindHere.desc).map (fun d => d.parameters.length) = some 0) := by decide +kernel
theorem wi_X2_kindHere : Cond.instanceMethod yX2_kindHere ∈ WT := wt_in 506 (by decide +kernel) (by decide +kernel)
theorem ws_X2_kindHere : Cond.selects RX2 yX2_kindHere yX2_kindHere ∈ WT := wt_in 11 (by decide +kernel) (by decide +kernel)
theorem kl_X2_121 : CLV RX2 RX2 2 121 yX2_kindHere cX2_kindHere 1 (some .int) 0 := ⟨⟨_, _, rfl⟩, wm_X2_121, wi_X2_kindHere, ws_X2_kindHere, wn_X2, wc_X2_kindHere, hy_X2_kindHere⟩
theorem wm_X2_160 : Cond.methodLink RX2 160 yX1_state ∈ WT := wt_in 538 (by decide +kernel) (by decide +kernel)
theorem wc_X1_state : Cond.code yX1_state cX1_state 7 none ∈ WT := wt_in 541 (by decide +kernel) (by decide +kernel)
theorem hy_X1_state : (yX1_state.cls = RX1 ∧ yX1_state.cls ≠ "java/lang/invoke/MethodHandle" ∧ yX1_state.cls ≠ "java/lang/invoke/VarHandle" ∧ (parseMethodDescriptor yX1_state.desc).map (fun d => d.parameters.length) = some 6) := by decide +kernel
theorem wi_X1_state : Cond.instanceMethod yX1_state ∈ WT := wt_in 539 (by decide +kernel) (by decide +kernel)
theorem ws_X1_state : Cond.selects RX1 yX1_state yX1_state ∈ WT := wt_in 540 (by decide +kernel) (by decide +kernel)
theorem kl_X2_160 : CLV RX2 RX1 1 160 yX1_state cX1_state 7 none 6 := ⟨⟨_, _, rfl⟩, wm_X2_160, wi_X1_state, ws_X1_state, wn_X1, wc_X1_state, hy_X1_state⟩
theorem st_X2_164 : (RX2, 164, "from", 12) ∈ strTab := by decide +kernel
theorem wm_X2_166 : Cond.methodLink RX2 166 yX2_isPassed ∈ WT := wt_in 543 (by decide +kernel) (by decide +kernel)
theorem wc_X2_isPassed : Cond.code yX2_isPassed cX2_isPassed 2 (some .boolean) ∈ WT := wt_in 546 (by decide +kernel) (by decide +kernel)
theorem hy_X2_isPassed : (yX2_isPassed.cls = RX2 ∧ yX2_isPassed.cls ≠ "java/lang/invoke/MethodHandle" ∧ yX2_isPassed.cls ≠ "java/lang/invoke/VarHandle" ∧ (parseMethodDescriptor yX2_isPassed.desc).map (fun d => d.parameters.length) = some 1) := by decide +kernel
theorem wi_X2_isPassed : Cond.instanceMethod yX2_isPassed ∈ WT := wt_in 545 (by decide +kernel) (by decide +kernel)
theorem ws_X2_isPassed : Cond.selects RX2 yX2_isPassed yX2_isPassed ∈ WT := wt_in 14 (by decide +kernel) (by decide +kernel)
theorem kl_X2_166 : CLV RX2 RX2 2 166 yX2_isPassed cX2_isPassed 2 (some .boolean) 1 := ⟨⟨_, _, rfl⟩, wm_X2_166, wi_X2_isPassed, ws_X2_isPassed, wn_X2, wc_X2_isPassed, hy_X2_isPassed⟩
theorem st_X2_172 : (RX2, 172, "to", 13) ∈ strTab := by decide +kernel
theorem st_X2_180 : (RX2, 180, "takes", 14) ∈ strTab := by decide +kernel
theorem wf_X2_182 : Cond.fieldLink RX2 182 (TX1 5).1 (TX1 5).2.1 (TX1 5).2.2.1 ∈ WT := wt_in 128 (by decide +kernel) (by decide +kernel)
theorem fl_X2_182 : FL RX2 RX1 TX1 7 1 5 182 false := ⟨in_X1, rfl, by decide, wf_X2_182, rfl⟩
theorem st_X2_185 : (RX2, 185, "check", 15) ∈ strTab := by decide +kernel
theorem wf_X2_187 : Cond.fieldLink RX2 187 (TX1 6).1 (TX1 6).2.1 (TX1 6).2.2.1 ∈ WT := wt_in 131 (by decide +kernel) (by decide +kernel)
theorem fl_X2_187 : FL RX2 RX1 TX1 7 1 6 187 false := ⟨in_X1, rfl, by decide, wf_X2_187, rfl⟩
theorem wf_X2_125 : Cond.fieldLink RX2 125 (TX0 0).1 (TX0 0).2.1 (TX0 0).2.2.1 ∈ WT := wt_in 224 (by decide +kernel) (by decide +kernel)
theorem fl_X2_125 : FL RX2 RX0 TX0 7 0 0 125 false := ⟨in_X0, rfl, by decide, wf_X2_125, rfl⟩
theorem wf_X2_174 : Cond.fieldLink RX2 174 (TX1 3).1 (TX1 3).2.1 (TX1 3).2.2.1 ∈ WT := wt_in 122 (by decide +kernel) (by decide +kernel)
theorem fl_X2_174 : FL RX2 RX1 TX1 7 1 3 174 false := ⟨in_X1, rfl, by decide, wf_X2_174, rfl⟩
theorem wf_X2_131 : Cond.fieldLink RX2 131 (TX0 1).1 (TX0 1).2.1 (TX0 1).2.2.1 ∈ WT := wt_in 228 (by decide +kernel) (by decide +kernel)
theorem fl_X2_131 : FL RX2 RX0 TX0 7 0 1 131 false := ⟨in_X0, rfl, by decide, wf_X2_131, rfl⟩
theorem wf_X2_177 : Cond.fieldLink RX2 177 (TX1 4).1 (TX1 4).2.1 (TX1 4).2.2.1 ∈ WT := wt_in 125 (by decide +kernel) (by decide +kernel)
theorem fl_X2_177 : FL RX2 RX1 TX1 7 1 4 177 false := ⟨in_X1, rfl, by decide, wf_X2_177, rfl⟩
theorem wf_X2_169 : Cond.fieldLink RX2 169 (TX1 1).1 (TX1 1).2.1 (TX1 1).2.2.1 ∈ WT := wt_in 116 (by decide +kernel) (by decide +kernel)
theorem fl_X2_169 : FL RX2 RX1 TX1 7 1 1 169 false := ⟨in_X1, rfl, by decide, wf_X2_169, rfl⟩
theorem st_X2_158 : (RX2, 158, "any", 11) ∈ strTab := by decide +kernel
theorem wy_X3_0 : u_lay RX3 TX3 0 ∈ WT := wt_in 273 (by decide +kernel) (by decide +kernel)
theorem wy_X3_1 : u_lay RX3 TX3 1 ∈ WT := wt_in 275 (by decide +kernel) (by decide +kernel)
theorem wy_X3_2 : u_lay RX3 TX3 2 ∈ WT := wt_in 277 (by decide +kernel) (by decide +kernel)
theorem wy_X3_3 : u_lay RX3 TX3 3 ∈ WT := wt_in 279 (by decide +kernel) (by decide +kernel)
theorem wy_X3_4 : u_lay RX3 TX3 4 ∈ WT := wt_in 281 (by decide +kernel) (by decide +kernel)
theorem wy_X3_5 : u_lay RX3 TX3 5 ∈ WT := wt_in 283 (by decide +kernel) (by decide +kernel)
theorem wy_X3_6 : u_lay RX3 TX3 6 ∈ WT := wt_in 285 (by decide +kernel) (by decide +kernel)
theorem wy_X3_7 : u_lay RX3 TX3 7 ∈ WT := wt_in 287 (by decide +kernel) (by decide +kernel)
theorem wy_X3_8 : u_lay RX3 TX3 8 ∈ WT := wt_in 289 (by decide +kernel) (by decide +kernel)
theorem in_X3 : ∀ w ∈ u_ws RX3 TX3 9, w ∈ WT := fun w hw => by
  obtain ⟨k, hk, rfl⟩ := List.mem_map.mp hw
  have hk := List.mem_range.mp hk
  rcases (show k = 0 ∨ k = 1 ∨ k = 2 ∨ k = 3 ∨ k = 4 ∨ k = 5 ∨ k = 6 ∨ k = 7 ∨ k = 8 by omega) with rfl | rfl | rfl | rfl | rfl | rfl | rfl | rfl | rfl
  · exact wy_X3_0
  · exact wy_X3_1
  · exact wy_X3_2
  · exact wy_X3_3
  · exact wy_X3_4
  · exact wy_X3_5
  · exact wy_X3_6
  · exact wy_X3_7
  · exact wy_X3_8
theorem fp_X3 : FP RX3 TX3 9 tyX3 := ⟨tyX3_ok, nmX3⟩
theorem wf_X2_189 : Cond.fieldLink RX2 189 (TX3 1).1 (TX3 1).2.1 (TX3 1).2.2.1 ∈ WT := wt_in 261 (by decide +kernel) (by decide +kernel)
theorem fl_X2_189 : FL RX2 RX3 TX3 9 3 1 189 false := ⟨in_X3, rfl, by decide, wf_X2_189, rfl⟩
theorem wf_X2_87 : Cond.fieldLink RX2 87 (TX3 0).1 (TX3 0).2.1 (TX3 0).2.2.1 ∈ WT := wt_in 257 (by decide +kernel) (by decide +kernel)
theorem fl_X2_87 : FL RX2 RX3 TX3 9 3 0 87 true := ⟨in_X3, rfl, by decide, wf_X2_87, rfl⟩
theorem st_X2_77 : (RX2, 77, "note", 8) ∈ strTab := by decide +kernel
theorem st_X2_83 : (RX2, 83, "origin", 9) ∈ strTab := by decide +kernel
theorem st_X2_85 : (RX2, 85, "drop", 10) ∈ strTab := by decide +kernel
theorem wm_X2_99 : Cond.methodLink RX2 99 yX2_readOrigin ∈ WT := wt_in 550 (by decide +kernel) (by decide +kernel)
theorem wc_X2_readOrigin : Cond.code yX2_readOrigin cX2_readOrigin 2 (some .boolean) ∈ WT := wt_in 553 (by decide +kernel) (by decide +kernel)
theorem hy_X2_readOrigin : (yX2_readOrigin.cls = RX2 ∧ yX2_readOrigin.cls ≠ "java/lang/invoke/MethodHandle" ∧ yX2_readOrigin.cls ≠ "java/lang/invoke/VarHandle" ∧ (parseMethodDescriptor yX2_readOrigin.desc).map (fun d => d.parameters.length) = some 1) := by decide +kernel
theorem wi_X2_readOrigin : Cond.instanceMethod yX2_readOrigin ∈ WT := wt_in 552 (by decide +kernel) (by decide +kernel)
theorem ws_X2_readOrigin : Cond.selects RX2 yX2_readOrigin yX2_readOrigin ∈ WT := wt_in 15 (by decide +kernel) (by decide +kernel)
theorem kl_X2_99 : CLV RX2 RX2 2 99 yX2_readOrigin cX2_readOrigin 2 (some .boolean) 1 := ⟨⟨_, _, rfl⟩, wm_X2_99, wi_X2_readOrigin, ws_X2_readOrigin, wn_X2, wc_X2_readOrigin, hy_X2_readOrigin⟩
theorem wm_X2_93 : Cond.methodLink RX2 93 yX2_readNote ∈ WT := wt_in 533 (by decide +kernel) (by decide +kernel)
theorem wc_X2_readNote : Cond.code yX2_readNote cX2_readNote 3 (some .boolean) ∈ WT := wt_in 536 (by decide +kernel) (by decide +kernel)
theorem hy_X2_readNote : (yX2_readNote.cls = RX2 ∧ yX2_readNote.cls ≠ "java/lang/invoke/MethodHandle" ∧ yX2_readNote.cls ≠ "java/lang/invoke/VarHandle" ∧ (parseMethodDescriptor yX2_readNote.desc).map (fun d => d.parameters.length) = some 1) := by decide +kernel
theorem wi_X2_readNote : Cond.instanceMethod yX2_readNote ∈ WT := wt_in 535 (by decide +kernel) (by decide +kernel)
theorem ws_X2_readNote : Cond.selects RX2 yX2_readNote yX2_readNote ∈ WT := wt_in 13 (by decide +kernel) (by decide +kernel)
theorem kl_X2_93 : CLV RX2 RX2 2 93 yX2_readNote cX2_readNote 3 (some .boolean) 1 := ⟨⟨_, _, rfl⟩, wm_X2_93, wi_X2_readNote, ws_X2_readNote, wn_X2, wc_X2_readNote, hy_X2_readNote⟩
theorem wm_X2_134 : Cond.methodLink RX2 134 yX0_at ∈ WT := wt_in 513 (by decide +kernel) (by decide +kernel)
theorem kl_X2_134 : CLV RX2 RX0 0 134 yX0_at cX0_at 3 (some .int) 2 := ⟨⟨_, _, rfl⟩, wm_X2_134, wi_X0_at, ws_X0_at, wn_X0, wc_X0_at, hy_X0_at⟩
theorem wc_X6_contentOf : Cond.code yX6_contentOf cX6_contentOf 2 (some .int) ∈ WT := wt_in 319 (by decide +kernel) (by decide +kernel)
theorem hy_X6_contentOf : (yX6_contentOf.cls = RX6 ∧ yX6_contentOf.cls ≠ "java/lang/invoke/MethodHandle" ∧ yX6_contentOf.cls ≠ "java/lang/invoke/VarHandle" ∧ (parseMethodDescriptor yX6_contentOf.desc).map (fun d => d.parameters.length) = some 2) := by decide +kernel
theorem wt_X6_contentOf : Cond.static yX6_contentOf ∈ WT := wt_in 318 (by decide +kernel) (by decide +kernel)
theorem kl_X2_141 : CLN RX2 141 yX6_contentOf cX6_contentOf 2 (some .int) 2 := ⟨by decide +kernel, wt_X6_contentOf, wn_X6, wc_X6_contentOf, hy_X6_contentOf.2⟩
theorem wm_X2_144 : Cond.methodLink RX2 144 yX0_put ∈ WT := wt_in 515 (by decide +kernel) (by decide +kernel)
theorem kl_X2_144 : CLV RX2 RX0 0 144 yX0_put cX0_put 5 none 3 := ⟨⟨_, _, rfl⟩, wm_X2_144, wi_X0_put, ws_X0_put, wn_X0, wc_X0_put, hy_X0_put⟩
theorem wm_X2_59 : Cond.methodLink RX2 59 yX2_readBoard ∈ WT := wt_in 419 (by decide +kernel) (by decide +kernel)
theorem wc_X2_readBoard : Cond.code yX2_readBoard cX2_readBoard 4 (some .boolean) ∈ WT := wt_in 422 (by decide +kernel) (by decide +kernel)
theorem hy_X2_readBoard : (yX2_readBoard.cls = RX2 ∧ yX2_readBoard.cls ≠ "java/lang/invoke/MethodHandle" ∧ yX2_readBoard.cls ≠ "java/lang/invoke/VarHandle" ∧ (parseMethodDescriptor yX2_readBoard.desc).map (fun d => d.parameters.length) = some 1) := by decide +kernel
theorem wi_X2_readBoard : Cond.instanceMethod yX2_readBoard ∈ WT := wt_in 421 (by decide +kernel) (by decide +kernel)
theorem ws_X2_readBoard : Cond.selects RX2 yX2_readBoard yX2_readBoard ∈ WT := wt_in 4 (by decide +kernel) (by decide +kernel)
theorem kl_X2_59 : CLV RX2 RX2 2 59 yX2_readBoard cX2_readBoard 4 (some .boolean) 1 := ⟨⟨_, _, rfl⟩, wm_X2_59, wi_X2_readBoard, ws_X2_readBoard, wn_X2, wc_X2_readBoard, hy_X2_readBoard⟩
theorem wm_X2_74 : Cond.methodLink RX2 74 yX2_isAtEnd ∈ WT := wt_in 516 (by decide +kernel) (by decide +kernel)
theorem wc_X2_isAtEnd : Cond.code yX2_isAtEnd cX2_isAtEnd 1 (some .boolean) ∈ WT := wt_in 519 (by decide +kernel) (by decide +kernel)
theorem hy_X2_isAtEnd : (yX2_isAtEnd.cls = RX2 ∧ yX2_isAtEnd.cls ≠ "java/lang/invoke/MethodHandle" ∧ yX2_isAtEnd.cls ≠ "java/lang/invoke/VarHandle" ∧ (parseMethodDescriptor yX2_isAtEnd.desc).map (fun d => d.parameters.length) = some 0) := by decide +kernel
theorem wi_X2_isAtEnd : Cond.instanceMethod yX2_isAtEnd ∈ WT := wt_in 517 (by decide +kernel) (by decide +kernel)
theorem ws_X2_isAtEnd : Cond.selects RX2 yX2_isAtEnd yX2_isAtEnd ∈ WT := wt_in 518 (by decide +kernel) (by decide +kernel)
theorem kl_X2_74 : CLV RX2 RX2 2 74 yX2_isAtEnd cX2_isAtEnd 1 (some .boolean) 0 := ⟨⟨_, _, rfl⟩, wm_X2_74, wi_X2_isAtEnd, ws_X2_isAtEnd, wn_X2, wc_X2_isAtEnd, hy_X2_isAtEnd⟩
theorem wm_X2_63 : Cond.methodLink RX2 63 yX2_isColour ∈ WT := wt_in 494 (by decide +kernel) (by decide +kernel)
theorem wc_X2_isColour : Cond.code yX2_isColour cX2_isColour 1 (some .boolean) ∈ WT := wt_in 497 (by decide +kernel) (by decide +kernel)
theorem hy_X2_isColour : (yX2_isColour.cls = RX2 ∧ yX2_isColour.cls ≠ "java/lang/invoke/MethodHandle" ∧ yX2_isColour.cls ≠ "java/lang/invoke/VarHandle" ∧ (parseMethodDescriptor yX2_isColour.desc).map (fun d => d.parameters.length) = some 0) := by decide +kernel
theorem wi_X2_isColour : Cond.instanceMethod yX2_isColour ∈ WT := wt_in 496 (by decide +kernel) (by decide +kernel)
theorem ws_X2_isColour : Cond.selects RX2 yX2_isColour yX2_isColour ∈ WT := wt_in 9 (by decide +kernel) (by decide +kernel)
theorem kl_X2_63 : CLV RX2 RX2 2 63 yX2_isColour cX2_isColour 1 (some .boolean) 0 := ⟨⟨_, _, rfl⟩, wm_X2_63, wi_X2_isColour, ws_X2_isColour, wn_X2, wc_X2_isColour, hy_X2_isColour⟩
theorem wm_X2_71 : Cond.methodLink RX2 71 yX2_readPiece ∈ WT := wt_in 500 (by decide +kernel) (by decide +kernel)
theorem wc_X2_readPiece : Cond.code yX2_readPiece cX2_readPiece 7 (some .boolean) ∈ WT := wt_in 503 (by decide +kernel) (by decide +kernel)
theorem hy_X2_readPiece : (yX2_readPiece.cls = RX2 ∧ yX2_readPiece.cls ≠ "java/lang/invoke/MethodHandle" ∧ yX2_readPiece.cls ≠ "java/lang/invoke/VarHandle" ∧ (parseMethodDescriptor yX2_readPiece.desc).map (fun d => d.parameters.length) = some 1) := by decide +kernel
theorem wi_X2_readPiece : Cond.instanceMethod yX2_readPiece ∈ WT := wt_in 502 (by decide +kernel) (by decide +kernel)
theorem ws_X2_readPiece : Cond.selects RX2 yX2_readPiece yX2_readPiece ∈ WT := wt_in 10 (by decide +kernel) (by decide +kernel)
theorem kl_X2_71 : CLV RX2 RX2 2 71 yX2_readPiece cX2_readPiece 7 (some .boolean) 1 := ⟨⟨_, _, rfl⟩, wm_X2_71, wi_X2_readPiece, ws_X2_readPiece, wn_X2, wc_X2_readPiece, hy_X2_readPiece⟩
theorem wf_X3_18 : Cond.fieldLink RX3 18 (TX3 1).1 (TX3 1).2.1 (TX3 1).2.2.1 ∈ WT := wt_in 258 (by decide +kernel) (by decide +kernel)
theorem fl_X3_18 : FL RX3 RX3 TX3 9 3 1 18 false := ⟨in_X3, rfl, by decide, wf_X3_18, rfl⟩
theorem wf_X3_24 : Cond.fieldLink RX3 24 (TX3 2).1 (TX3 2).2.1 (TX3 2).2.2.1 ∈ WT := wt_in 262 (by decide +kernel) (by decide +kernel)
theorem fl_X3_24 : FL RX3 RX3 TX3 9 3 2 24 true := ⟨in_X3, rfl, by decide, wf_X3_24, rfl⟩
theorem wm_X3_91 : Cond.methodLink RX3 91 yX1_copyFrom ∈ WT := wt_in 558 (by decide +kernel) (by decide +kernel)
theorem wc_X1_copyFrom : Cond.code yX1_copyFrom cX1_copyFrom 2 none ∈ WT := wt_in 561 (by decide +kernel) (by decide +kernel)
theorem hy_X1_copyFrom : (yX1_copyFrom.cls = RX1 ∧ yX1_copyFrom.cls ≠ "java/lang/invoke/MethodHandle" ∧ yX1_copyFrom.cls ≠ "java/lang/invoke/VarHandle" ∧ (parseMethodDescriptor yX1_copyFrom.desc).map (fun d => d.parameters.length) = some 1) := by decide +kernel
theorem wi_X1_copyFrom : Cond.instanceMethod yX1_copyFrom ∈ WT := wt_in 559 (by decide +kernel) (by decide +kernel)
theorem ws_X1_copyFrom : Cond.selects RX1 yX1_copyFrom yX1_copyFrom ∈ WT := wt_in 560 (by decide +kernel) (by decide +kernel)
theorem kl_X3_91 : CLV RX3 RX1 1 91 yX1_copyFrom cX1_copyFrom 2 none 1 := ⟨⟨_, _, rfl⟩, wm_X3_91, wi_X1_copyFrom, ws_X1_copyFrom, wn_X1, wc_X1_copyFrom, hy_X1_copyFrom⟩
theorem wf_X3_42 : Cond.fieldLink RX3 42 (TX3 7).1 (TX3 7).2.1 (TX3 7).2.2.1 ∈ WT := wt_in 269 (by decide +kernel) (by decide +kernel)
theorem fl_X3_42 : FL RX3 RX3 TX3 9 3 7 42 true := ⟨in_X3, rfl, by decide, wf_X3_42, rfl⟩
theorem wf_X3_45 : Cond.fieldLink RX3 45 (TX3 8).1 (TX3 8).2.1 (TX3 8).2.2.1 ∈ WT := wt_in 271 (by decide +kernel) (by decide +kernel)
theorem fl_X3_45 : FL RX3 RX3 TX3 9 3 8 45 true := ⟨in_X3, rfl, by decide, wf_X3_45, rfl⟩
theorem wm_X3_155 : Cond.methodLink RX3 155 yJ7_copyOf_59c91 ∈ WT := wt_in 643 (by decide +kernel) (by decide +kernel)
theorem wc_J7_copyOf_59c91 : Cond.code yJ7_copyOf_59c91 cJ7_copyOf_59c91 3 (some (.array .int)) ∈ WT := wt_in 645 (by decide +kernel) (by decide +kernel)
theorem hy_J7_copyOf_59c91 : (yJ7_copyOf_59c91.cls = RJ7 ∧ yJ7_copyOf_59c91.cls ≠ "java/lang/invoke/MethodHandle" ∧ yJ7_copyOf_59c91.cls ≠ "java/lang/invoke/VarHandle" ∧ (parseMethodDescriptor yJ7_copyOf_59c91.desc).map (fun d => d.parameters.length) = some 2) := by decide +kernel
theorem wt_J7_copyOf_59c91 : Cond.static yJ7_copyOf_59c91 ∈ WT := wt_in 644 (by decide +kernel) (by decide +kernel)
theorem kl_X3_155 : CLS RX3 155 yJ7_copyOf_59c91 cJ7_copyOf_59c91 3 (some (.array .int)) 2 := ⟨wm_X3_155, wt_J7_copyOf_59c91, wn_J7, wc_J7_copyOf_59c91, hy_J7_copyOf_59c91.2⟩
theorem wm_X3_142 : Cond.methodLink RX3 142 yX3_shiftOf ∈ WT := wt_in 343 (by decide +kernel) (by decide +kernel)
theorem wc_X3_shiftOf : Cond.code yX3_shiftOf cX3_shiftOf 1 (some .int) ∈ WT := wt_in 345 (by decide +kernel) (by decide +kernel)
theorem hy_X3_shiftOf : (yX3_shiftOf.cls = RX3 ∧ yX3_shiftOf.cls ≠ "java/lang/invoke/MethodHandle" ∧ yX3_shiftOf.cls ≠ "java/lang/invoke/VarHandle" ∧ (parseMethodDescriptor yX3_shiftOf.desc).map (fun d => d.parameters.length) = some 1) := by decide +kernel
theorem wn_X3 : Cond.initialized RX3 ∈ WT := wt_in 41 (by decide +kernel) (by decide +kernel)
theorem wt_X3_shiftOf : Cond.static yX3_shiftOf ∈ WT := wt_in 344 (by decide +kernel) (by decide +kernel)
theorem kl_X3_142 : CLS RX3 142 yX3_shiftOf cX3_shiftOf 1 (some .int) 1 := ⟨wm_X3_142, wt_X3_shiftOf, wn_X3, wc_X3_shiftOf, hy_X3_shiftOf.2⟩
theorem wf_X3_39 : Cond.fieldLink RX3 39 (TX3 6).1 (TX3 6).2.1 (TX3 6).2.2.1 ∈ WT := wt_in 268 (by decide +kernel) (by decide +kernel)
theorem fl_X3_39 : FL RX3 RX3 TX3 9 3 6 39 true := ⟨in_X3, rfl, by decide, wf_X3_39, rfl⟩
theorem wK_X3_145 : Cond.constantLong RX3 145 (15) ∈ WT := wt_in 346 (by decide +kernel) (by decide +kernel)
theorem wK_X3_147 : Cond.constantLong RX3 147 (-1) ∈ WT := wt_in 347 (by decide +kernel) (by decide +kernel)
theorem wm_X3_64 : Cond.methodLink RX3 64 yJ7_fill_d0a16 ∈ WT := wt_in 324 (by decide +kernel) (by decide +kernel)
theorem wc_J7_fill_d0a16 : Cond.code yJ7_fill_d0a16 cJ7_fill_d0a16 5 none ∈ WT := wt_in 326 (by decide +kernel) (by decide +kernel)
theorem hy_J7_fill_d0a16 : (yJ7_fill_d0a16.cls = RJ7 ∧ yJ7_fill_d0a16.cls ≠ "java/lang/invoke/MethodHandle" ∧ yJ7_fill_d0a16.cls ≠ "java/lang/invoke/VarHandle" ∧ (parseMethodDescriptor yJ7_fill_d0a16.desc).map (fun d => d.parameters.length) = some 2) := by decide +kernel
theorem wt_J7_fill_d0a16 : Cond.static yJ7_fill_d0a16 ∈ WT := wt_in 325 (by decide +kernel) (by decide +kernel)
theorem kl_X3_64 : CLS RX3 64 yJ7_fill_d0a16 cJ7_fill_d0a16 5 none 2 := ⟨wm_X3_64, wt_J7_fill_d0a16, wn_J7, wc_J7_fill_d0a16, hy_J7_fill_d0a16.2⟩
theorem wf_X3_12 : Cond.fieldLink RX3 12 (TX3 0).1 (TX3 0).2.1 (TX3 0).2.2.1 ∈ WT := wt_in 254 (by decide +kernel) (by decide +kernel)
theorem fl_X3_12 : FL RX3 RX3 TX3 9 3 0 12 true := ⟨in_X3, rfl, by decide, wf_X3_12, rfl⟩
theorem wf_X3_70 : Cond.fieldLink RX3 70 (TX0 1).1 (TX0 1).2.1 (TX0 1).2.2.1 ∈ WT := wt_in 226 (by decide +kernel) (by decide +kernel)
theorem fl_X3_70 : FL RX3 RX0 TX0 7 0 1 70 false := ⟨in_X0, rfl, by decide, wf_X3_70, rfl⟩
theorem wf_X3_36 : Cond.fieldLink RX3 36 (TX3 5).1 (TX3 5).2.1 (TX3 5).2.2.1 ∈ WT := wt_in 267 (by decide +kernel) (by decide +kernel)
theorem fl_X3_36 : FL RX3 RX3 TX3 9 3 5 36 true := ⟨in_X3, rfl, by decide, wf_X3_36, rfl⟩
theorem wm_X3_85 : Cond.methodLink RX3 85 arraycopyName ∈ WT := wt_in 348 (by decide +kernel) (by decide +kernel)
theorem wf_X3_28 : Cond.fieldLink RX3 28 (TX3 3).1 (TX3 3).2.1 (TX3 3).2.2.1 ∈ WT := wt_in 264 (by decide +kernel) (by decide +kernel)
theorem fl_X3_28 : FL RX3 RX3 TX3 9 3 3 28 true := ⟨in_X3, rfl, by decide, wf_X3_28, rfl⟩
theorem wf_X3_32 : Cond.fieldLink RX3 32 (TX3 4).1 (TX3 4).2.1 (TX3 4).2.2.1 ∈ WT := wt_in 266 (by decide +kernel) (by decide +kernel)
theorem fl_X3_32 : FL RX3 RX3 TX3 9 3 4 32 true := ⟨in_X3, rfl, by decide, wf_X3_32, rfl⟩
theorem wf_X3_73 : Cond.fieldLink RX3 73 (TX0 0).1 (TX0 0).2.1 (TX0 0).2.2.1 ∈ WT := wt_in 222 (by decide +kernel) (by decide +kernel)
theorem fl_X3_73 : FL RX3 RX0 TX0 7 0 0 73 false := ⟨in_X0, rfl, by decide, wf_X3_73, rfl⟩
theorem wm_X3_76 : Cond.methodLink RX3 76 yX0_squareOf ∈ WT := wt_in 327 (by decide +kernel) (by decide +kernel)
theorem kl_X3_76 : CLV RX3 RX0 0 76 yX0_squareOf cX0_squareOf 3 (some .int) 2 := ⟨⟨_, _, rfl⟩, wm_X3_76, wi_X0_squareOf, ws_X0_squareOf, wn_X0, wc_X0_squareOf, hy_X0_squareOf⟩
theorem wm_X3_79 : Cond.methodLink RX3 79 yX0_at ∈ WT := wt_in 331 (by decide +kernel) (by decide +kernel)
theorem kl_X3_79 : CLV RX3 RX0 0 79 yX0_at cX0_at 3 (some .int) 2 := ⟨⟨_, _, rfl⟩, wm_X3_79, wi_X0_at, ws_X0_at, wn_X0, wc_X0_at, hy_X0_at⟩
theorem wm_X3_82 : Cond.methodLink RX3 82 yX3_setReached ∈ WT := wt_in 339 (by decide +kernel) (by decide +kernel)
theorem wc_X3_setReached : Cond.code yX3_setReached cX3_setReached 5 none ∈ WT := wt_in 342 (by decide +kernel) (by decide +kernel)
theorem hy_X3_setReached : (yX3_setReached.cls = RX3 ∧ yX3_setReached.cls ≠ "java/lang/invoke/MethodHandle" ∧ yX3_setReached.cls ≠ "java/lang/invoke/VarHandle" ∧ (parseMethodDescriptor yX3_setReached.desc).map (fun d => d.parameters.length) = some 2) := by decide +kernel
theorem wi_X3_setReached : Cond.instanceMethod yX3_setReached ∈ WT := wt_in 341 (by decide +kernel) (by decide +kernel)
theorem ws_X3_setReached : Cond.selects RX3 yX3_setReached yX3_setReached ∈ WT := wt_in 2 (by decide +kernel) (by decide +kernel)
theorem kl_X3_82 : CLV RX3 RX3 3 82 yX3_setReached cX3_setReached 5 none 2 := ⟨⟨_, _, rfl⟩, wm_X3_82, wi_X3_setReached, ws_X3_setReached, wn_X3, wc_X3_setReached, hy_X3_setReached⟩
theorem wm_X3_49 : Cond.methodLink RX3 49 yX0_resize ∈ WT := wt_in 297 (by decide +kernel) (by decide +kernel)
theorem kl_X3_49 : CLV RX3 RX0 0 49 yX0_resize cX0_resize 5 none 2 := ⟨⟨_, _, rfl⟩, wm_X3_49, wi_X0_resize, ws_X0_resize, wn_X0, wc_X0_resize, hy_X0_resize⟩
theorem wm_X3_53 : Cond.methodLink RX3 53 yX0_put ∈ WT := wt_in 316 (by decide +kernel) (by decide +kernel)
theorem kl_X3_53 : CLV RX3 RX0 0 53 yX0_put cX0_put 5 none 3 := ⟨⟨_, _, rfl⟩, wm_X3_53, wi_X0_put, ws_X0_put, wn_X0, wc_X0_put, hy_X0_put⟩
theorem kl_X3_57 : CLN RX3 57 yX6_contentOf cX6_contentOf 2 (some .int) 2 := ⟨by decide +kernel, wt_X6_contentOf, wn_X6, wc_X6_contentOf, hy_X6_contentOf.2⟩
theorem wm_X3_61 : Cond.methodLink RX3 61 yX3_begin ∈ WT := wt_in 320 (by decide +kernel) (by decide +kernel)
theorem wc_X3_begin : Cond.code yX3_begin cX3_begin 3 none ∈ WT := wt_in 323 (by decide +kernel) (by decide +kernel)
theorem hy_X3_begin : (yX3_begin.cls = RX3 ∧ yX3_begin.cls ≠ "java/lang/invoke/MethodHandle" ∧ yX3_begin.cls ≠ "java/lang/invoke/VarHandle" ∧ (parseMethodDescriptor yX3_begin.desc).map (fun d => d.parameters.length) = some 0) := by decide +kernel
theorem wi_X3_begin : Cond.instanceMethod yX3_begin ∈ WT := wt_in 321 (by decide +kernel) (by decide +kernel)
theorem ws_X3_begin : Cond.selects RX3 yX3_begin yX3_begin ∈ WT := wt_in 322 (by decide +kernel) (by decide +kernel)
theorem kl_X3_61 : CLV RX3 RX3 3 61 yX3_begin cX3_begin 3 none 0 := ⟨⟨_, _, rfl⟩, wm_X3_61, wi_X3_begin, ws_X3_begin, wn_X3, wc_X3_begin, hy_X3_begin⟩
theorem wm_X3_132 : Cond.methodLink RX3 132 yX3_cellOf ∈ WT := wt_in 577 (by decide +kernel) (by decide +kernel)
theorem wc_X3_cellOf : Cond.code yX3_cellOf cX3_cellOf 3 (some .int) ∈ WT := wt_in 579 (by decide +kernel) (by decide +kernel)
theorem hy_X3_cellOf : (yX3_cellOf.cls = RX3 ∧ yX3_cellOf.cls ≠ "java/lang/invoke/MethodHandle" ∧ yX3_cellOf.cls ≠ "java/lang/invoke/VarHandle" ∧ (parseMethodDescriptor yX3_cellOf.desc).map (fun d => d.parameters.length) = some 2) := by decide +kernel
theorem wt_X3_cellOf : Cond.static yX3_cellOf ∈ WT := wt_in 578 (by decide +kernel) (by decide +kernel)
theorem kl_X3_132 : CLS RX3 132 yX3_cellOf cX3_cellOf 3 (some .int) 2 := ⟨wm_X3_132, wt_X3_cellOf, wn_X3, wc_X3_cellOf, hy_X3_cellOf.2⟩
theorem wm_X3_124 : Cond.methodLink RX3 124 yX3_read ∈ WT := wt_in 573 (by decide +kernel) (by decide +kernel)
theorem wc_X3_read : Cond.code yX3_read cX3_read 6 (some .int) ∈ WT := wt_in 576 (by decide +kernel) (by decide +kernel)
theorem hy_X3_read : (yX3_read.cls = RX3 ∧ yX3_read.cls ≠ "java/lang/invoke/MethodHandle" ∧ yX3_read.cls ≠ "java/lang/invoke/VarHandle" ∧ (parseMethodDescriptor yX3_read.desc).map (fun d => d.parameters.length) = some 3) := by decide +kernel
theorem wi_X3_read : Cond.instanceMethod yX3_read ∈ WT := wt_in 575 (by decide +kernel) (by decide +kernel)
theorem ws_X3_read : Cond.selects RX3 yX3_read yX3_read ∈ WT := wt_in 16 (by decide +kernel) (by decide +kernel)
theorem kl_X3_124 : CLV RX3 RX3 3 124 yX3_read cX3_read 6 (some .int) 3 := ⟨⟨_, _, rfl⟩, wm_X3_124, wi_X3_read, ws_X3_read, wn_X3, wc_X3_read, hy_X3_read⟩
theorem wm_X3_149 : Cond.methodLink RX3 149 yX3_findReached ∈ WT := wt_in 635 (by decide +kernel) (by decide +kernel)
theorem wc_X3_findReached : Cond.code yX3_findReached cX3_findReached 5 (some .int) ∈ WT := wt_in 638 (by decide +kernel) (by decide +kernel)
theorem hy_X3_findReached : (yX3_findReached.cls = RX3 ∧ yX3_findReached.cls ≠ "java/lang/invoke/MethodHandle" ∧ yX3_findReached.cls ≠ "java/lang/invoke/VarHandle" ∧ (parseMethodDescriptor yX3_findReached.desc).map (fun d => d.parameters.length) = some 1) := by decide +kernel
theorem wi_X3_findReached : Cond.instanceMethod yX3_findReached ∈ WT := wt_in 637 (by decide +kernel) (by decide +kernel)
theorem ws_X3_findReached : Cond.selects RX3 yX3_findReached yX3_findReached ∈ WT := wt_in 21 (by decide +kernel) (by decide +kernel)
theorem kl_X3_149 : CLV RX3 RX3 3 149 yX3_findReached cX3_findReached 5 (some .int) 1 := ⟨⟨_, _, rfl⟩, wm_X3_149, wi_X3_findReached, ws_X3_findReached, wn_X3, wc_X3_findReached, hy_X3_findReached⟩
theorem wm_X3_152 : Cond.methodLink RX3 152 yX3_addLink ∈ WT := wt_in 639 (by decide +kernel) (by decide +kernel)
theorem wc_X3_addLink : Cond.code yX3_addLink cX3_addLink 4 none ∈ WT := wt_in 642 (by decide +kernel) (by decide +kernel)
theorem hy_X3_addLink : (yX3_addLink.cls = RX3 ∧ yX3_addLink.cls ≠ "java/lang/invoke/MethodHandle" ∧ yX3_addLink.cls ≠ "java/lang/invoke/VarHandle" ∧ (parseMethodDescriptor yX3_addLink.desc).map (fun d => d.parameters.length) = some 2) := by decide +kernel
theorem wi_X3_addLink : Cond.instanceMethod yX3_addLink ∈ WT := wt_in 641 (by decide +kernel) (by decide +kernel)
theorem ws_X3_addLink : Cond.selects RX3 yX3_addLink yX3_addLink ∈ WT := wt_in 22 (by decide +kernel) (by decide +kernel)
theorem kl_X3_152 : CLV RX3 RX3 3 152 yX3_addLink cX3_addLink 4 none 2 := ⟨⟨_, _, rfl⟩, wm_X3_152, wi_X3_addLink, ws_X3_addLink, wn_X3, wc_X3_addLink, hy_X3_addLink⟩
theorem wm_X3_101 : Cond.methodLink RX3 101 Lib.Math.max.name ∈ WT := wt_in 566 (by decide +kernel) (by decide +kernel)
theorem wm_X3_106 : Cond.methodLink RX3 106 yX3_show ∈ WT := wt_in 569 (by decide +kernel) (by decide +kernel)
theorem wc_X3_show : Cond.code yX3_show cX3_show 6 none ∈ WT := wt_in 572 (by decide +kernel) (by decide +kernel)
theorem hy_X3_show : (yX3_show.cls = RX3 ∧ yX3_show.cls ≠ "java/lang/invoke/MethodHandle" ∧ yX3_show.cls ≠ "java/lang/invoke/VarHandle" ∧ (parseMethodDescriptor yX3_show.desc).map (fun d => d.parameters.length) = some 2) := by decide +kernel
theorem wi_X3_show : Cond.instanceMethod yX3_show ∈ WT := wt_in 570 (by decide +kernel) (by decide +kernel)
theorem ws_X3_show : Cond.selects RX3 yX3_show yX3_show ∈ WT := wt_in 571 (by decide +kernel) (by decide +kernel)
theorem kl_X3_106 : CLV RX3 RX3 3 106 yX3_show cX3_show 6 none 2 := ⟨⟨_, _, rfl⟩, wm_X3_106, wi_X3_show, ws_X3_show, wn_X3, wc_X3_show, hy_X3_show⟩
theorem wm_X3_109 : Cond.methodLink RX3 109 yX3_mover ∈ WT := wt_in 580 (by decide +kernel) (by decide +kernel)
theorem wc_X3_mover : Cond.code yX3_mover cX3_mover 2 (some .int) ∈ WT := wt_in 583 (by decide +kernel) (by decide +kernel)
theorem hy_X3_mover : (yX3_mover.cls = RX3 ∧ yX3_mover.cls ≠ "java/lang/invoke/MethodHandle" ∧ yX3_mover.cls ≠ "java/lang/invoke/VarHandle" ∧ (parseMethodDescriptor yX3_mover.desc).map (fun d => d.parameters.length) = some 1) := by decide +kernel
theorem wi_X3_mover : Cond.instanceMethod yX3_mover ∈ WT := wt_in 581 (by decide +kernel) (by decide +kernel)
theorem ws_X3_mover : Cond.selects RX3 yX3_mover yX3_mover ∈ WT := wt_in 582 (by decide +kernel) (by decide +kernel)
theorem kl_X3_109 : CLV RX3 RX3 3 109 yX3_mover cX3_mover 2 (some .int) 1 := ⟨⟨_, _, rfl⟩, wm_X3_109, wi_X3_mover, ws_X3_mover, wn_X3, wc_X3_mover, hy_X3_mover⟩
theorem wm_X3_113 : Cond.methodLink RX3 113 yX0_findMoves ∈ WT := wt_in 584 (by decide +kernel) (by decide +kernel)
theorem wc_X0_findMoves : Cond.code yX0_findMoves cX0_findMoves 6 (some .int) ∈ WT := wt_in 587 (by decide +kernel) (by decide +kernel)
theorem hy_X0_findMoves : (yX0_findMoves.cls = RX0 ∧ yX0_findMoves.cls ≠ "java/lang/invoke/MethodHandle" ∧ yX0_findMoves.cls ≠ "java/lang/invoke/VarHandle" ∧ (parseMethodDescriptor yX0_findMoves.desc).map (fun d => d.parameters.length) = some 2) := by decide +kernel
theorem wi_X0_findMoves : Cond.instanceMethod yX0_findMoves ∈ WT := wt_in 585 (by decide +kernel) (by decide +kernel)
theorem ws_X0_findMoves : Cond.selects RX0 yX0_findMoves yX0_findMoves ∈ WT := wt_in 586 (by decide +kernel) (by decide +kernel)
theorem kl_X3_113 : CLV RX3 RX0 0 113 yX0_findMoves cX0_findMoves 6 (some .int) 2 := ⟨⟨_, _, rfl⟩, wm_X3_113, wi_X0_findMoves, ws_X0_findMoves, wn_X0, wc_X0_findMoves, hy_X0_findMoves⟩
theorem wf_X3_117 : Cond.fieldLink RX3 117 (TX0 2).1 (TX0 2).2.1 (TX0 2).2.2.1 ∈ WT := wt_in 230 (by decide +kernel) (by decide +kernel)
theorem fl_X3_117 : FL RX3 RX0 TX0 7 0 2 117 true := ⟨in_X0, rfl, by decide, wf_X3_117, rfl⟩
theorem wm_X3_120 : Cond.methodLink RX3 120 yX3_makeMove ∈ WT := wt_in 631 (by decide +kernel) (by decide +kernel)
theorem wc_X3_makeMove : Cond.code yX3_makeMove cX3_makeMove 8 (some .boolean) ∈ WT := wt_in 634 (by decide +kernel) (by decide +kernel)
theorem hy_X3_makeMove : (yX3_makeMove.cls = RX3 ∧ yX3_makeMove.cls ≠ "java/lang/invoke/MethodHandle" ∧ yX3_makeMove.cls ≠ "java/lang/invoke/VarHandle" ∧ (parseMethodDescriptor yX3_makeMove.desc).map (fun d => d.parameters.length) = some 3) := by decide +kernel
theorem wi_X3_makeMove : Cond.instanceMethod yX3_makeMove ∈ WT := wt_in 633 (by decide +kernel) (by decide +kernel)
theorem ws_X3_makeMove : Cond.selects RX3 yX3_makeMove yX3_makeMove ∈ WT := wt_in 20 (by decide +kernel) (by decide +kernel)
theorem kl_X3_120 : CLV RX3 RX3 3 120 yX3_makeMove cX3_makeMove 8 (some .boolean) 3 := ⟨⟨_, _, rfl⟩, wm_X3_120, wi_X3_makeMove, ws_X3_makeMove, wn_X3, wc_X3_makeMove, hy_X3_makeMove⟩
theorem wm_X3_128 : Cond.methodLink RX3 128 yX3_gamesAt ∈ WT := wt_in 1017 (by decide +kernel) (by decide +kernel)
theorem wc_X3_gamesAt : Cond.code yX3_gamesAt cX3_gamesAt 4 (some .long) ∈ WT := wt_in 1020 (by decide +kernel) (by decide +kernel)
theorem hy_X3_gamesAt : (yX3_gamesAt.cls = RX3 ∧ yX3_gamesAt.cls ≠ "java/lang/invoke/MethodHandle" ∧ yX3_gamesAt.cls ≠ "java/lang/invoke/VarHandle" ∧ (parseMethodDescriptor yX3_gamesAt.desc).map (fun d => d.parameters.length) = some 2) := by decide +kernel
theorem wi_X3_gamesAt : Cond.instanceMethod yX3_gamesAt ∈ WT := wt_in 1018 (by decide +kernel) (by decide +kernel)
theorem ws_X3_gamesAt : Cond.selects RX3 yX3_gamesAt yX3_gamesAt ∈ WT := wt_in 1019 (by decide +kernel) (by decide +kernel)
theorem kl_X3_128 : CLV RX3 RX3 3 128 yX3_gamesAt cX3_gamesAt 4 (some .long) 2 := ⟨⟨_, _, rfl⟩, wm_X3_128, wi_X3_gamesAt, ws_X3_gamesAt, wn_X3, wc_X3_gamesAt, hy_X3_gamesAt⟩
theorem wm_X3_135 : Cond.methodLink RX3 135 yX3_gamesToLast ∈ WT := wt_in 1013 (by decide +kernel) (by decide +kernel)
theorem wc_X3_gamesToLast : Cond.code yX3_gamesToLast cX3_gamesToLast 2 (some .long) ∈ WT := wt_in 1016 (by decide +kernel) (by decide +kernel)
theorem hy_X3_gamesToLast : (yX3_gamesToLast.cls = RX3 ∧ yX3_gamesToLast.cls ≠ "java/lang/invoke/MethodHandle" ∧ yX3_gamesToLast.cls ≠ "java/lang/invoke/VarHandle" ∧ (parseMethodDescriptor yX3_gamesToLast.desc).map (fun d => d.parameters.length) = some 1) := by decide +kernel
theorem wi_X3_gamesToLast : Cond.instanceMethod yX3_gamesToLast ∈ WT := wt_in 1014 (by decide +kernel) (by decide +kernel)
theorem ws_X3_gamesToLast : Cond.selects RX3 yX3_gamesToLast yX3_gamesToLast ∈ WT := wt_in 1015 (by decide +kernel) (by decide +kernel)
theorem kl_X3_135 : CLV RX3 RX3 3 135 yX3_gamesToLast cX3_gamesToLast 2 (some .long) 1 := ⟨⟨_, _, rfl⟩, wm_X3_135, wi_X3_gamesToLast, ws_X3_gamesToLast, wn_X3, wc_X3_gamesToLast, hy_X3_gamesToLast⟩
theorem wm_X3_3 : Cond.methodLink RX3 3 Lib.objectInit ∈ WT := wt_in 214 (by decide +kernel) (by decide +kernel)
theorem wl_X3_9 : Cond.classLink RX3 9 RX0 ∈ WT := wt_in 215 (by decide +kernel) (by decide +kernel)
theorem wx_X0 : Cond.instantiable RX0 7 ∈ WT := wt_in 216 (by decide +kernel) (by decide +kernel)
theorem df_X0 : ∀ j, j < 7 → defaultValue (tyX0 j) = if (fk (0 + 10)).getD j false = true then .null else .int 0 := fun j hj => by
  rcases (show j = 0 ∨ j = 1 ∨ j = 2 ∨ j = 3 ∨ j = 4 ∨ j = 5 ∨ j = 6 by omega) with rfl | rfl | rfl | rfl | rfl | rfl | rfl <;> rfl
theorem wc_X0_init : Cond.code yX0_init cX0_init 1 none ∈ WT := wt_in 219 (by decide +kernel) (by decide +kernel)
theorem hy_X0_init : (yX0_init.cls = RX0 ∧ yX0_init.cls ≠ "java/lang/invoke/MethodHandle" ∧ yX0_init.cls ≠ "java/lang/invoke/VarHandle" ∧ (parseMethodDescriptor yX0_init.desc).map (fun d => d.parameters.length) = some 0) := by decide +kernel
theorem wi_X0_init : Cond.instanceMethod yX0_init ∈ WT := wt_in 218 (by decide +kernel) (by decide +kernel)
theorem kl_X3_11 : CLI RX3 11 yX0_init cX0_init 1 0 := ⟨Or.inr (by decide +kernel), wi_X0_init, wn_X0, wc_X0_init, rfl, hy_X0_init.2⟩
theorem wl_X3_22 : Cond.classLink RX3 22 RX1 ∈ WT := wt_in 251 (by decide +kernel) (by decide +kernel)
theorem wa_5 : Cond.arrayClass (newarray.typeOf .long) ∈ WT := wt_in 206 (by decide +kernel) (by decide +kernel)
theorem kl_X3_48 : CLI RX3 48 yX1_init cX1_init 1 0 := ⟨Or.inr (by decide +kernel), wi_X1_init, wn_X1, wc_X1_init, rfl, hy_X1_init.2⟩
theorem wf_X3_95 : Cond.fieldLink RX3 95 (TX1 1).1 (TX1 1).2.1 (TX1 1).2.2.1 ∈ WT := wt_in 115 (by decide +kernel) (by decide +kernel)
theorem fl_X3_95 : FL RX3 RX1 TX1 7 1 1 95 false := ⟨in_X1, rfl, by decide, wf_X3_95, rfl⟩
theorem wf_X3_98 : Cond.fieldLink RX3 98 (TX1 2).1 (TX1 2).2.1 (TX1 2).2.2.1 ∈ WT := wt_in 119 (by decide +kernel) (by decide +kernel)
theorem fl_X3_98 : FL RX3 RX1 TX1 7 1 2 98 false := ⟨in_X1, rfl, by decide, wf_X3_98, rfl⟩
theorem wm_X4_51 : Cond.methodLink RX4 51 yX3_cellOf ∈ WT := wt_in 989 (by decide +kernel) (by decide +kernel)
theorem kl_X4_51 : CLS RX4 51 yX3_cellOf cX3_cellOf 3 (some .int) 2 := ⟨wm_X4_51, wt_X3_cellOf, wn_X3, wc_X3_cellOf, hy_X3_cellOf.2⟩
theorem wy_X4_0 : u_lay RX4 TX4 0 ∈ WT := wt_in 199 (by decide +kernel) (by decide +kernel)
theorem wy_X4_1 : u_lay RX4 TX4 1 ∈ WT := wt_in 201 (by decide +kernel) (by decide +kernel)
theorem wy_X4_2 : u_lay RX4 TX4 2 ∈ WT := wt_in 203 (by decide +kernel) (by decide +kernel)
theorem in_X4 : ∀ w ∈ u_ws RX4 TX4 3, w ∈ WT := fun w hw => by
  obtain ⟨k, hk, rfl⟩ := List.mem_map.mp hw
  have hk := List.mem_range.mp hk
  rcases (show k = 0 ∨ k = 1 ∨ k = 2 by omega) with rfl | rfl | rfl
  · exact wy_X4_0
  · exact wy_X4_1
  · exact wy_X4_2
theorem fp_X4 : FP RX4 TX4 3 tyX4 := ⟨tyX4_ok, nmX4⟩
theorem wf_X4_19 : Cond.fieldLink RX4 19 (TX4 2).1 (TX4 2).2.1 (TX4 2).2.2.1 ∈ WT := wt_in 198 (by decide +kernel) (by decide +kernel)
theorem fl_X4_19 : FL RX4 RX4 TX4 3 4 2 19 true := ⟨in_X4, rfl, by decide, wf_X4_19, rfl⟩
theorem wm_X4_22 : Cond.methodLink RX4 22 yJ7_fill_d0a16 ∈ WT := wt_in 675 (by decide +kernel) (by decide +kernel)
theorem kl_X4_22 : CLS RX4 22 yJ7_fill_d0a16 cJ7_fill_d0a16 5 none 2 := ⟨wm_X4_22, wt_J7_fill_d0a16, wn_J7, wc_J7_fill_d0a16, hy_J7_fill_d0a16.2⟩
theorem wf_X4_28 : Cond.fieldLink RX4 28 (TX3 1).1 (TX3 1).2.1 (TX3 1).2.2.1 ∈ WT := wt_in 259 (by decide +kernel) (by decide +kernel)
theorem fl_X4_28 : FL RX4 RX3 TX3 9 3 1 28 false := ⟨in_X3, rfl, by decide, wf_X4_28, rfl⟩
theorem wm_X4_33 : Cond.methodLink RX4 33 yX3_positionCount ∈ WT := wt_in 676 (by decide +kernel) (by decide +kernel)
theorem wc_X3_positionCount : Cond.code yX3_positionCount cX3_positionCount 1 (some .int) ∈ WT := wt_in 679 (by decide +kernel) (by decide +kernel)
theorem hy_X3_positionCount : (yX3_positionCount.cls = RX3 ∧ yX3_positionCount.cls ≠ "java/lang/invoke/MethodHandle" ∧ yX3_positionCount.cls ≠ "java/lang/invoke/VarHandle" ∧ (parseMethodDescriptor yX3_positionCount.desc).map (fun d => d.parameters.length) = some 0) := by decide +kernel
theorem wi_X3_positionCount : Cond.instanceMethod yX3_positionCount ∈ WT := wt_in 677 (by decide +kernel) (by decide +kernel)
theorem ws_X3_positionCount : Cond.selects RX3 yX3_positionCount yX3_positionCount ∈ WT := wt_in 678 (by decide +kernel) (by decide +kernel)
theorem kl_X4_33 : CLV RX4 RX3 3 33 yX3_positionCount cX3_positionCount 1 (some .int) 0 := ⟨⟨_, _, rfl⟩, wm_X4_33, wi_X3_positionCount, ws_X3_positionCount, wn_X3, wc_X3_positionCount, hy_X3_positionCount⟩
theorem wm_X4_37 : Cond.methodLink RX4 37 yJ7_fill_bad5a ∈ WT := wt_in 680 (by decide +kernel) (by decide +kernel)
theorem wc_J7_fill_bad5a : Cond.code yJ7_fill_bad5a cJ7_fill_bad5a 6 none ∈ WT := wt_in 682 (by decide +kernel) (by decide +kernel)
theorem hy_J7_fill_bad5a : (yJ7_fill_bad5a.cls = RJ7 ∧ yJ7_fill_bad5a.cls ≠ "java/lang/invoke/MethodHandle" ∧ yJ7_fill_bad5a.cls ≠ "java/lang/invoke/VarHandle" ∧ (parseMethodDescriptor yJ7_fill_bad5a.desc).map (fun d => d.parameters.length) = some 4) := by decide +kernel
theorem wt_J7_fill_bad5a : Cond.static yJ7_fill_bad5a ∈ WT := wt_in 681 (by decide +kernel) (by decide +kernel)
theorem kl_X4_37 : CLS RX4 37 yJ7_fill_bad5a cJ7_fill_bad5a 6 none 4 := ⟨wm_X4_37, wt_J7_fill_bad5a, wn_J7, wc_J7_fill_bad5a, hy_J7_fill_bad5a.2⟩
theorem wf_X4_40 : Cond.fieldLink RX4 40 (TX3 7).1 (TX3 7).2.1 (TX3 7).2.2.1 ∈ WT := wt_in 270 (by decide +kernel) (by decide +kernel)
theorem fl_X4_40 : FL RX4 RX3 TX3 9 3 7 40 true := ⟨in_X3, rfl, by decide, wf_X4_40, rfl⟩
theorem wf_X4_44 : Cond.fieldLink RX4 44 (TX3 8).1 (TX3 8).2.1 (TX3 8).2.2.1 ∈ WT := wt_in 272 (by decide +kernel) (by decide +kernel)
theorem fl_X4_44 : FL RX4 RX3 TX3 9 3 8 44 true := ⟨in_X3, rfl, by decide, wf_X4_44, rfl⟩
theorem wm_X4_47 : Cond.methodLink RX4 47 yX3_linkFrom ∈ WT := wt_in 986 (by decide +kernel) (by decide +kernel)
theorem wc_X3_linkFrom : Cond.code yX3_linkFrom cX3_linkFrom 1 (some .int) ∈ WT := wt_in 988 (by decide +kernel) (by decide +kernel)
theorem hy_X3_linkFrom : (yX3_linkFrom.cls = RX3 ∧ yX3_linkFrom.cls ≠ "java/lang/invoke/MethodHandle" ∧ yX3_linkFrom.cls ≠ "java/lang/invoke/VarHandle" ∧ (parseMethodDescriptor yX3_linkFrom.desc).map (fun d => d.parameters.length) = some 1) := by decide +kernel
theorem wt_X3_linkFrom : Cond.static yX3_linkFrom ∈ WT := wt_in 987 (by decide +kernel) (by decide +kernel)
theorem kl_X4_47 : CLS RX4 47 yX3_linkFrom cX3_linkFrom 1 (some .int) 1 := ⟨wm_X4_47, wt_X3_linkFrom, wn_X3, wc_X3_linkFrom, hy_X3_linkFrom.2⟩
theorem wm_X4_55 : Cond.methodLink RX4 55 yX3_linkTo ∈ WT := wt_in 990 (by decide +kernel) (by decide +kernel)
theorem wc_X3_linkTo : Cond.code yX3_linkTo cX3_linkTo 1 (some .int) ∈ WT := wt_in 992 (by decide +kernel) (by decide +kernel)
theorem hy_X3_linkTo : (yX3_linkTo.cls = RX3 ∧ yX3_linkTo.cls ≠ "java/lang/invoke/MethodHandle" ∧ yX3_linkTo.cls ≠ "java/lang/invoke/VarHandle" ∧ (parseMethodDescriptor yX3_linkTo.desc).map (fun d => d.parameters.length) = some 1) := by decide +kernel
theorem wt_X3_linkTo : Cond.static yX3_linkTo ∈ WT := wt_in 991 (by decide +kernel) (by decide +kernel)
theorem kl_X4_55 : CLS RX4 55 yX3_linkTo cX3_linkTo 1 (some .int) 1 := ⟨wm_X4_55, wt_X3_linkTo, wn_X3, wc_X3_linkTo, hy_X3_linkTo.2⟩
theorem wm_X4_58 : Cond.methodLink RX4 58 yX4_continuationsAt ∈ WT := wt_in 993 (by decide +kernel) (by decide +kernel)
theorem wc_X4_continuationsAt : Cond.code yX4_continuationsAt cX4_continuationsAt 4 (some .long) ∈ WT := wt_in 996 (by decide +kernel) (by decide +kernel)
theorem hy_X4_continuationsAt : (yX4_continuationsAt.cls = RX4 ∧ yX4_continuationsAt.cls ≠ "java/lang/invoke/MethodHandle" ∧ yX4_continuationsAt.cls ≠ "java/lang/invoke/VarHandle" ∧ (parseMethodDescriptor yX4_continuationsAt.desc).map (fun d => d.parameters.length) = some 2) := by decide +kernel
theorem wn_X4 : Cond.initialized RX4 ∈ WT := wt_in 40 (by decide +kernel) (by decide +kernel)
theorem wi_X4_continuationsAt : Cond.instanceMethod yX4_continuationsAt ∈ WT := wt_in 995 (by decide +kernel) (by decide +kernel)
theorem ws_X4_continuationsAt : Cond.selects RX4 yX4_continuationsAt yX4_continuationsAt ∈ WT := wt_in 26 (by decide +kernel) (by decide +kernel)
theorem kl_X4_58 : CLV RX4 RX4 4 58 yX4_continuationsAt cX4_continuationsAt 4 (some .long) 2 := ⟨⟨_, _, rfl⟩, wm_X4_58, wi_X4_continuationsAt, ws_X4_continuationsAt, wn_X4, wc_X4_continuationsAt, hy_X4_continuationsAt⟩
theorem wf_X4_62 : Cond.fieldLink RX4 62 (TX3 0).1 (TX3 0).2.1 (TX3 0).2.2.1 ∈ WT := wt_in 255 (by decide +kernel) (by decide +kernel)
theorem fl_X4_62 : FL RX4 RX3 TX3 9 3 0 62 true := ⟨in_X3, rfl, by decide, wf_X4_62, rfl⟩
theorem wm_X4_66 : Cond.methodLink RX4 66 yX0_squareCount ∈ WT := wt_in 1205 (by decide +kernel) (by decide +kernel)
theorem wc_X0_squareCount : Cond.code yX0_squareCount cX0_squareCount 1 (some .int) ∈ WT := wt_in 1208 (by decide +kernel) (by decide +kernel)
theorem hy_X0_squareCount : (yX0_squareCount.cls = RX0 ∧ yX0_squareCount.cls ≠ "java/lang/invoke/MethodHandle" ∧ yX0_squareCount.cls ≠ "java/lang/invoke/VarHandle" ∧ (parseMethodDescriptor yX0_squareCount.desc).map (fun d => d.parameters.length) = some 0) := by decide +kernel
theorem wi_X0_squareCount : Cond.instanceMethod yX0_squareCount ∈ WT := wt_in 1206 (by decide +kernel) (by decide +kernel)
theorem ws_X0_squareCount : Cond.selects RX0 yX0_squareCount yX0_squareCount ∈ WT := wt_in 1207 (by decide +kernel) (by decide +kernel)
theorem kl_X4_66 : CLV RX4 RX0 0 66 yX0_squareCount cX0_squareCount 1 (some .int) 0 := ⟨⟨_, _, rfl⟩, wm_X4_66, wi_X0_squareCount, ws_X0_squareCount, wn_X0, wc_X0_squareCount, hy_X0_squareCount⟩
theorem wf_X4_15 : Cond.fieldLink RX4 15 (TX4 1).1 (TX4 1).2.1 (TX4 1).2.2.1 ∈ WT := wt_in 197 (by decide +kernel) (by decide +kernel)
theorem fl_X4_15 : FL RX4 RX4 TX4 3 4 1 15 false := ⟨in_X4, rfl, by decide, wf_X4_15, rfl⟩
theorem wf_X4_9 : Cond.fieldLink RX4 9 (TX4 0).1 (TX4 0).2.1 (TX4 0).2.2.1 ∈ WT := wt_in 195 (by decide +kernel) (by decide +kernel)
theorem fl_X4_9 : FL RX4 RX4 TX4 3 4 0 9 true := ⟨in_X4, rfl, by decide, wf_X4_9, rfl⟩
theorem wm_X4_71 : Cond.methodLink RX4 71 yX3_linkMove ∈ WT := wt_in 1209 (by decide +kernel) (by decide +kernel)
theorem wc_X3_linkMove : Cond.code yX3_linkMove cX3_linkMove 1 (some .int) ∈ WT := wt_in 1211 (by decide +kernel) (by decide +kernel)
theorem hy_X3_linkMove : (yX3_linkMove.cls = RX3 ∧ yX3_linkMove.cls ≠ "java/lang/invoke/MethodHandle" ∧ yX3_linkMove.cls ≠ "java/lang/invoke/VarHandle" ∧ (parseMethodDescriptor yX3_linkMove.desc).map (fun d => d.parameters.length) = some 1) := by decide +kernel
theorem wt_X3_linkMove : Cond.static yX3_linkMove ∈ WT := wt_in 1210 (by decide +kernel) (by decide +kernel)
theorem kl_X4_71 : CLS RX4 71 yX3_linkMove cX3_linkMove 1 (some .int) 1 := ⟨wm_X4_71, wt_X3_linkMove, wn_X3, wc_X3_linkMove, hy_X3_linkMove.2⟩
theorem wm_X4_74 : Cond.methodLink RX4 74 yX3_gamesAt ∈ WT := wt_in 1212 (by decide +kernel) (by decide +kernel)
theorem kl_X4_74 : CLV RX4 RX3 3 74 yX3_gamesAt cX3_gamesAt 4 (some .long) 2 := ⟨⟨_, _, rfl⟩, wm_X4_74, wi_X3_gamesAt, ws_X3_gamesAt, wn_X3, wc_X3_gamesAt, hy_X3_gamesAt⟩
theorem wm_X4_3 : Cond.methodLink RX4 3 Lib.objectInit ∈ WT := wt_in 194 (by decide +kernel) (by decide +kernel)
theorem wy_X6_0 : u_lay RX6 TX6 0 ∈ WT := wt_in 363 (by decide +kernel) (by decide +kernel)
theorem wy_X6_1 : u_lay RX6 TX6 1 ∈ WT := wt_in 365 (by decide +kernel) (by decide +kernel)
theorem wy_X6_2 : u_lay RX6 TX6 2 ∈ WT := wt_in 367 (by decide +kernel) (by decide +kernel)
theorem wy_X6_3 : u_lay RX6 TX6 3 ∈ WT := wt_in 369 (by decide +kernel) (by decide +kernel)
theorem wy_X6_4 : u_lay RX6 TX6 4 ∈ WT := wt_in 371 (by decide +kernel) (by decide +kernel)
theorem wy_X6_5 : u_lay RX6 TX6 5 ∈ WT := wt_in 373 (by decide +kernel) (by decide +kernel)
theorem wy_X6_6 : u_lay RX6 TX6 6 ∈ WT := wt_in 375 (by decide +kernel) (by decide +kernel)
theorem wy_X6_7 : u_lay RX6 TX6 7 ∈ WT := wt_in 377 (by decide +kernel) (by decide +kernel)
theorem wy_X6_8 : u_lay RX6 TX6 8 ∈ WT := wt_in 379 (by decide +kernel) (by decide +kernel)
theorem wy_X6_9 : u_lay RX6 TX6 9 ∈ WT := wt_in 381 (by decide +kernel) (by decide +kernel)
theorem wy_X6_10 : u_lay RX6 TX6 10 ∈ WT := wt_in 383 (by decide +kernel) (by decide +kernel)
theorem wy_X6_11 : u_lay RX6 TX6 11 ∈ WT := wt_in 385 (by decide +kernel) (by decide +kernel)
theorem in_X6 : ∀ w ∈ u_ws RX6 TX6 12, w ∈ WT := fun w hw => by
  obtain ⟨k, hk, rfl⟩ := List.mem_map.mp hw
  have hk := List.mem_range.mp hk
  rcases (show k = 0 ∨ k = 1 ∨ k = 2 ∨ k = 3 ∨ k = 4 ∨ k = 5 ∨ k = 6 ∨ k = 7 ∨ k = 8 ∨ k = 9 ∨ k = 10 ∨ k = 11 by omega) with rfl | rfl | rfl | rfl | rfl | rfl | rfl | rfl | rfl | rfl | rfl | rfl
  · exact wy_X6_0
  · exact wy_X6_1
  · exact wy_X6_2
  · exact wy_X6_3
  · exact wy_X6_4
  · exact wy_X6_5
  · exact wy_X6_6
  · exact wy_X6_7
  · exact wy_X6_8
  · exact wy_X6_9
  · exact wy_X6_10
  · exact wy_X6_11
theorem fp_X6 : FP RX6 TX6 12 tyX6 := ⟨tyX6_ok, nmX6⟩
theorem wf_X6_33 : Cond.fieldLink RX6 33 (TX6 3).1 (TX6 3).2.1 (TX6 3).2.2.1 ∈ WT := wt_in 354 (by decide +kernel) (by decide +kernel)
theorem fl_X6_33 : FL RX6 RX6 TX6 12 6 3 33 true := ⟨in_X6, rfl, by decide, wf_X6_33, rfl⟩
theorem wf_X6_95 : Cond.fieldLink RX6 95 (TX3 0).1 (TX3 0).2.1 (TX3 0).2.2.1 ∈ WT := wt_in 256 (by decide +kernel) (by decide +kernel)
theorem fl_X6_95 : FL RX6 RX3 TX3 9 3 0 95 true := ⟨in_X3, rfl, by decide, wf_X6_95, rfl⟩
theorem wm_X6_155 : Cond.methodLink RX6 155 yX6_isOpenOrBelow ∈ WT := wt_in 1310 (by decide +kernel) (by decide +kernel)
theorem wc_X6_isOpenOrBelow : Cond.code yX6_isOpenOrBelow cX6_isOpenOrBelow 2 (some .boolean) ∈ WT := wt_in 1312 (by decide +kernel) (by decide +kernel)
theorem hy_X6_isOpenOrBelow : (yX6_isOpenOrBelow.cls = RX6 ∧ yX6_isOpenOrBelow.cls ≠ "java/lang/invoke/MethodHandle" ∧ yX6_isOpenOrBelow.cls ≠ "java/lang/invoke/VarHandle" ∧ (parseMethodDescriptor yX6_isOpenOrBelow.desc).map (fun d => d.parameters.length) = some 2) := by decide +kernel
theorem wt_X6_isOpenOrBelow : Cond.static yX6_isOpenOrBelow ∈ WT := wt_in 1311 (by decide +kernel) (by decide +kernel)
theorem kl_X6_155 : CLS RX6 155 yX6_isOpenOrBelow cX6_isOpenOrBelow 2 (some .boolean) 2 := ⟨wm_X6_155, wt_X6_isOpenOrBelow, wn_X6, wc_X6_isOpenOrBelow, hy_X6_isOpenOrBelow.2⟩
theorem wl_X6_85 : Cond.classLink RX6 85 (exN 0) ∈ WT := wt_in 1068 (by decide +kernel) (by decide +kernel)
theorem wn_ex0 : Cond.initialized (exN 0) ∈ WT := wt_in 58 (by decide +kernel) (by decide +kernel)
theorem st_X6_332 : (RX6, 332, "no such kind, column or row", 32) ∈ strTab := by decide +kernel
theorem wf_X6_150 : Cond.fieldLink RX6 150 (TX0 0).1 (TX0 0).2.1 (TX0 0).2.2.1 ∈ WT := wt_in 223 (by decide +kernel) (by decide +kernel)
theorem fl_X6_150 : FL RX6 RX0 TX0 7 0 0 150 false := ⟨in_X0, rfl, by decide, wf_X6_150, rfl⟩
theorem wf_X6_159 : Cond.fieldLink RX6 159 (TX0 1).1 (TX0 1).2.1 (TX0 1).2.2.1 ∈ WT := wt_in 227 (by decide +kernel) (by decide +kernel)
theorem fl_X6_159 : FL RX6 RX0 TX0 7 0 1 159 false := ⟨in_X0, rfl, by decide, wf_X6_159, rfl⟩
theorem wf_X6_37 : Cond.fieldLink RX6 37 (TX6 4).1 (TX6 4).2.1 (TX6 4).2.2.1 ∈ WT := wt_in 355 (by decide +kernel) (by decide +kernel)
theorem fl_X6_37 : FL RX6 RX6 TX6 12 6 4 37 true := ⟨in_X6, rfl, by decide, wf_X6_37, rfl⟩
theorem wm_X6_114 : Cond.methodLink RX6 114 yX3_copyFrom ∈ WT := wt_in 1045 (by decide +kernel) (by decide +kernel)
theorem wc_X3_copyFrom : Cond.code yX3_copyFrom cX3_copyFrom 3 none ∈ WT := wt_in 1048 (by decide +kernel) (by decide +kernel)
theorem hy_X3_copyFrom : (yX3_copyFrom.cls = RX3 ∧ yX3_copyFrom.cls ≠ "java/lang/invoke/MethodHandle" ∧ yX3_copyFrom.cls ≠ "java/lang/invoke/VarHandle" ∧ (parseMethodDescriptor yX3_copyFrom.desc).map (fun d => d.parameters.length) = some 1) := by decide +kernel
theorem wi_X3_copyFrom : Cond.instanceMethod yX3_copyFrom ∈ WT := wt_in 1046 (by decide +kernel) (by decide +kernel)
theorem ws_X3_copyFrom : Cond.selects RX3 yX3_copyFrom yX3_copyFrom ∈ WT := wt_in 1047 (by decide +kernel) (by decide +kernel)
theorem kl_X6_114 : CLV RX6 RX3 3 114 yX3_copyFrom cX3_copyFrom 3 none 1 := ⟨⟨_, _, rfl⟩, wm_X6_114, wi_X3_copyFrom, ws_X3_copyFrom, wn_X3, wc_X3_copyFrom, hy_X3_copyFrom⟩
theorem wf_X6_26 : Cond.fieldLink RX6 26 (TX6 2).1 (TX6 2).2.1 (TX6 2).2.2.1 ∈ WT := wt_in 353 (by decide +kernel) (by decide +kernel)
theorem fl_X6_26 : FL RX6 RX6 TX6 12 6 2 26 true := ⟨in_X6, rfl, by decide, wf_X6_26, rfl⟩
theorem wm_X6_339 : Cond.methodLink RX6 339 yX3_addLast ∈ WT := wt_in 554 (by decide +kernel) (by decide +kernel)
theorem wc_X3_addLast : Cond.code yX3_addLast cX3_addLast 2 (some .boolean) ∈ WT := wt_in 557 (by decide +kernel) (by decide +kernel)
theorem hy_X3_addLast : (yX3_addLast.cls = RX3 ∧ yX3_addLast.cls ≠ "java/lang/invoke/MethodHandle" ∧ yX3_addLast.cls ≠ "java/lang/invoke/VarHandle" ∧ (parseMethodDescriptor yX3_addLast.desc).map (fun d => d.parameters.length) = some 1) := by decide +kernel
theorem wi_X3_addLast : Cond.instanceMethod yX3_addLast ∈ WT := wt_in 555 (by decide +kernel) (by decide +kernel)
theorem ws_X3_addLast : Cond.selects RX3 yX3_addLast yX3_addLast ∈ WT := wt_in 556 (by decide +kernel) (by decide +kernel)
theorem kl_X6_339 : CLV RX6 RX3 3 339 yX3_addLast cX3_addLast 2 (some .boolean) 1 := ⟨⟨_, _, rfl⟩, wm_X6_339, wi_X3_addLast, ws_X3_addLast, wn_X3, wc_X3_addLast, hy_X3_addLast⟩
theorem wf_X6_174 : Cond.fieldLink RX6 174 (TX3 1).1 (TX3 1).2.1 (TX3 1).2.2.1 ∈ WT := wt_in 260 (by decide +kernel) (by decide +kernel)
theorem fl_X6_174 : FL RX6 RX3 TX3 9 3 1 174 false := ⟨in_X3, rfl, by decide, wf_X6_174, rfl⟩
theorem wm_X6_168 : Cond.methodLink RX6 168 yX3_follow ∈ WT := wt_in 562 (by decide +kernel) (by decide +kernel)
theorem wc_X3_follow : Cond.code yX3_follow cX3_follow 6 (some .int) ∈ WT := wt_in 565 (by decide +kernel) (by decide +kernel)
theorem hy_X3_follow : (yX3_follow.cls = RX3 ∧ yX3_follow.cls ≠ "java/lang/invoke/MethodHandle" ∧ yX3_follow.cls ≠ "java/lang/invoke/VarHandle" ∧ (parseMethodDescriptor yX3_follow.desc).map (fun d => d.parameters.length) = some 1) := by decide +kernel
theorem wi_X3_follow : Cond.instanceMethod yX3_follow ∈ WT := wt_in 563 (by decide +kernel) (by decide +kernel)
theorem ws_X3_follow : Cond.selects RX3 yX3_follow yX3_follow ∈ WT := wt_in 564 (by decide +kernel) (by decide +kernel)
theorem kl_X6_168 : CLV RX6 RX3 3 168 yX3_follow cX3_follow 6 (some .int) 1 := ⟨⟨_, _, rfl⟩, wm_X6_168, wi_X3_follow, ws_X3_follow, wn_X3, wc_X3_follow, hy_X3_follow⟩
theorem wf_X6_44 : Cond.fieldLink RX6 44 (TX6 6).1 (TX6 6).2.1 (TX6 6).2.2.1 ∈ WT := wt_in 357 (by decide +kernel) (by decide +kernel)
theorem fl_X6_44 : FL RX6 RX6 TX6 12 6 6 44 false := ⟨in_X6, rfl, by decide, wf_X6_44, rfl⟩
theorem wf_X6_40 : Cond.fieldLink RX6 40 (TX6 5).1 (TX6 5).2.1 (TX6 5).2.2.1 ∈ WT := wt_in 356 (by decide +kernel) (by decide +kernel)
theorem fl_X6_40 : FL RX6 RX6 TX6 12 6 5 40 true := ⟨in_X6, rfl, by decide, wf_X6_40, rfl⟩
theorem wf_X6_48 : Cond.fieldLink RX6 48 (TX6 7).1 (TX6 7).2.1 (TX6 7).2.2.1 ∈ WT := wt_in 358 (by decide +kernel) (by decide +kernel)
theorem fl_X6_48 : FL RX6 RX6 TX6 12 6 7 48 false := ⟨in_X6, rfl, by decide, wf_X6_48, rfl⟩
theorem wf_X6_19 : Cond.fieldLink RX6 19 (TX6 1).1 (TX6 1).2.1 (TX6 1).2.2.1 ∈ WT := wt_in 352 (by decide +kernel) (by decide +kernel)
theorem fl_X6_19 : FL RX6 RX6 TX6 12 6 1 19 true := ⟨in_X6, rfl, by decide, wf_X6_19, rfl⟩
theorem wm_X6_181 : Cond.methodLink RX6 181 yX4_countContinuations ∈ WT := wt_in 671 (by decide +kernel) (by decide +kernel)
theorem wc_X4_countContinuations : Cond.code yX4_countContinuations cX4_countContinuations 7 none ∈ WT := wt_in 674 (by decide +kernel) (by decide +kernel)
theorem hy_X4_countContinuations : (yX4_countContinuations.cls = RX4 ∧ yX4_countContinuations.cls ≠ "java/lang/invoke/MethodHandle" ∧ yX4_countContinuations.cls ≠ "java/lang/invoke/VarHandle" ∧ (parseMethodDescriptor yX4_countContinuations.desc).map (fun d => d.parameters.length) = some 1) := by decide +kernel
theorem wi_X4_countContinuations : Cond.instanceMethod yX4_countContinuations ∈ WT := wt_in 672 (by decide +kernel) (by decide +kernel)
theorem ws_X4_countContinuations : Cond.selects RX4 yX4_countContinuations yX4_countContinuations ∈ WT := wt_in 673 (by decide +kernel) (by decide +kernel)
theorem kl_X6_181 : CLV RX6 RX4 4 181 yX4_countContinuations cX4_countContinuations 7 none 1 := ⟨⟨_, _, rfl⟩, wm_X6_181, wi_X4_countContinuations, ws_X4_countContinuations, wn_X4, wc_X4_countContinuations, hy_X4_countContinuations⟩
theorem wm_X6_127 : Cond.methodLink RX6 127 yX6_requireStatable ∈ WT := wt_in 1325 (by decide +kernel) (by decide +kernel)
theorem wc_X6_requireStatable : Cond.code yX6_requireStatable cX6_requireStatable 6 none ∈ WT := wt_in 1328 (by decide +kernel) (by decide +kernel)
theorem hy_X6_requireStatable : (yX6_requireStatable.cls = RX6 ∧ yX6_requireStatable.cls ≠ "java/lang/invoke/MethodHandle" ∧ yX6_requireStatable.cls ≠ "java/lang/invoke/VarHandle" ∧ (parseMethodDescriptor yX6_requireStatable.desc).map (fun d => d.parameters.length) = some 4) := by decide +kernel
theorem wi_X6_requireStatable : Cond.instanceMethod yX6_requireStatable ∈ WT := wt_in 1327 (by decide +kernel) (by decide +kernel)
theorem ws_X6_requireStatable : Cond.selects RX6 yX6_requireStatable yX6_requireStatable ∈ WT := wt_in 33 (by decide +kernel) (by decide +kernel)
theorem kl_X6_127 : CLV RX6 RX6 6 127 yX6_requireStatable cX6_requireStatable 6 none 4 := ⟨⟨_, _, rfl⟩, wm_X6_127, wi_X6_requireStatable, ws_X6_requireStatable, wn_X6, wc_X6_requireStatable, hy_X6_requireStatable⟩
theorem wm_X6_131 : Cond.methodLink RX6 131 yX1_state ∈ WT := wt_in 1330 (by decide +kernel) (by decide +kernel)
theorem kl_X6_131 : CLV RX6 RX1 1 131 yX1_state cX1_state 7 none 6 := ⟨⟨_, _, rfl⟩, wm_X6_131, wi_X1_state, ws_X1_state, wn_X1, wc_X1_state, hy_X1_state⟩
theorem wm_X6_135 : Cond.methodLink RX6 135 yX6_followAsked ∈ WT := wt_in 1331 (by decide +kernel) (by decide +kernel)
theorem wc_X6_followAsked : Cond.code yX6_followAsked cX6_followAsked 1 (some .int) ∈ WT := wt_in 1334 (by decide +kernel) (by decide +kernel)
theorem hy_X6_followAsked : (yX6_followAsked.cls = RX6 ∧ yX6_followAsked.cls ≠ "java/lang/invoke/MethodHandle" ∧ yX6_followAsked.cls ≠ "java/lang/invoke/VarHandle" ∧ (parseMethodDescriptor yX6_followAsked.desc).map (fun d => d.parameters.length) = some 0) := by decide +kernel
theorem wi_X6_followAsked : Cond.instanceMethod yX6_followAsked ∈ WT := wt_in 1333 (by decide +kernel) (by decide +kernel)
theorem ws_X6_followAsked : Cond.selects RX6 yX6_followAsked yX6_followAsked ∈ WT := wt_in 34 (by decide +kernel) (by decide +kernel)
theorem kl_X6_135 : CLV RX6 RX6 6 135 yX6_followAsked cX6_followAsked 1 (some .int) 0 := ⟨⟨_, _, rfl⟩, wm_X6_135, wi_X6_followAsked, ws_X6_followAsked, wn_X6, wc_X6_followAsked, hy_X6_followAsked⟩
theorem wm_X6_144 : Cond.methodLink RX6 144 yX6_commit ∈ WT := wt_in 667 (by decide +kernel) (by decide +kernel)
theorem wc_X6_commit : Cond.code yX6_commit cX6_commit 2 none ∈ WT := wt_in 670 (by decide +kernel) (by decide +kernel)
theorem hy_X6_commit : (yX6_commit.cls = RX6 ∧ yX6_commit.cls ≠ "java/lang/invoke/MethodHandle" ∧ yX6_commit.cls ≠ "java/lang/invoke/VarHandle" ∧ (parseMethodDescriptor yX6_commit.desc).map (fun d => d.parameters.length) = some 0) := by decide +kernel
theorem wi_X6_commit : Cond.instanceMethod yX6_commit ∈ WT := wt_in 669 (by decide +kernel) (by decide +kernel)
theorem ws_X6_commit : Cond.selects RX6 yX6_commit yX6_commit ∈ WT := wt_in 24 (by decide +kernel) (by decide +kernel)
theorem kl_X6_144 : CLV RX6 RX6 6 144 yX6_commit cX6_commit 2 none 0 := ⟨⟨_, _, rfl⟩, wm_X6_144, wi_X6_commit, ws_X6_commit, wn_X6, wc_X6_commit, hy_X6_commit⟩
theorem wl_X6_139 : Cond.classLink RX6 139 (exN 1) ∈ WT := wt_in 1029 (by decide +kernel) (by decide +kernel)
theorem wn_ex1 : Cond.initialized (exN 1) ∈ WT := wt_in 61 (by decide +kernel) (by decide +kernel)
theorem st_X6_141 : (RX6, 141, "the note is not possible", 33) ∈ strTab := by decide +kernel
theorem wf_X6_12 : Cond.fieldLink RX6 12 (TX6 0).1 (TX6 0).2.1 (TX6 0).2.2.1 ∈ WT := wt_in 351 (by decide +kernel) (by decide +kernel)
theorem fl_X6_12 : FL RX6 RX6 TX6 12 6 0 12 true := ⟨in_X6, rfl, by decide, wf_X6_12, rfl⟩
theorem wf_X6_68 : Cond.fieldLink RX6 68 (TX2 0).1 (TX2 0).2.1 (TX2 0).2.2.1 ∈ WT := wt_in 149 (by decide +kernel) (by decide +kernel)
theorem fl_X6_68 : FL RX6 RX2 TX2 11 2 0 68 true := ⟨in_X2, rfl, by decide, wf_X6_68, rfl⟩
theorem wm_X6_72 : Cond.methodLink RX6 72 yX5_hasRoom ∈ WT := wt_in 1080 (by decide +kernel) (by decide +kernel)
theorem wc_X5_hasRoom : Cond.code yX5_hasRoom cX5_hasRoom 1 (some .boolean) ∈ WT := wt_in 1083 (by decide +kernel) (by decide +kernel)
theorem hy_X5_hasRoom : (yX5_hasRoom.cls = RX5 ∧ yX5_hasRoom.cls ≠ "java/lang/invoke/MethodHandle" ∧ yX5_hasRoom.cls ≠ "java/lang/invoke/VarHandle" ∧ (parseMethodDescriptor yX5_hasRoom.desc).map (fun d => d.parameters.length) = some 0) := by decide +kernel
theorem wi_X5_hasRoom : Cond.instanceMethod yX5_hasRoom ∈ WT := wt_in 1081 (by decide +kernel) (by decide +kernel)
theorem ws_X5_hasRoom : Cond.selects RX5 yX5_hasRoom yX5_hasRoom ∈ WT := wt_in 1082 (by decide +kernel) (by decide +kernel)
theorem kl_X6_72 : CLV RX6 RX5 5 72 yX5_hasRoom cX5_hasRoom 1 (some .boolean) 0 := ⟨⟨_, _, rfl⟩, wm_X6_72, wi_X5_hasRoom, ws_X5_hasRoom, wn_X5, wc_X5_hasRoom, hy_X5_hasRoom⟩
theorem wm_X6_78 : Cond.methodLink RX6 78 yX5_put ∈ WT := wt_in 1084 (by decide +kernel) (by decide +kernel)
theorem wc_X5_put : Cond.code yX5_put cX5_put 3 none ∈ WT := wt_in 1087 (by decide +kernel) (by decide +kernel)
theorem hy_X5_put : (yX5_put.cls = RX5 ∧ yX5_put.cls ≠ "java/lang/invoke/MethodHandle" ∧ yX5_put.cls ≠ "java/lang/invoke/VarHandle" ∧ (parseMethodDescriptor yX5_put.desc).map (fun d => d.parameters.length) = some 1) := by decide +kernel
theorem wi_X5_put : Cond.instanceMethod yX5_put ∈ WT := wt_in 1085 (by decide +kernel) (by decide +kernel)
theorem ws_X5_put : Cond.selects RX5 yX5_put yX5_put ∈ WT := wt_in 1086 (by decide +kernel) (by decide +kernel)
theorem kl_X6_78 : CLV RX6 RX5 5 78 yX5_put cX5_put 3 none 1 := ⟨⟨_, _, rfl⟩, wm_X6_78, wi_X5_put, ws_X5_put, wn_X5, wc_X5_put, hy_X5_put⟩
theorem wf_X6_82 : Cond.fieldLink RX6 82 (TX5 0).1 (TX5 0).2.1 (TX5 0).2.2.1 ∈ WT := wt_in 83 (by decide +kernel) (by decide +kernel)
theorem fl_X6_82 : FL RX6 RX5 TX5 6 5 0 82 false := ⟨in_X5, rfl, by decide, wf_X6_82, rfl⟩
theorem wm_X6_368 : Cond.methodLink RX6 368 yX0_count ∈ WT := wt_in 1291 (by decide +kernel) (by decide +kernel)
theorem wc_X0_count : Cond.code yX0_count cX0_count 4 (some .int) ∈ WT := wt_in 1294 (by decide +kernel) (by decide +kernel)
theorem hy_X0_count : (yX0_count.cls = RX0 ∧ yX0_count.cls ≠ "java/lang/invoke/MethodHandle" ∧ yX0_count.cls ≠ "java/lang/invoke/VarHandle" ∧ (parseMethodDescriptor yX0_count.desc).map (fun d => d.parameters.length) = some 1) := by decide +kernel
theorem wi_X0_count : Cond.instanceMethod yX0_count ∈ WT := wt_in 1292 (by decide +kernel) (by decide +kernel)
theorem ws_X0_count : Cond.selects RX0 yX0_count yX0_count ∈ WT := wt_in 1293 (by decide +kernel) (by decide +kernel)
theorem kl_X6_368 : CLV RX6 RX0 0 368 yX0_count cX0_count 4 (some .int) 1 := ⟨⟨_, _, rfl⟩, wm_X6_368, wi_X0_count, ws_X0_count, wn_X0, wc_X0_count, hy_X0_count⟩
theorem wm_X6_189 : Cond.methodLink RX6 189 yX3_mover ∈ WT := wt_in 1160 (by decide +kernel) (by decide +kernel)
theorem kl_X6_189 : CLV RX6 RX3 3 189 yX3_mover cX3_mover 2 (some .int) 1 := ⟨⟨_, _, rfl⟩, wm_X6_189, wi_X3_mover, ws_X3_mover, wn_X3, wc_X3_mover, hy_X3_mover⟩
theorem wm_X6_371 : Cond.methodLink RX6 371 yX0_kingPlace ∈ WT := wt_in 1295 (by decide +kernel) (by decide +kernel)
theorem kl_X6_371 : CLV RX6 RX0 0 371 yX0_kingPlace cX0_kingPlace 2 (some .int) 1 := ⟨⟨_, _, rfl⟩, wm_X6_371, wi_X0_kingPlace, ws_X0_kingPlace, wn_X0, wc_X0_kingPlace, hy_X0_kingPlace⟩
theorem wm_X6_253 : Cond.methodLink RX6 253 yX0_isReached ∈ WT := wt_in 1175 (by decide +kernel) (by decide +kernel)
theorem kl_X6_253 : CLV RX6 RX0 0 253 yX0_isReached cX0_isReached 8 (some .boolean) 2 := ⟨⟨_, _, rfl⟩, wm_X6_253, wi_X0_isReached, ws_X0_isReached, wn_X0, wc_X0_isReached, hy_X0_isReached⟩
theorem wl_X6_319 : Cond.classLink RX6 319 (exN 2) ∈ WT := wt_in 1124 (by decide +kernel) (by decide +kernel)
theorem wn_ex2 : Cond.initialized (exN 2) ∈ WT := wt_in 59 (by decide +kernel) (by decide +kernel)
theorem st_X6_321 : (RX6, 321, "no such note", 28) ∈ strTab := by decide +kernel
theorem wm_X6_147 : Cond.methodLink RX6 147 yX6_requireNote ∈ WT := wt_in 1196 (by decide +kernel) (by decide +kernel)
theorem wc_X6_requireNote : Cond.code yX6_requireNote cX6_requireNote 2 none ∈ WT := wt_in 1199 (by decide +kernel) (by decide +kernel)
theorem hy_X6_requireNote : (yX6_requireNote.cls = RX6 ∧ yX6_requireNote.cls ≠ "java/lang/invoke/MethodHandle" ∧ yX6_requireNote.cls ≠ "java/lang/invoke/VarHandle" ∧ (parseMethodDescriptor yX6_requireNote.desc).map (fun d => d.parameters.length) = some 1) := by decide +kernel
theorem wi_X6_requireNote : Cond.instanceMethod yX6_requireNote ∈ WT := wt_in 1198 (by decide +kernel) (by decide +kernel)
theorem ws_X6_requireNote : Cond.selects RX6 yX6_requireNote yX6_requireNote ∈ WT := wt_in 30 (by decide +kernel) (by decide +kernel)
theorem kl_X6_147 : CLV RX6 RX6 6 147 yX6_requireNote cX6_requireNote 2 none 1 := ⟨⟨_, _, rfl⟩, wm_X6_147, wi_X6_requireNote, ws_X6_requireNote, wn_X6, wc_X6_requireNote, hy_X6_requireNote⟩
theorem st_X6_162 : (RX6, 162, "no such column or row", 30) ∈ strTab := by decide +kernel
theorem wm_X6_164 : Cond.methodLink RX6 164 yX3_setOrigin ∈ WT := wt_in 655 (by decide +kernel) (by decide +kernel)
theorem wc_X3_setOrigin : Cond.code yX3_setOrigin cX3_setOrigin 4 none ∈ WT := wt_in 658 (by decide +kernel) (by decide +kernel)
theorem hy_X3_setOrigin : (yX3_setOrigin.cls = RX3 ∧ yX3_setOrigin.cls ≠ "java/lang/invoke/MethodHandle" ∧ yX3_setOrigin.cls ≠ "java/lang/invoke/VarHandle" ∧ (parseMethodDescriptor yX3_setOrigin.desc).map (fun d => d.parameters.length) = some 3) := by decide +kernel
theorem wi_X3_setOrigin : Cond.instanceMethod yX3_setOrigin ∈ WT := wt_in 656 (by decide +kernel) (by decide +kernel)
theorem ws_X3_setOrigin : Cond.selects RX3 yX3_setOrigin yX3_setOrigin ∈ WT := wt_in 657 (by decide +kernel) (by decide +kernel)
theorem kl_X6_164 : CLV RX6 RX3 3 164 yX3_setOrigin cX3_setOrigin 4 none 3 := ⟨⟨_, _, rfl⟩, wm_X6_164, wi_X3_setOrigin, ws_X3_setOrigin, wn_X3, wc_X3_setOrigin, hy_X3_setOrigin⟩
theorem st_X6_172 : (RX6, 172, "the origin is not possible", 31) ∈ strTab := by decide +kernel
theorem st_X6_324 : (RX6, 324, "no such position", 25) ∈ strTab := by decide +kernel
theorem wm_X6_294 : Cond.methodLink RX6 294 yX3_positionCount ∈ WT := wt_in 1123 (by decide +kernel) (by decide +kernel)
theorem kl_X6_294 : CLV RX6 RX3 3 294 yX3_positionCount cX3_positionCount 1 (some .int) 0 := ⟨⟨_, _, rfl⟩, wm_X6_294, wi_X3_positionCount, ws_X3_positionCount, wn_X3, wc_X3_positionCount, hy_X3_positionCount⟩
theorem st_X6_326 : (RX6, 326, "no such square", 26) ∈ strTab := by decide +kernel
theorem wm_X6_224 : Cond.methodLink RX6 224 yX6_requirePosition ∈ WT := wt_in 1119 (by decide +kernel) (by decide +kernel)
theorem wc_X6_requirePosition : Cond.code yX6_requirePosition cX6_requirePosition 2 none ∈ WT := wt_in 1122 (by decide +kernel) (by decide +kernel)
theorem hy_X6_requirePosition : (yX6_requirePosition.cls = RX6 ∧ yX6_requirePosition.cls ≠ "java/lang/invoke/MethodHandle" ∧ yX6_requirePosition.cls ≠ "java/lang/invoke/VarHandle" ∧ (parseMethodDescriptor yX6_requirePosition.desc).map (fun d => d.parameters.length) = some 1) := by decide +kernel
theorem wi_X6_requirePosition : Cond.instanceMethod yX6_requirePosition ∈ WT := wt_in 1121 (by decide +kernel) (by decide +kernel)
theorem ws_X6_requirePosition : Cond.selects RX6 yX6_requirePosition yX6_requirePosition ∈ WT := wt_in 27 (by decide +kernel) (by decide +kernel)
theorem kl_X6_224 : CLV RX6 RX6 6 224 yX6_requirePosition cX6_requirePosition 2 none 1 := ⟨⟨_, _, rfl⟩, wm_X6_224, wi_X6_requirePosition, ws_X6_requirePosition, wn_X6, wc_X6_requirePosition, hy_X6_requirePosition⟩
theorem wm_X6_227 : Cond.methodLink RX6 227 yX6_requireSquare ∈ WT := wt_in 1137 (by decide +kernel) (by decide +kernel)
theorem wc_X6_requireSquare : Cond.code yX6_requireSquare cX6_requireSquare 3 none ∈ WT := wt_in 1140 (by decide +kernel) (by decide +kernel)
theorem hy_X6_requireSquare : (yX6_requireSquare.cls = RX6 ∧ yX6_requireSquare.cls ≠ "java/lang/invoke/MethodHandle" ∧ yX6_requireSquare.cls ≠ "java/lang/invoke/VarHandle" ∧ (parseMethodDescriptor yX6_requireSquare.desc).map (fun d => d.parameters.length) = some 2) := by decide +kernel
theorem wi_X6_requireSquare : Cond.instanceMethod yX6_requireSquare ∈ WT := wt_in 1139 (by decide +kernel) (by decide +kernel)
theorem ws_X6_requireSquare : Cond.selects RX6 yX6_requireSquare yX6_requireSquare ∈ WT := wt_in 28 (by decide +kernel) (by decide +kernel)
theorem kl_X6_227 : CLV RX6 RX6 6 227 yX6_requireSquare cX6_requireSquare 3 none 2 := ⟨⟨_, _, rfl⟩, wm_X6_227, wi_X6_requireSquare, ws_X6_requireSquare, wn_X6, wc_X6_requireSquare, hy_X6_requireSquare⟩
theorem wm_X6_231 : Cond.methodLink RX6 231 yX0_squareOf ∈ WT := wt_in 1142 (by decide +kernel) (by decide +kernel)
theorem kl_X6_231 : CLV RX6 RX0 0 231 yX0_squareOf cX0_squareOf 3 (some .int) 2 := ⟨⟨_, _, rfl⟩, wm_X6_231, wi_X0_squareOf, ws_X0_squareOf, wn_X0, wc_X0_squareOf, hy_X0_squareOf⟩
theorem wm_X6_235 : Cond.methodLink RX6 235 yX3_contentAt ∈ WT := wt_in 1143 (by decide +kernel) (by decide +kernel)
theorem wc_X3_contentAt : Cond.code yX3_contentAt cX3_contentAt 3 (some .int) ∈ WT := wt_in 1146 (by decide +kernel) (by decide +kernel)
theorem hy_X3_contentAt : (yX3_contentAt.cls = RX3 ∧ yX3_contentAt.cls ≠ "java/lang/invoke/MethodHandle" ∧ yX3_contentAt.cls ≠ "java/lang/invoke/VarHandle" ∧ (parseMethodDescriptor yX3_contentAt.desc).map (fun d => d.parameters.length) = some 2) := by decide +kernel
theorem wi_X3_contentAt : Cond.instanceMethod yX3_contentAt ∈ WT := wt_in 1144 (by decide +kernel) (by decide +kernel)
theorem ws_X3_contentAt : Cond.selects RX3 yX3_contentAt yX3_contentAt ∈ WT := wt_in 1145 (by decide +kernel) (by decide +kernel)
theorem kl_X6_235 : CLV RX6 RX3 3 235 yX3_contentAt cX3_contentAt 3 (some .int) 2 := ⟨⟨_, _, rfl⟩, wm_X6_235, wi_X3_contentAt, ws_X3_contentAt, wn_X3, wc_X3_contentAt, hy_X3_contentAt⟩
theorem wm_X6_241 : Cond.methodLink RX6 241 yX6_colourOf ∈ WT := wt_in 1155 (by decide +kernel) (by decide +kernel)
theorem kl_X6_241 : CLS RX6 241 yX6_colourOf cX6_colourOf 1 (some .int) 1 := ⟨wm_X6_241, wt_X6_colourOf, wn_X6, wc_X6_colourOf, hy_X6_colourOf.2⟩
theorem wm_X6_275 : Cond.methodLink RX6 275 yX4_countGames ∈ WT := wt_in 1201 (by decide +kernel) (by decide +kernel)
theorem wc_X4_countGames : Cond.code yX4_countGames cX4_countGames 6 none ∈ WT := wt_in 1204 (by decide +kernel) (by decide +kernel)
theorem hy_X4_countGames : (yX4_countGames.cls = RX4 ∧ yX4_countGames.cls ≠ "java/lang/invoke/MethodHandle" ∧ yX4_countGames.cls ≠ "java/lang/invoke/VarHandle" ∧ (parseMethodDescriptor yX4_countGames.desc).map (fun d => d.parameters.length) = some 2) := by decide +kernel
theorem wi_X4_countGames : Cond.instanceMethod yX4_countGames ∈ WT := wt_in 1202 (by decide +kernel) (by decide +kernel)
theorem ws_X4_countGames : Cond.selects RX4 yX4_countGames yX4_countGames ∈ WT := wt_in 1203 (by decide +kernel) (by decide +kernel)
theorem kl_X6_275 : CLV RX6 RX4 4 275 yX4_countGames cX4_countGames 6 none 2 := ⟨⟨_, _, rfl⟩, wm_X6_275, wi_X4_countGames, ws_X4_countGames, wn_X4, wc_X4_countGames, hy_X4_countGames⟩
theorem wm_X6_279 : Cond.methodLink RX6 279 yX4_moveCount ∈ WT := wt_in 1213 (by decide +kernel) (by decide +kernel)
theorem wc_X4_moveCount : Cond.code yX4_moveCount cX4_moveCount 3 (some .int) ∈ WT := wt_in 1216 (by decide +kernel) (by decide +kernel)
theorem hy_X4_moveCount : (yX4_moveCount.cls = RX4 ∧ yX4_moveCount.cls ≠ "java/lang/invoke/MethodHandle" ∧ yX4_moveCount.cls ≠ "java/lang/invoke/VarHandle" ∧ (parseMethodDescriptor yX4_moveCount.desc).map (fun d => d.parameters.length) = some 0) := by decide +kernel
theorem wi_X4_moveCount : Cond.instanceMethod yX4_moveCount ∈ WT := wt_in 1214 (by decide +kernel) (by decide +kernel)
theorem ws_X4_moveCount : Cond.selects RX4 yX4_moveCount yX4_moveCount ∈ WT := wt_in 1215 (by decide +kernel) (by decide +kernel)
theorem kl_X6_279 : CLV RX6 RX4 4 279 yX4_moveCount cX4_moveCount 3 (some .int) 0 := ⟨⟨_, _, rfl⟩, wm_X6_279, wi_X4_moveCount, ws_X4_moveCount, wn_X4, wc_X4_moveCount, hy_X4_moveCount⟩
theorem st_X6_177 : (RX6, 177, "there is no note", 21) ∈ strTab := by decide +kernel
theorem wm_X6_271 : Cond.methodLink RX6 271 yX3_gameTotal ∈ WT := wt_in 1009 (by decide +kernel) (by decide +kernel)
theorem wc_X3_gameTotal : Cond.code yX3_gameTotal cX3_gameTotal 4 (some .long) ∈ WT := wt_in 1012 (by decide +kernel) (by decide +kernel)
theorem hy_X3_gameTotal : (yX3_gameTotal.cls = RX3 ∧ yX3_gameTotal.cls ≠ "java/lang/invoke/MethodHandle" ∧ yX3_gameTotal.cls ≠ "java/lang/invoke/VarHandle" ∧ (parseMethodDescriptor yX3_gameTotal.desc).map (fun d => d.parameters.length) = some 0) := by decide +kernel
theorem wi_X3_gameTotal : Cond.instanceMethod yX3_gameTotal ∈ WT := wt_in 1010 (by decide +kernel) (by decide +kernel)
theorem ws_X3_gameTotal : Cond.selects RX3 yX3_gameTotal yX3_gameTotal ∈ WT := wt_in 1011 (by decide +kernel) (by decide +kernel)
theorem kl_X6_271 : CLV RX6 RX3 3 271 yX3_gameTotal cX3_gameTotal 4 (some .long) 0 := ⟨⟨_, _, rfl⟩, wm_X6_271, wi_X3_gameTotal, ws_X3_gameTotal, wn_X3, wc_X3_gameTotal, hy_X3_gameTotal⟩
theorem wm_X6_260 : Cond.methodLink RX6 260 yX3_gamesToLast ∈ WT := wt_in 1183 (by decide +kernel) (by decide +kernel)
theorem kl_X6_260 : CLV RX6 RX3 3 260 yX3_gamesToLast cX3_gamesToLast 2 (some .long) 1 := ⟨⟨_, _, rfl⟩, wm_X6_260, wi_X3_gamesToLast, ws_X3_gamesToLast, wn_X3, wc_X3_gamesToLast, hy_X3_gamesToLast⟩
theorem wm_X6_334 : Cond.methodLink RX6 334 yX4_moveAt ∈ WT := wt_in 1228 (by decide +kernel) (by decide +kernel)
theorem wc_X4_moveAt : Cond.code yX4_moveAt cX4_moveAt 4 (some .int) ∈ WT := wt_in 1231 (by decide +kernel) (by decide +kernel)
theorem hy_X4_moveAt : (yX4_moveAt.cls = RX4 ∧ yX4_moveAt.cls ≠ "java/lang/invoke/MethodHandle" ∧ yX4_moveAt.cls ≠ "java/lang/invoke/VarHandle" ∧ (parseMethodDescriptor yX4_moveAt.desc).map (fun d => d.parameters.length) = some 1) := by decide +kernel
theorem wi_X4_moveAt : Cond.instanceMethod yX4_moveAt ∈ WT := wt_in 1229 (by decide +kernel) (by decide +kernel)
theorem ws_X4_moveAt : Cond.selects RX4 yX4_moveAt yX4_moveAt ∈ WT := wt_in 1230 (by decide +kernel) (by decide +kernel)
theorem kl_X6_334 : CLV RX6 RX4 4 334 yX4_moveAt cX4_moveAt 4 (some .int) 1 := ⟨⟨_, _, rfl⟩, wm_X6_334, wi_X4_moveAt, ws_X4_moveAt, wn_X4, wc_X4_moveAt, hy_X4_moveAt⟩
theorem st_X6_337 : (RX6, 337, "no such move", 29) ∈ strTab := by decide +kernel
theorem wf_X6_285 : Cond.fieldLink RX6 285 (TX4 0).1 (TX4 0).2.1 (TX4 0).2.2.1 ∈ WT := wt_in 196 (by decide +kernel) (by decide +kernel)
theorem fl_X6_285 : FL RX6 RX4 TX4 3 4 0 285 true := ⟨in_X4, rfl, by decide, wf_X6_285, rfl⟩
theorem wm_X6_282 : Cond.methodLink RX6 282 yX6_requireMove ∈ WT := wt_in 1224 (by decide +kernel) (by decide +kernel)
theorem wc_X6_requireMove : Cond.code yX6_requireMove cX6_requireMove 4 (some .int) ∈ WT := wt_in 1227 (by decide +kernel) (by decide +kernel)
theorem hy_X6_requireMove : (yX6_requireMove.cls = RX6 ∧ yX6_requireMove.cls ≠ "java/lang/invoke/MethodHandle" ∧ yX6_requireMove.cls ≠ "java/lang/invoke/VarHandle" ∧ (parseMethodDescriptor yX6_requireMove.desc).map (fun d => d.parameters.length) = some 2) := by decide +kernel
theorem wi_X6_requireMove : Cond.instanceMethod yX6_requireMove ∈ WT := wt_in 1226 (by decide +kernel) (by decide +kernel)
theorem ws_X6_requireMove : Cond.selects RX6 yX6_requireMove yX6_requireMove ∈ WT := wt_in 31 (by decide +kernel) (by decide +kernel)
theorem kl_X6_282 : CLV RX6 RX6 6 282 yX6_requireMove cX6_requireMove 4 (some .int) 2 := ⟨⟨_, _, rfl⟩, wm_X6_282, wi_X6_requireMove, ws_X6_requireMove, wn_X6, wc_X6_requireMove, hy_X6_requireMove⟩
theorem wm_X6_303 : Cond.methodLink RX6 303 yX4_gamesFromStart ∈ WT := wt_in 1296 (by decide +kernel) (by decide +kernel)
theorem wc_X4_gamesFromStart : Cond.code yX4_gamesFromStart cX4_gamesFromStart 1 (some .long) ∈ WT := wt_in 1299 (by decide +kernel) (by decide +kernel)
theorem hy_X4_gamesFromStart : (yX4_gamesFromStart.cls = RX4 ∧ yX4_gamesFromStart.cls ≠ "java/lang/invoke/MethodHandle" ∧ yX4_gamesFromStart.cls ≠ "java/lang/invoke/VarHandle" ∧ (parseMethodDescriptor yX4_gamesFromStart.desc).map (fun d => d.parameters.length) = some 0) := by decide +kernel
theorem wi_X4_gamesFromStart : Cond.instanceMethod yX4_gamesFromStart ∈ WT := wt_in 1297 (by decide +kernel) (by decide +kernel)
theorem ws_X4_gamesFromStart : Cond.selects RX4 yX4_gamesFromStart yX4_gamesFromStart ∈ WT := wt_in 1298 (by decide +kernel) (by decide +kernel)
theorem kl_X6_303 : CLV RX6 RX4 4 303 yX4_gamesFromStart cX4_gamesFromStart 1 (some .long) 0 := ⟨⟨_, _, rfl⟩, wm_X6_303, wi_X4_gamesFromStart, ws_X4_gamesFromStart, wn_X4, wc_X4_gamesFromStart, hy_X4_gamesFromStart⟩
theorem wm_X6_247 : Cond.methodLink RX6 247 yX3_show ∈ WT := wt_in 1173 (by decide +kernel) (by decide +kernel)
theorem kl_X6_247 : CLV RX6 RX3 3 247 yX3_show cX3_show 6 none 2 := ⟨⟨_, _, rfl⟩, wm_X6_247, wi_X3_show, ws_X3_show, wn_X3, wc_X3_show, hy_X3_show⟩
theorem wm_X6_300 : Cond.methodLink RX6 300 yX6_areKingsInOrder ∈ WT := wt_in 1287 (by decide +kernel) (by decide +kernel)
theorem wc_X6_areKingsInOrder : Cond.code yX6_areKingsInOrder cX6_areKingsInOrder 3 (some .boolean) ∈ WT := wt_in 1290 (by decide +kernel) (by decide +kernel)
theorem hy_X6_areKingsInOrder : (yX6_areKingsInOrder.cls = RX6 ∧ yX6_areKingsInOrder.cls ≠ "java/lang/invoke/MethodHandle" ∧ yX6_areKingsInOrder.cls ≠ "java/lang/invoke/VarHandle" ∧ (parseMethodDescriptor yX6_areKingsInOrder.desc).map (fun d => d.parameters.length) = some 0) := by decide +kernel
theorem wi_X6_areKingsInOrder : Cond.instanceMethod yX6_areKingsInOrder ∈ WT := wt_in 1289 (by decide +kernel) (by decide +kernel)
theorem ws_X6_areKingsInOrder : Cond.selects RX6 yX6_areKingsInOrder yX6_areKingsInOrder ∈ WT := wt_in 32 (by decide +kernel) (by decide +kernel)
theorem kl_X6_300 : CLV RX6 RX6 6 300 yX6_areKingsInOrder cX6_areKingsInOrder 3 (some .boolean) 0 := ⟨⟨_, _, rfl⟩, wm_X6_300, wi_X6_areKingsInOrder, ws_X6_areKingsInOrder, wn_X6, wc_X6_areKingsInOrder, hy_X6_areKingsInOrder⟩
theorem wm_X6_297 : Cond.methodLink RX6 297 yX4_total ∈ WT := wt_in 1283 (by decide +kernel) (by decide +kernel)
theorem wc_X4_total : Cond.code yX4_total cX4_total 4 (some .long) ∈ WT := wt_in 1286 (by decide +kernel) (by decide +kernel)
theorem hy_X4_total : (yX4_total.cls = RX4 ∧ yX4_total.cls ≠ "java/lang/invoke/MethodHandle" ∧ yX4_total.cls ≠ "java/lang/invoke/VarHandle" ∧ (parseMethodDescriptor yX4_total.desc).map (fun d => d.parameters.length) = some 0) := by decide +kernel
theorem wi_X4_total : Cond.instanceMethod yX4_total ∈ WT := wt_in 1284 (by decide +kernel) (by decide +kernel)
theorem ws_X4_total : Cond.selects RX4 yX4_total yX4_total ∈ WT := wt_in 1285 (by decide +kernel) (by decide +kernel)
theorem kl_X6_297 : CLV RX6 RX4 4 297 yX4_total cX4_total 4 (some .long) 0 := ⟨⟨_, _, rfl⟩, wm_X6_297, wi_X4_total, ws_X4_total, wn_X4, wc_X4_total, hy_X4_total⟩
theorem wm_X6_3 : Cond.methodLink RX6 3 Lib.objectInit ∈ WT := wt_in 67 (by decide +kernel) (by decide +kernel)
theorem wl_X6_9 : Cond.classLink RX6 9 RX2 ∈ WT := wt_in 70 (by decide +kernel) (by decide +kernel)
theorem wx_X2 : Cond.instantiable RX2 11 ∈ WT := wt_in 71 (by decide +kernel) (by decide +kernel)
theorem df_X2 : ∀ j, j < 11 → defaultValue (tyX2 j) = if (fk (2 + 10)).getD j false = true then .null else .int 0 := fun j hj => by
  rcases (show j = 0 ∨ j = 1 ∨ j = 2 ∨ j = 3 ∨ j = 4 ∨ j = 5 ∨ j = 6 ∨ j = 7 ∨ j = 8 ∨ j = 9 ∨ j = 10 by omega) with rfl | rfl | rfl | rfl | rfl | rfl | rfl | rfl | rfl | rfl | rfl <;> rfl
theorem wc_X2_init : Cond.code yX2_init cX2_init 1 none ∈ WT := wt_in 74 (by decide +kernel) (by decide +kernel)
theorem hy_X2_init : (yX2_init.cls = RX2 ∧ yX2_init.cls ≠ "java/lang/invoke/MethodHandle" ∧ yX2_init.cls ≠ "java/lang/invoke/VarHandle" ∧ (parseMethodDescriptor yX2_init.desc).map (fun d => d.parameters.length) = some 0) := by decide +kernel
theorem wi_X2_init : Cond.instanceMethod yX2_init ∈ WT := wt_in 73 (by decide +kernel) (by decide +kernel)
theorem kl_X6_11 : CLI RX6 11 yX2_init cX2_init 1 0 := ⟨Or.inr (by decide +kernel), wi_X2_init, wn_X2, wc_X2_init, rfl, hy_X2_init.2⟩
theorem wl_X6_16 : Cond.classLink RX6 16 RX4 ∈ WT := wt_in 189 (by decide +kernel) (by decide +kernel)
theorem wx_X4 : Cond.instantiable RX4 3 ∈ WT := wt_in 190 (by decide +kernel) (by decide +kernel)
theorem df_X4 : ∀ j, j < 3 → defaultValue (tyX4 j) = if (fk (4 + 10)).getD j false = true then .null else .int 0 := fun j hj => by
  rcases (show j = 0 ∨ j = 1 ∨ j = 2 by omega) with rfl | rfl | rfl <;> rfl
theorem wc_X4_init : Cond.code yX4_init cX4_init 1 none ∈ WT := wt_in 193 (by decide +kernel) (by decide +kernel)
theorem hy_X4_init : (yX4_init.cls = RX4 ∧ yX4_init.cls ≠ "java/lang/invoke/MethodHandle" ∧ yX4_init.cls ≠ "java/lang/invoke/VarHandle" ∧ (parseMethodDescriptor yX4_init.desc).map (fun d => d.parameters.length) = some 0) := by decide +kernel
theorem wi_X4_init : Cond.instanceMethod yX4_init ∈ WT := wt_in 192 (by decide +kernel) (by decide +kernel)
theorem wm_X6_18 : Cond.methodLink RX6 18 yX4_init ∈ WT := wt_in 191 (by decide +kernel) (by decide +kernel)
theorem kl_X6_18 : CLI RX6 18 yX4_init cX4_init 1 0 := ⟨Or.inl wm_X6_18, wi_X4_init, wn_X4, wc_X4_init, rfl, hy_X4_init.2⟩
theorem wl_X6_23 : Cond.classLink RX6 23 RX1 ∈ WT := wt_in 207 (by decide +kernel) (by decide +kernel)
theorem kl_X6_25 : CLI RX6 25 yX1_init cX1_init 1 0 := ⟨Or.inr (by decide +kernel), wi_X1_init, wn_X1, wc_X1_init, rfl, hy_X1_init.2⟩
theorem wl_X6_30 : Cond.classLink RX6 30 RX3 ∈ WT := wt_in 209 (by decide +kernel) (by decide +kernel)
theorem wx_X3 : Cond.instantiable RX3 9 ∈ WT := wt_in 210 (by decide +kernel) (by decide +kernel)
theorem df_X3 : ∀ j, j < 9 → defaultValue (tyX3 j) = if (fk (3 + 10)).getD j false = true then .null else .int 0 := fun j hj => by
  rcases (show j = 0 ∨ j = 1 ∨ j = 2 ∨ j = 3 ∨ j = 4 ∨ j = 5 ∨ j = 6 ∨ j = 7 ∨ j = 8 by omega) with rfl | rfl | rfl | rfl | rfl | rfl | rfl | rfl | rfl <;> rfl
theorem wc_X3_init : Cond.code yX3_init cX3_init 2 none ∈ WT := wt_in 213 (by decide +kernel) (by decide +kernel)
theorem hy_X3_init : (yX3_init.cls = RX3 ∧ yX3_init.cls ≠ "java/lang/invoke/MethodHandle" ∧ yX3_init.cls ≠ "java/lang/invoke/VarHandle" ∧ (parseMethodDescriptor yX3_init.desc).map (fun d => d.parameters.length) = some 0) := by decide +kernel
theorem wi_X3_init : Cond.instanceMethod yX3_init ∈ WT := wt_in 212 (by decide +kernel) (by decide +kernel)
theorem wm_X6_32 : Cond.methodLink RX6 32 yX3_init ∈ WT := wt_in 211 (by decide +kernel) (by decide +kernel)
theorem kl_X6_32 : CLI RX6 32 yX3_init cX3_init 2 0 := ⟨Or.inl wm_X6_32, wi_X3_init, wn_X3, wc_X3_init, rfl, hy_X3_init.2⟩
theorem wf_X6_51 : Cond.fieldLink RX6 51 (TX6 8).1 (TX6 8).2.1 (TX6 8).2.2.1 ∈ WT := wt_in 359 (by decide +kernel) (by decide +kernel)
theorem fl_X6_51 : FL RX6 RX6 TX6 12 6 8 51 true := ⟨in_X6, rfl, by decide, wf_X6_51, rfl⟩
theorem wa_3 : Cond.arrayClass (newarray.typeOf .boolean) ∈ WT := wt_in 388 (by decide +kernel) (by decide +kernel)
theorem wf_X6_54 : Cond.fieldLink RX6 54 (TX6 9).1 (TX6 9).2.1 (TX6 9).2.2.1 ∈ WT := wt_in 360 (by decide +kernel) (by decide +kernel)
theorem fl_X6_54 : FL RX6 RX6 TX6 12 6 9 54 true := ⟨in_X6, rfl, by decide, wf_X6_54, rfl⟩
theorem wf_X6_58 : Cond.fieldLink RX6 58 (TX6 10).1 (TX6 10).2.1 (TX6 10).2.2.1 ∈ WT := wt_in 361 (by decide +kernel) (by decide +kernel)
theorem fl_X6_58 : FL RX6 RX6 TX6 12 6 10 58 true := ⟨in_X6, rfl, by decide, wf_X6_58, rfl⟩
theorem wf_X6_62 : Cond.fieldLink RX6 62 (TX6 11).1 (TX6 11).2.1 (TX6 11).2.2.1 ∈ WT := wt_in 362 (by decide +kernel) (by decide +kernel)
theorem fl_X6_62 : FL RX6 RX6 TX6 12 6 11 62 false := ⟨in_X6, rfl, by decide, wf_X6_62, rfl⟩
theorem wm_X6_65 : Cond.methodLink RX6 65 yX3_beginAnew ∈ WT := wt_in 293 (by decide +kernel) (by decide +kernel)
theorem wc_X3_beginAnew : Cond.code yX3_beginAnew cX3_beginAnew 1 none ∈ WT := wt_in 296 (by decide +kernel) (by decide +kernel)
theorem hy_X3_beginAnew : (yX3_beginAnew.cls = RX3 ∧ yX3_beginAnew.cls ≠ "java/lang/invoke/MethodHandle" ∧ yX3_beginAnew.cls ≠ "java/lang/invoke/VarHandle" ∧ (parseMethodDescriptor yX3_beginAnew.desc).map (fun d => d.parameters.length) = some 0) := by decide +kernel
theorem wi_X3_beginAnew : Cond.instanceMethod yX3_beginAnew ∈ WT := wt_in 294 (by decide +kernel) (by decide +kernel)
theorem ws_X3_beginAnew : Cond.selects RX3 yX3_beginAnew yX3_beginAnew ∈ WT := wt_in 295 (by decide +kernel) (by decide +kernel)
theorem kl_X6_65 : CLV RX6 RX3 3 65 yX3_beginAnew cX3_beginAnew 1 none 0 := ⟨⟨_, _, rfl⟩, wm_X6_65, wi_X3_beginAnew, ws_X3_beginAnew, wn_X3, wc_X3_beginAnew, hy_X3_beginAnew⟩
theorem st_X6_328 : (RX6, 328, "no such colour", 27) ∈ strTab := by decide +kernel
theorem wm_X6_244 : Cond.methodLink RX6 244 yX6_requireColour ∈ WT := wt_in 1168 (by decide +kernel) (by decide +kernel)
theorem wc_X6_requireColour : Cond.code yX6_requireColour cX6_requireColour 2 none ∈ WT := wt_in 1171 (by decide +kernel) (by decide +kernel)
theorem hy_X6_requireColour : (yX6_requireColour.cls = RX6 ∧ yX6_requireColour.cls ≠ "java/lang/invoke/MethodHandle" ∧ yX6_requireColour.cls ≠ "java/lang/invoke/VarHandle" ∧ (parseMethodDescriptor yX6_requireColour.desc).map (fun d => d.parameters.length) = some 1) := by decide +kernel
theorem wi_X6_requireColour : Cond.instanceMethod yX6_requireColour ∈ WT := wt_in 1170 (by decide +kernel) (by decide +kernel)
theorem ws_X6_requireColour : Cond.selects RX6 yX6_requireColour yX6_requireColour ∈ WT := wt_in 29 (by decide +kernel) (by decide +kernel)
theorem kl_X6_244 : CLV RX6 RX6 6 244 yX6_requireColour cX6_requireColour 2 none 1 := ⟨⟨_, _, rfl⟩, wm_X6_244, wi_X6_requireColour, ws_X6_requireColour, wn_X6, wc_X6_requireColour, hy_X6_requireColour⟩
theorem wm_X6_250 : Cond.methodLink RX6 250 yX0_placeOf ∈ WT := wt_in 1174 (by decide +kernel) (by decide +kernel)
theorem kl_X6_250 : CLV RX6 RX0 0 250 yX0_placeOf cX0_placeOf 3 (some .int) 2 := ⟨⟨_, _, rfl⟩, wm_X6_250, wi_X0_placeOf, ws_X0_placeOf, wn_X0, wc_X0_placeOf, hy_X0_placeOf⟩
theorem wm_X6_238 : Cond.methodLink RX6 238 yX6_kindOf ∈ WT := wt_in 1147 (by decide +kernel) (by decide +kernel)
theorem kl_X6_238 : CLS RX6 238 yX6_kindOf cX6_kindOf 1 (some .int) 1 := ⟨wm_X6_238, wt_X6_kindOf, wn_X6, wc_X6_kindOf, hy_X6_kindOf.2⟩
theorem wm_X6_343 : Cond.methodLink RX6 343 yX2_isAtEnd ∈ WT := wt_in 528 (by decide +kernel) (by decide +kernel)
theorem kl_X6_343 : CLV RX6 RX2 2 343 yX2_isAtEnd cX2_isAtEnd 1 (some .boolean) 0 := ⟨⟨_, _, rfl⟩, wm_X6_343, wi_X2_isAtEnd, ws_X2_isAtEnd, wn_X2, wc_X2_isAtEnd, hy_X2_isAtEnd⟩
theorem wm_X6_346 : Cond.methodLink RX6 346 yX2_readCommand ∈ WT := wt_in 529 (by decide +kernel) (by decide +kernel)
theorem wc_X2_readCommand : Cond.code yX2_readCommand cX2_readCommand 2 (some .boolean) ∈ WT := wt_in 532 (by decide +kernel) (by decide +kernel)
theorem hy_X2_readCommand : (yX2_readCommand.cls = RX2 ∧ yX2_readCommand.cls ≠ "java/lang/invoke/MethodHandle" ∧ yX2_readCommand.cls ≠ "java/lang/invoke/VarHandle" ∧ (parseMethodDescriptor yX2_readCommand.desc).map (fun d => d.parameters.length) = some 1) := by decide +kernel
theorem wi_X2_readCommand : Cond.instanceMethod yX2_readCommand ∈ WT := wt_in 530 (by decide +kernel) (by decide +kernel)
theorem ws_X2_readCommand : Cond.selects RX2 yX2_readCommand yX2_readCommand ∈ WT := wt_in 531 (by decide +kernel) (by decide +kernel)
theorem kl_X6_346 : CLV RX6 RX2 2 346 yX2_readCommand cX2_readCommand 2 (some .boolean) 1 := ⟨⟨_, _, rfl⟩, wm_X6_346, wi_X2_readCommand, ws_X2_readCommand, wn_X2, wc_X2_readCommand, hy_X2_readCommand⟩
theorem wf_X6_350 : Cond.fieldLink RX6 350 (TX2 5).1 (TX2 5).2.1 (TX2 5).2.2.1 ∈ WT := wt_in 156 (by decide +kernel) (by decide +kernel)
theorem fl_X6_350 : FL RX6 RX2 TX2 11 2 5 350 false := ⟨in_X2, rfl, by decide, wf_X6_350, rfl⟩
theorem wm_X6_365 : Cond.methodLink RX6 365 yX2_endCommand ∈ WT := wt_in 659 (by decide +kernel) (by decide +kernel)
theorem wc_X2_endCommand : Cond.code yX2_endCommand cX2_endCommand 2 (some .boolean) ∈ WT := wt_in 662 (by decide +kernel) (by decide +kernel)
theorem hy_X2_endCommand : (yX2_endCommand.cls = RX2 ∧ yX2_endCommand.cls ≠ "java/lang/invoke/MethodHandle" ∧ yX2_endCommand.cls ≠ "java/lang/invoke/VarHandle" ∧ (parseMethodDescriptor yX2_endCommand.desc).map (fun d => d.parameters.length) = some 1) := by decide +kernel
theorem wi_X2_endCommand : Cond.instanceMethod yX2_endCommand ∈ WT := wt_in 660 (by decide +kernel) (by decide +kernel)
theorem ws_X2_endCommand : Cond.selects RX2 yX2_endCommand yX2_endCommand ∈ WT := wt_in 661 (by decide +kernel) (by decide +kernel)
theorem kl_X6_365 : CLV RX6 RX2 2 365 yX2_endCommand cX2_endCommand 2 (some .boolean) 1 := ⟨⟨_, _, rfl⟩, wm_X6_365, wi_X2_endCommand, ws_X2_endCommand, wn_X2, wc_X2_endCommand, hy_X2_endCommand⟩
theorem wf_X6_356 : Cond.fieldLink RX6 356 (TX2 7).1 (TX2 7).2.1 (TX2 7).2.2.1 ∈ WT := wt_in 160 (by decide +kernel) (by decide +kernel)
theorem fl_X6_356 : FL RX6 RX2 TX2 11 2 7 356 false := ⟨in_X2, rfl, by decide, wf_X6_356, rfl⟩
theorem wf_X6_359 : Cond.fieldLink RX6 359 (TX2 8).1 (TX2 8).2.1 (TX2 8).2.2.1 ∈ WT := wt_in 162 (by decide +kernel) (by decide +kernel)
theorem fl_X6_359 : FL RX6 RX2 TX2 11 2 8 359 false := ⟨in_X2, rfl, by decide, wf_X6_359, rfl⟩
theorem wf_X6_362 : Cond.fieldLink RX6 362 (TX2 9).1 (TX2 9).2.1 (TX2 9).2.2.1 ∈ WT := wt_in 164 (by decide +kernel) (by decide +kernel)
theorem fl_X6_362 : FL RX6 RX2 TX2 11 2 9 362 false := ⟨in_X2, rfl, by decide, wf_X6_362, rfl⟩
theorem wf_X6_353 : Cond.fieldLink RX6 353 (TX2 6).1 (TX2 6).2.1 (TX2 6).2.2.1 ∈ WT := wt_in 158 (by decide +kernel) (by decide +kernel)
theorem fl_X6_353 : FL RX6 RX2 TX2 11 2 6 353 true := ⟨in_X2, rfl, by decide, wf_X6_353, rfl⟩
theorem wm_X6_92 : Cond.methodLink RX6 92 yX2_begin ∈ WT := wt_in 393 (by decide +kernel) (by decide +kernel)
theorem wc_X2_begin : Cond.code yX2_begin cX2_begin 1 none ∈ WT := wt_in 396 (by decide +kernel) (by decide +kernel)
theorem hy_X2_begin : (yX2_begin.cls = RX2 ∧ yX2_begin.cls ≠ "java/lang/invoke/MethodHandle" ∧ yX2_begin.cls ≠ "java/lang/invoke/VarHandle" ∧ (parseMethodDescriptor yX2_begin.desc).map (fun d => d.parameters.length) = some 0) := by decide +kernel
theorem wi_X2_begin : Cond.instanceMethod yX2_begin ∈ WT := wt_in 394 (by decide +kernel) (by decide +kernel)
theorem ws_X2_begin : Cond.selects RX2 yX2_begin yX2_begin ∈ WT := wt_in 395 (by decide +kernel) (by decide +kernel)
theorem kl_X6_92 : CLV RX6 RX2 2 92 yX2_begin cX2_begin 1 none 0 := ⟨⟨_, _, rfl⟩, wm_X6_92, wi_X2_begin, ws_X2_begin, wn_X2, wc_X2_begin, hy_X2_begin⟩
theorem wm_X6_99 : Cond.methodLink RX6 99 yX2_readSetup ∈ WT := wt_in 415 (by decide +kernel) (by decide +kernel)
theorem wc_X2_readSetup : Cond.code yX2_readSetup cX2_readSetup 3 (some .boolean) ∈ WT := wt_in 418 (by decide +kernel) (by decide +kernel)
theorem hy_X2_readSetup : (yX2_readSetup.cls = RX2 ∧ yX2_readSetup.cls ≠ "java/lang/invoke/MethodHandle" ∧ yX2_readSetup.cls ≠ "java/lang/invoke/VarHandle" ∧ (parseMethodDescriptor yX2_readSetup.desc).map (fun d => d.parameters.length) = some 1) := by decide +kernel
theorem wi_X2_readSetup : Cond.instanceMethod yX2_readSetup ∈ WT := wt_in 416 (by decide +kernel) (by decide +kernel)
theorem ws_X2_readSetup : Cond.selects RX2 yX2_readSetup yX2_readSetup ∈ WT := wt_in 417 (by decide +kernel) (by decide +kernel)
theorem kl_X6_99 : CLV RX6 RX2 2 99 yX2_readSetup cX2_readSetup 3 (some .boolean) 1 := ⟨⟨_, _, rfl⟩, wm_X6_99, wi_X2_readSetup, ws_X2_readSetup, wn_X2, wc_X2_readSetup, hy_X2_readSetup⟩
theorem wm_X6_107 : Cond.methodLink RX6 107 yX6_endOfText ∈ WT := wt_in 663 (by decide +kernel) (by decide +kernel)
theorem wc_X6_endOfText : Cond.code yX6_endOfText cX6_endOfText 2 (some .boolean) ∈ WT := wt_in 666 (by decide +kernel) (by decide +kernel)
theorem hy_X6_endOfText : (yX6_endOfText.cls = RX6 ∧ yX6_endOfText.cls ≠ "java/lang/invoke/MethodHandle" ∧ yX6_endOfText.cls ≠ "java/lang/invoke/VarHandle" ∧ (parseMethodDescriptor yX6_endOfText.desc).map (fun d => d.parameters.length) = some 1) := by decide +kernel
theorem wi_X6_endOfText : Cond.instanceMethod yX6_endOfText ∈ WT := wt_in 665 (by decide +kernel) (by decide +kernel)
theorem ws_X6_endOfText : Cond.selects RX6 yX6_endOfText yX6_endOfText ∈ WT := wt_in 23 (by decide +kernel) (by decide +kernel)
theorem kl_X6_107 : CLV RX6 RX6 6 107 yX6_endOfText cX6_endOfText 2 (some .boolean) 1 := ⟨⟨_, _, rfl⟩, wm_X6_107, wi_X6_endOfText, ws_X6_endOfText, wn_X6, wc_X6_endOfText, hy_X6_endOfText⟩
theorem wf_X6_111 : Cond.fieldLink RX6 111 (TX2 3).1 (TX2 3).2.1 (TX2 3).2.2.1 ∈ WT := wt_in 153 (by decide +kernel) (by decide +kernel)
theorem fl_X6_111 : FL RX6 RX2 TX2 11 2 3 111 false := ⟨in_X2, rfl, by decide, wf_X6_111, rfl⟩
theorem wm_X6_103 : Cond.methodLink RX6 103 yX3_begin ∈ WT := wt_in 523 (by decide +kernel) (by decide +kernel)
theorem kl_X6_103 : CLV RX6 RX3 3 103 yX3_begin cX3_begin 3 none 0 := ⟨⟨_, _, rfl⟩, wm_X6_103, wi_X3_begin, ws_X3_begin, wn_X3, wc_X3_begin, hy_X3_begin⟩
theorem wm_X6_104 : Cond.methodLink RX6 104 yX6_runCommands ∈ WT := wt_in 524 (by decide +kernel) (by decide +kernel)
theorem wc_X6_runCommands : Cond.code yX6_runCommands cX6_runCommands 3 (some .boolean) ∈ WT := wt_in 527 (by decide +kernel) (by decide +kernel)
theorem hy_X6_runCommands : (yX6_runCommands.cls = RX6 ∧ yX6_runCommands.cls ≠ "java/lang/invoke/MethodHandle" ∧ yX6_runCommands.cls ≠ "java/lang/invoke/VarHandle" ∧ (parseMethodDescriptor yX6_runCommands.desc).map (fun d => d.parameters.length) = some 0) := by decide +kernel
theorem wi_X6_runCommands : Cond.instanceMethod yX6_runCommands ∈ WT := wt_in 526 (by decide +kernel) (by decide +kernel)
theorem ws_X6_runCommands : Cond.selects RX6 yX6_runCommands yX6_runCommands ∈ WT := wt_in 12 (by decide +kernel) (by decide +kernel)
theorem kl_X6_104 : CLV RX6 RX6 6 104 yX6_runCommands cX6_runCommands 3 (some .boolean) 0 := ⟨⟨_, _, rfl⟩, wm_X6_104, wi_X6_runCommands, ws_X6_runCommands, wn_X6, wc_X6_runCommands, hy_X6_runCommands⟩
theorem wf_X6_192 : Cond.fieldLink RX6 192 (TX3 2).1 (TX3 2).2.1 (TX3 2).2.2.1 ∈ WT := wt_in 263 (by decide +kernel) (by decide +kernel)
theorem fl_X6_192 : FL RX6 RX3 TX3 9 3 2 192 true := ⟨in_X3, rfl, by decide, wf_X6_192, rfl⟩
theorem wf_X6_199 : Cond.fieldLink RX6 199 (TX1 1).1 (TX1 1).2.1 (TX1 1).2.2.1 ∈ WT := wt_in 117 (by decide +kernel) (by decide +kernel)
theorem fl_X6_199 : FL RX6 RX1 TX1 7 1 1 199 false := ⟨in_X1, rfl, by decide, wf_X6_199, rfl⟩
theorem wf_X6_202 : Cond.fieldLink RX6 202 (TX1 2).1 (TX1 2).2.1 (TX1 2).2.2.1 ∈ WT := wt_in 120 (by decide +kernel) (by decide +kernel)
theorem fl_X6_202 : FL RX6 RX1 TX1 7 1 2 202 false := ⟨in_X1, rfl, by decide, wf_X6_202, rfl⟩
theorem wf_X6_196 : Cond.fieldLink RX6 196 (TX1 0).1 (TX1 0).2.1 (TX1 0).2.2.1 ∈ WT := wt_in 113 (by decide +kernel) (by decide +kernel)
theorem fl_X6_196 : FL RX6 RX1 TX1 7 1 0 196 false := ⟨in_X1, rfl, by decide, wf_X6_196, rfl⟩
theorem wf_X6_211 : Cond.fieldLink RX6 211 (TX1 5).1 (TX1 5).2.1 (TX1 5).2.2.1 ∈ WT := wt_in 129 (by decide +kernel) (by decide +kernel)
theorem fl_X6_211 : FL RX6 RX1 TX1 7 1 5 211 false := ⟨in_X1, rfl, by decide, wf_X6_211, rfl⟩
theorem wf_X6_205 : Cond.fieldLink RX6 205 (TX1 3).1 (TX1 3).2.1 (TX1 3).2.2.1 ∈ WT := wt_in 123 (by decide +kernel) (by decide +kernel)
theorem fl_X6_205 : FL RX6 RX1 TX1 7 1 3 205 false := ⟨in_X1, rfl, by decide, wf_X6_205, rfl⟩
theorem wf_X6_208 : Cond.fieldLink RX6 208 (TX1 4).1 (TX1 4).2.1 (TX1 4).2.2.1 ∈ WT := wt_in 126 (by decide +kernel) (by decide +kernel)
theorem fl_X6_208 : FL RX6 RX1 TX1 7 1 4 208 false := ⟨in_X1, rfl, by decide, wf_X6_208, rfl⟩
theorem st_X6_218 : (RX6, 218, "there are fewer notes", 24) ∈ strTab := by decide +kernel
theorem wf_X6_220 : Cond.fieldLink RX6 220 (TX3 3).1 (TX3 3).2.1 (TX3 3).2.2.1 ∈ WT := wt_in 265 (by decide +kernel) (by decide +kernel)
theorem fl_X6_220 : FL RX6 RX3 TX3 9 3 3 220 true := ⟨in_X3, rfl, by decide, wf_X6_220, rfl⟩
theorem st_X6_87 : (RX6, 87, "no such length", 23) ∈ strTab := by decide +kernel
theorem st_X6_179 : (RX6, 179, "there is no change to undo", 22) ∈ strTab := by decide +kernel

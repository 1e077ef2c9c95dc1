/-! The words on the JDK's String methods, and their decode rows: printed by program. -/
set_option maxRecDepth 100000 in
theorem wj_len_code : Cond.code yJ0_length_8abf5 cJ0_length_8abf5 1 (some .int) ∈ WSg := mem_g (i := 319) rfl rfl
set_option maxRecDepth 100000 in
theorem wj_len_inst : Cond.instanceMethod yJ0_length_8abf5 ∈ WSg := mem_g (i := 317) rfl rfl
set_option maxRecDepth 100000 in
theorem wj_len_sel : Cond.selects RJ0 yJ0_length_8abf5 yJ0_length_8abf5 ∈ WSg := mem_g (i := 318) rfl rfl
set_option maxRecDepth 100000 in
theorem wj_cha_code : Cond.code yJ0_charAt_5068e cJ0_charAt_5068e 2 (some .char) ∈ WSg := mem_g (i := 329) rfl rfl
set_option maxRecDepth 100000 in
theorem wj_cha_inst : Cond.instanceMethod yJ0_charAt_5068e ∈ WSg := mem_g (i := 327) rfl rfl
set_option maxRecDepth 100000 in
theorem wj_cha_sel : Cond.selects RJ0 yJ0_charAt_5068e yJ0_charAt_5068e ∈ WSg := mem_g (i := 328) rfl rfl
set_option maxRecDepth 100000 in
theorem wj_cod_code : Cond.code yJ0_coder_7d493 cJ0_coder_7d493 1 (some .byte) ∈ WSg := mem_g (i := 323) rfl rfl
set_option maxRecDepth 100000 in
theorem wj_cod_inst : Cond.instanceMethod yJ0_coder_7d493 ∈ WSg := mem_g (i := 321) rfl rfl
set_option maxRecDepth 100000 in
theorem wj_cod_sel : Cond.selects RJ0 yJ0_coder_7d493 yJ0_coder_7d493 ∈ WSg := mem_g (i := 322) rfl rfl
set_option maxRecDepth 100000 in
theorem wj_isl_code : Cond.code yJ0_isLatin1_aae02 cJ0_isLatin1_aae02 1 (some .boolean) ∈ WSg := mem_g (i := 333) rfl rfl
set_option maxRecDepth 100000 in
theorem wj_isl_inst : Cond.instanceMethod yJ0_isLatin1_aae02 ∈ WSg := mem_g (i := 331) rfl rfl
set_option maxRecDepth 100000 in
theorem wj_isl_sel : Cond.selects RJ0 yJ0_isLatin1_aae02 yJ0_isLatin1_aae02 ∈ WSg := mem_g (i := 332) rfl rfl
set_option maxRecDepth 100000 in
theorem wj_chk_code : Cond.code yJ0_checkIndex_df160 cJ0_checkIndex_df160 2 none ∈ WSg := mem_g (i := 339) rfl rfl
set_option maxRecDepth 100000 in
theorem wj_chk_st : Cond.static yJ0_checkIndex_df160 ∈ WSg := mem_g (i := 338) rfl rfl
set_option maxRecDepth 100000 in
theorem wj_lat_code : Cond.code yJ1_charAt_3b067 cJ1_charAt_3b067 2 (some .char) ∈ WSg := mem_g (i := 336) rfl rfl
set_option maxRecDepth 100000 in
theorem wj_lat_st : Cond.static yJ1_charAt_3b067 ∈ WSg := mem_g (i := 335) rfl rfl
set_option maxRecDepth 100000 in
theorem wj_pre_code : Cond.code yJ3_checkIndex_8e157 cJ3_checkIndex_8e157 3 (some .int) ∈ WSg := mem_g (i := 344) rfl rfl
set_option maxRecDepth 100000 in
theorem wj_pre_st : Cond.static yJ3_checkIndex_8e157 ∈ WSg := mem_g (i := 343) rfl rfl
set_option maxRecDepth 100000 in
theorem wj_ini_RJ0 : Cond.initialized RJ0 ∈ WSg := mem_g (i := 69) rfl rfl
set_option maxRecDepth 100000 in
theorem wj_ini_RJ1 : Cond.initialized RJ1 ∈ WSg := mem_g (i := 70) rfl rfl
set_option maxRecDepth 100000 in
theorem wj_ini_RJ3 : Cond.initialized RJ3 ∈ WSg := mem_g (i := 71) rfl rfl
set_option maxRecDepth 100000 in
theorem wj_lk_cod : Cond.methodLink RJ0 335 yJ0_coder_7d493 ∈ WSg := mem_g (i := 320) rfl rfl
set_option maxRecDepth 100000 in
theorem wj_lk_isl : Cond.methodLink RJ0 492 yJ0_isLatin1_aae02 ∈ WSg := mem_g (i := 330) rfl rfl
set_option maxRecDepth 100000 in
theorem wj_lk_lat : Cond.methodLink RJ0 495 yJ1_charAt_3b067 ∈ WSg := mem_g (i := 334) rfl rfl
set_option maxRecDepth 100000 in
theorem wj_lk_chk : Cond.methodLink RJ1 9 yJ0_checkIndex_df160 ∈ WSg := mem_g (i := 337) rfl rfl
set_option maxRecDepth 100000 in
theorem wj_lk_pre : Cond.methodLink RJ0 1059 yJ3_checkIndex_8e157 ∈ WSg := mem_g (i := 342) rfl rfl
set_option maxRecDepth 100000 in
theorem wj_f_cs : Cond.fieldLink RJ0 38 "java/lang/String" "COMPACT_STRINGS" "Z" ∈ WSg := mem_g (i := 324) rfl rfl
set_option maxRecDepth 100000 in
theorem wj_f_co : Cond.fieldLink RJ0 15 "java/lang/String" "coder" "B" ∈ WSg := mem_g (i := 1244) rfl rfl
set_option maxRecDepth 100000 in
theorem wj_f_va : Cond.fieldLink RJ0 9 "java/lang/String" "value" "[B" ∈ WSg := mem_g (i := 1243) rfl rfl
set_option maxRecDepth 100000 in
theorem wj_f_fo : Cond.fieldLink RJ0 1053 "jdk/internal/util/Preconditions" "SIOOBE_FORMATTER" "Ljava/util/function/BiFunction;" ∈ WSg := mem_g (i := 340) rfl rfl
theorem dJ0_length_8abf5_0 : decode cJ0_length_8abf5 0 = .ok (.aload_n 0, 1) := by decide +kernel
theorem dJ0_length_8abf5_1 : decode cJ0_length_8abf5 1 = .ok (.getfield 9, 3) := by decide +kernel
theorem dJ0_length_8abf5_4 : decode cJ0_length_8abf5 4 = .ok (.arraylength, 1) := by decide +kernel
theorem dJ0_length_8abf5_5 : decode cJ0_length_8abf5 5 = .ok (.aload_n 0, 1) := by decide +kernel
theorem dJ0_length_8abf5_6 : decode cJ0_length_8abf5 6 = .ok (.invokevirtual 335, 3) := by decide +kernel
theorem dJ0_length_8abf5_9 : decode cJ0_length_8abf5 9 = .ok (.ishr, 1) := by decide +kernel
theorem dJ0_length_8abf5_10 : decode cJ0_length_8abf5 10 = .ok (.ireturn, 1) := by decide +kernel
theorem dJ0_charAt_5068e_0 : decode cJ0_charAt_5068e 0 = .ok (.aload_n 0, 1) := by decide +kernel
theorem dJ0_charAt_5068e_1 : decode cJ0_charAt_5068e 1 = .ok (.invokevirtual 492, 3) := by decide +kernel
theorem dJ0_charAt_5068e_4 : decode cJ0_charAt_5068e 4 = .ok (.ifCond .eq 12, 3) := by decide +kernel
theorem dJ0_charAt_5068e_7 : decode cJ0_charAt_5068e 7 = .ok (.aload_n 0, 1) := by decide +kernel
theorem dJ0_charAt_5068e_8 : decode cJ0_charAt_5068e 8 = .ok (.getfield 9, 3) := by decide +kernel
theorem dJ0_charAt_5068e_11 : decode cJ0_charAt_5068e 11 = .ok (.iload_n 1, 1) := by decide +kernel
theorem dJ0_charAt_5068e_12 : decode cJ0_charAt_5068e 12 = .ok (.invokestatic 495, 3) := by decide +kernel
theorem dJ0_charAt_5068e_15 : decode cJ0_charAt_5068e 15 = .ok (.ireturn, 1) := by decide +kernel
theorem dJ0_charAt_5068e_16 : decode cJ0_charAt_5068e 16 = .ok (.aload_n 0, 1) := by decide +kernel
theorem dJ0_charAt_5068e_17 : decode cJ0_charAt_5068e 17 = .ok (.getfield 9, 3) := by decide +kernel
theorem dJ0_charAt_5068e_20 : decode cJ0_charAt_5068e 20 = .ok (.iload_n 1, 1) := by decide +kernel
theorem dJ0_charAt_5068e_21 : decode cJ0_charAt_5068e 21 = .ok (.invokestatic 498, 3) := by decide +kernel
theorem dJ0_charAt_5068e_24 : decode cJ0_charAt_5068e 24 = .ok (.ireturn, 1) := by decide +kernel
theorem dJ0_coder_7d493_0 : decode cJ0_coder_7d493 0 = .ok (.getstatic 38, 3) := by decide +kernel
theorem dJ0_coder_7d493_3 : decode cJ0_coder_7d493 3 = .ok (.ifCond .eq 10, 3) := by decide +kernel
theorem dJ0_coder_7d493_6 : decode cJ0_coder_7d493 6 = .ok (.aload_n 0, 1) := by decide +kernel
theorem dJ0_coder_7d493_7 : decode cJ0_coder_7d493 7 = .ok (.getfield 15, 3) := by decide +kernel
theorem dJ0_coder_7d493_10 : decode cJ0_coder_7d493 10 = .ok (.goto 4, 3) := by decide +kernel
theorem dJ0_coder_7d493_13 : decode cJ0_coder_7d493 13 = .ok (.iconst 1, 1) := by decide +kernel
theorem dJ0_coder_7d493_14 : decode cJ0_coder_7d493 14 = .ok (.ireturn, 1) := by decide +kernel
theorem dJ0_isLatin1_aae02_0 : decode cJ0_isLatin1_aae02 0 = .ok (.getstatic 38, 3) := by decide +kernel
theorem dJ0_isLatin1_aae02_3 : decode cJ0_isLatin1_aae02 3 = .ok (.ifCond .eq 14, 3) := by decide +kernel
theorem dJ0_isLatin1_aae02_6 : decode cJ0_isLatin1_aae02 6 = .ok (.aload_n 0, 1) := by decide +kernel
theorem dJ0_isLatin1_aae02_7 : decode cJ0_isLatin1_aae02 7 = .ok (.getfield 15, 3) := by decide +kernel
theorem dJ0_isLatin1_aae02_10 : decode cJ0_isLatin1_aae02 10 = .ok (.ifCond .ne 7, 3) := by decide +kernel
theorem dJ0_isLatin1_aae02_13 : decode cJ0_isLatin1_aae02 13 = .ok (.iconst 1, 1) := by decide +kernel
theorem dJ0_isLatin1_aae02_14 : decode cJ0_isLatin1_aae02 14 = .ok (.goto 4, 3) := by decide +kernel
theorem dJ0_isLatin1_aae02_17 : decode cJ0_isLatin1_aae02 17 = .ok (.iconst 0, 1) := by decide +kernel
theorem dJ0_isLatin1_aae02_18 : decode cJ0_isLatin1_aae02 18 = .ok (.ireturn, 1) := by decide +kernel
theorem dJ0_checkIndex_df160_0 : decode cJ0_checkIndex_df160 0 = .ok (.iload_n 0, 1) := by decide +kernel
theorem dJ0_checkIndex_df160_1 : decode cJ0_checkIndex_df160 1 = .ok (.iload_n 1, 1) := by decide +kernel
theorem dJ0_checkIndex_df160_2 : decode cJ0_checkIndex_df160 2 = .ok (.getstatic 1053, 3) := by decide +kernel
theorem dJ0_checkIndex_df160_5 : decode cJ0_checkIndex_df160 5 = .ok (.invokestatic 1059, 3) := by decide +kernel
theorem dJ0_checkIndex_df160_8 : decode cJ0_checkIndex_df160 8 = .ok (.pop, 1) := by decide +kernel
theorem dJ0_checkIndex_df160_9 : decode cJ0_checkIndex_df160 9 = .ok (.return_, 1) := by decide +kernel
theorem dJ1_charAt_3b067_0 : decode cJ1_charAt_3b067 0 = .ok (.iload_n 1, 1) := by decide +kernel
theorem dJ1_charAt_3b067_1 : decode cJ1_charAt_3b067 1 = .ok (.aload_n 0, 1) := by decide +kernel
theorem dJ1_charAt_3b067_2 : decode cJ1_charAt_3b067 2 = .ok (.arraylength, 1) := by decide +kernel
theorem dJ1_charAt_3b067_3 : decode cJ1_charAt_3b067 3 = .ok (.invokestatic 9, 3) := by decide +kernel
theorem dJ1_charAt_3b067_6 : decode cJ1_charAt_3b067 6 = .ok (.aload_n 0, 1) := by decide +kernel
theorem dJ1_charAt_3b067_7 : decode cJ1_charAt_3b067 7 = .ok (.iload_n 1, 1) := by decide +kernel
theorem dJ1_charAt_3b067_8 : decode cJ1_charAt_3b067 8 = .ok (.baload, 1) := by decide +kernel
theorem dJ1_charAt_3b067_9 : decode cJ1_charAt_3b067 9 = .ok (.sipush 255, 3) := by decide +kernel
theorem dJ1_charAt_3b067_12 : decode cJ1_charAt_3b067 12 = .ok (.iand, 1) := by decide +kernel
theorem dJ1_charAt_3b067_13 : decode cJ1_charAt_3b067 13 = .ok (.i2c, 1) := by decide +kernel
theorem dJ1_charAt_3b067_14 : decode cJ1_charAt_3b067 14 = .ok (.ireturn, 1) := by decide +kernel
theorem dJ3_checkIndex_8e157_0 : decode cJ3_checkIndex_8e157 0 = .ok (.iload_n 0, 1) := by decide +kernel
theorem dJ3_checkIndex_8e157_1 : decode cJ3_checkIndex_8e157 1 = .ok (.ifCond .lt 8, 3) := by decide +kernel
theorem dJ3_checkIndex_8e157_4 : decode cJ3_checkIndex_8e157 4 = .ok (.iload_n 0, 1) := by decide +kernel
theorem dJ3_checkIndex_8e157_5 : decode cJ3_checkIndex_8e157 5 = .ok (.iload_n 1, 1) := by decide +kernel
theorem dJ3_checkIndex_8e157_6 : decode cJ3_checkIndex_8e157 6 = .ok (.if_icmp .lt 10, 3) := by decide +kernel
theorem dJ3_checkIndex_8e157_9 : decode cJ3_checkIndex_8e157 9 = .ok (.aload_n 2, 1) := by decide +kernel
theorem dJ3_checkIndex_8e157_10 : decode cJ3_checkIndex_8e157 10 = .ok (.iload_n 0, 1) := by decide +kernel
theorem dJ3_checkIndex_8e157_11 : decode cJ3_checkIndex_8e157 11 = .ok (.iload_n 1, 1) := by decide +kernel
theorem dJ3_checkIndex_8e157_12 : decode cJ3_checkIndex_8e157 12 = .ok (.invokestatic 95, 3) := by decide +kernel
theorem dJ3_checkIndex_8e157_15 : decode cJ3_checkIndex_8e157 15 = .ok (.athrow, 1) := by decide +kernel
theorem dJ3_checkIndex_8e157_16 : decode cJ3_checkIndex_8e157 16 = .ok (.iload_n 0, 1) := by decide +kernel
theorem dJ3_checkIndex_8e157_17 : decode cJ3_checkIndex_8e157 17 = .ok (.ireturn, 1) := by decide +kernel

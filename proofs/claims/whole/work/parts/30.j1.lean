theorem dJ0_length_8abf5_0 : decode cJ0_length_8abf5 0 = .ok (.aload_n 0, 1) := by decide +kernel
theorem dJ0_length_8abf5_1 : decode cJ0_length_8abf5 1 = .ok (.getfield 9, 3) := by decide +kernel
theorem dJ0_length_8abf5_4 : decode cJ0_length_8abf5 4 = .ok (.arraylength, 1) := by decide +kernel
theorem dJ0_length_8abf5_5 : decode cJ0_length_8abf5 5 = .ok (.aload_n 0, 1) := by decide +kernel
theorem dJ0_length_8abf5_6 : decode cJ0_length_8abf5 6 = .ok (.invokevirtual 335, 3) := by decide +kernel
theorem dJ0_length_8abf5_9 : decode cJ0_length_8abf5 9 = .ok (.ishr, 1) := by decide +kernel
theorem dJ0_length_8abf5_10 : decode cJ0_length_8abf5 10 = .ok (.ireturn, 1) := by decide +kernel
theorem dJ0_indexOf_0f7a4_0 : decode cJ0_indexOf_0f7a4 0 = .ok (.aload_n 0, 1) := by decide +kernel
theorem dJ0_indexOf_0f7a4_1 : decode cJ0_indexOf_0f7a4 1 = .ok (.iload_n 1, 1) := by decide +kernel
theorem dJ0_indexOf_0f7a4_2 : decode cJ0_indexOf_0f7a4 2 = .ok (.iconst 0, 1) := by decide +kernel
theorem dJ0_indexOf_0f7a4_3 : decode cJ0_indexOf_0f7a4 3 = .ok (.invokevirtual 633, 3) := by decide +kernel
theorem dJ0_indexOf_0f7a4_6 : decode cJ0_indexOf_0f7a4 6 = .ok (.ireturn, 1) := by decide +kernel
theorem dJ0_indexOf_7cf53_0 : decode cJ0_indexOf_7cf53 0 = .ok (.aload_n 0, 1) := by decide +kernel
theorem dJ0_indexOf_7cf53_1 : decode cJ0_indexOf_7cf53 1 = .ok (.invokevirtual 492, 3) := by decide +kernel
theorem dJ0_indexOf_7cf53_4 : decode cJ0_indexOf_7cf53 4 = .ok (.ifCond .eq 19, 3) := by decide +kernel
theorem dJ0_indexOf_7cf53_7 : decode cJ0_indexOf_7cf53 7 = .ok (.aload_n 0, 1) := by decide +kernel
theorem dJ0_indexOf_7cf53_8 : decode cJ0_indexOf_7cf53 8 = .ok (.getfield 9, 3) := by decide +kernel
theorem dJ0_indexOf_7cf53_11 : decode cJ0_indexOf_7cf53 11 = .ok (.iload_n 1, 1) := by decide +kernel
theorem dJ0_indexOf_7cf53_12 : decode cJ0_indexOf_7cf53 12 = .ok (.iload_n 2, 1) := by decide +kernel
theorem dJ0_indexOf_7cf53_13 : decode cJ0_indexOf_7cf53 13 = .ok (.aload_n 0, 1) := by decide +kernel
theorem dJ0_indexOf_7cf53_14 : decode cJ0_indexOf_7cf53 14 = .ok (.invokevirtual 505, 3) := by decide +kernel
theorem dJ0_indexOf_7cf53_17 : decode cJ0_indexOf_7cf53 17 = .ok (.invokestatic 637, 3) := by decide +kernel
theorem dJ0_indexOf_7cf53_20 : decode cJ0_indexOf_7cf53 20 = .ok (.goto 16, 3) := by decide +kernel
theorem dJ0_indexOf_7cf53_23 : decode cJ0_indexOf_7cf53 23 = .ok (.aload_n 0, 1) := by decide +kernel
theorem dJ0_indexOf_7cf53_24 : decode cJ0_indexOf_7cf53 24 = .ok (.getfield 9, 3) := by decide +kernel
theorem dJ0_indexOf_7cf53_27 : decode cJ0_indexOf_7cf53 27 = .ok (.iload_n 1, 1) := by decide +kernel
theorem dJ0_indexOf_7cf53_28 : decode cJ0_indexOf_7cf53 28 = .ok (.iload_n 2, 1) := by decide +kernel
theorem dJ0_indexOf_7cf53_29 : decode cJ0_indexOf_7cf53 29 = .ok (.aload_n 0, 1) := by decide +kernel
theorem dJ0_indexOf_7cf53_30 : decode cJ0_indexOf_7cf53 30 = .ok (.invokevirtual 505, 3) := by decide +kernel
theorem dJ0_indexOf_7cf53_33 : decode cJ0_indexOf_7cf53 33 = .ok (.invokestatic 640, 3) := by decide +kernel
theorem dJ0_indexOf_7cf53_36 : decode cJ0_indexOf_7cf53 36 = .ok (.ireturn, 1) := by decide +kernel
theorem dJ0_coder_7d493_0 : decode cJ0_coder_7d493 0 = .ok (.getstatic 38, 3) := by decide +kernel
theorem dJ0_coder_7d493_3 : decode cJ0_coder_7d493 3 = .ok (.ifCond .eq 10, 3) := by decide +kernel
theorem dJ0_coder_7d493_6 : decode cJ0_coder_7d493 6 = .ok (.aload_n 0, 1) := by decide +kernel
theorem dJ0_coder_7d493_7 : decode cJ0_coder_7d493 7 = .ok (.getfield 15, 3) := by decide +kernel
theorem dJ0_coder_7d493_10 : decode cJ0_coder_7d493 10 = .ok (.goto 4, 3) := by decide +kernel
theorem dJ0_coder_7d493_13 : decode cJ0_coder_7d493 13 = .ok (.iconst 1, 1) := by decide +kernel
theorem dJ0_coder_7d493_14 : decode cJ0_coder_7d493 14 = .ok (.ireturn, 1) := by decide +kernel
theorem dJ0_isLatin1_aae02_0 : decode cJ0_isLatin1_aae02 0 = .ok (.getstatic 38, 3) := by decide +kernel
theorem dJ0_isLatin1_aae02_3 : decode cJ0_isLatin1_aae02 3 = .ok (.ifCond .eq 14, 3) := by decide +kernel
theorem dJ0_isLatin1_aae02_6 : decode cJ0_isLatin1_aae02 6 = .ok (.aload_n 0, 1) := by decide +kernel
theorem dJ0_isLatin1_aae02_7 : decode cJ0_isLatin1_aae02 7 = .ok (.getfield 15, 3) := by decide +kernel
theorem dJ0_isLatin1_aae02_10 : decode cJ0_isLatin1_aae02 10 = .ok (.ifCond .ne 7, 3) := by decide +kernel
theorem dJ0_isLatin1_aae02_13 : decode cJ0_isLatin1_aae02 13 = .ok (.iconst 1, 1) := by decide +kernel
theorem dJ0_isLatin1_aae02_14 : decode cJ0_isLatin1_aae02 14 = .ok (.goto 4, 3) := by decide +kernel
theorem dJ0_isLatin1_aae02_17 : decode cJ0_isLatin1_aae02 17 = .ok (.iconst 0, 1) := by decide +kernel
theorem dJ0_isLatin1_aae02_18 : decode cJ0_isLatin1_aae02 18 = .ok (.ireturn, 1) := by decide +kernel
theorem dJ1_canEncode_9a6ad_0 : decode cJ1_canEncode_9a6ad 0 = .ok (.iload_n 0, 1) := by decide +kernel
theorem dJ1_canEncode_9a6ad_1 : decode cJ1_canEncode_9a6ad 1 = .ok (.ifCond .lt 14, 3) := by decide +kernel
theorem dJ1_canEncode_9a6ad_4 : decode cJ1_canEncode_9a6ad 4 = .ok (.iload_n 0, 1) := by decide +kernel
theorem dJ1_canEncode_9a6ad_5 : decode cJ1_canEncode_9a6ad 5 = .ok (.sipush 255, 3) := by decide +kernel
theorem dJ1_canEncode_9a6ad_8 : decode cJ1_canEncode_9a6ad 8 = .ok (.if_icmp .gt 7, 3) := by decide +kernel
theorem dJ1_canEncode_9a6ad_11 : decode cJ1_canEncode_9a6ad 11 = .ok (.iconst 1, 1) := by decide +kernel
theorem dJ1_canEncode_9a6ad_12 : decode cJ1_canEncode_9a6ad 12 = .ok (.goto 4, 3) := by decide +kernel
theorem dJ1_canEncode_9a6ad_15 : decode cJ1_canEncode_9a6ad 15 = .ok (.iconst 0, 1) := by decide +kernel
theorem dJ1_canEncode_9a6ad_16 : decode cJ1_canEncode_9a6ad 16 = .ok (.ireturn, 1) := by decide +kernel
theorem dJ1_indexOf_4cfef_0 : decode cJ1_indexOf_4cfef 0 = .ok (.iload_n 1, 1) := by decide +kernel
theorem dJ1_indexOf_4cfef_1 : decode cJ1_indexOf_4cfef 1 = .ok (.invokestatic 88, 3) := by decide +kernel
theorem dJ1_indexOf_4cfef_4 : decode cJ1_indexOf_4cfef 4 = .ok (.ifCond .ne 5, 3) := by decide +kernel
theorem dJ1_indexOf_4cfef_7 : decode cJ1_indexOf_4cfef 7 = .ok (.iconst (-1), 1) := by decide +kernel
theorem dJ1_indexOf_4cfef_8 : decode cJ1_indexOf_4cfef 8 = .ok (.ireturn, 1) := by decide +kernel
theorem dJ1_indexOf_4cfef_9 : decode cJ1_indexOf_4cfef 9 = .ok (.iload_n 2, 1) := by decide +kernel
theorem dJ1_indexOf_4cfef_10 : decode cJ1_indexOf_4cfef 10 = .ok (.iconst 0, 1) := by decide +kernel
theorem dJ1_indexOf_4cfef_11 : decode cJ1_indexOf_4cfef 11 = .ok (.invokestatic 92, 3) := by decide +kernel
theorem dJ1_indexOf_4cfef_14 : decode cJ1_indexOf_4cfef 14 = .ok (.istore_n 2, 1) := by decide +kernel
theorem dJ1_indexOf_4cfef_15 : decode cJ1_indexOf_4cfef 15 = .ok (.iload_n 3, 1) := by decide +kernel
theorem dJ1_indexOf_4cfef_16 : decode cJ1_indexOf_4cfef 16 = .ok (.aload_n 0, 1) := by decide +kernel
theorem dJ1_indexOf_4cfef_17 : decode cJ1_indexOf_4cfef 17 = .ok (.arraylength, 1) := by decide +kernel
theorem dJ1_indexOf_4cfef_18 : decode cJ1_indexOf_4cfef 18 = .ok (.invokestatic 38, 3) := by decide +kernel
theorem dJ1_indexOf_4cfef_21 : decode cJ1_indexOf_4cfef 21 = .ok (.istore_n 3, 1) := by decide +kernel
theorem dJ1_indexOf_4cfef_22 : decode cJ1_indexOf_4cfef 22 = .ok (.iload_n 2, 1) := by decide +kernel
theorem dJ1_indexOf_4cfef_23 : decode cJ1_indexOf_4cfef 23 = .ok (.iload_n 3, 1) := by decide +kernel
theorem dJ1_indexOf_4cfef_24 : decode cJ1_indexOf_4cfef 24 = .ok (.if_icmp .lt 5, 3) := by decide +kernel
theorem dJ1_indexOf_4cfef_27 : decode cJ1_indexOf_4cfef 27 = .ok (.iconst (-1), 1) := by decide +kernel
theorem dJ1_indexOf_4cfef_28 : decode cJ1_indexOf_4cfef 28 = .ok (.ireturn, 1) := by decide +kernel
theorem dJ1_indexOf_4cfef_29 : decode cJ1_indexOf_4cfef 29 = .ok (.aload_n 0, 1) := by decide +kernel
theorem dJ1_indexOf_4cfef_30 : decode cJ1_indexOf_4cfef 30 = .ok (.iload_n 1, 1) := by decide +kernel
theorem dJ1_indexOf_4cfef_31 : decode cJ1_indexOf_4cfef 31 = .ok (.iload_n 2, 1) := by decide +kernel
theorem dJ1_indexOf_4cfef_32 : decode cJ1_indexOf_4cfef 32 = .ok (.iload_n 3, 1) := by decide +kernel
theorem dJ1_indexOf_4cfef_33 : decode cJ1_indexOf_4cfef 33 = .ok (.invokestatic 95, 3) := by decide +kernel
theorem dJ1_indexOf_4cfef_36 : decode cJ1_indexOf_4cfef 36 = .ok (.ireturn, 1) := by decide +kernel
theorem dJ1_indexOfChar_4cfef_0 : decode cJ1_indexOfChar_4cfef 0 = .ok (.iload_n 1, 1) := by decide +kernel
theorem dJ1_indexOfChar_4cfef_1 : decode cJ1_indexOfChar_4cfef 1 = .ok (.i2b, 1) := by decide +kernel
theorem dJ1_indexOfChar_4cfef_2 : decode cJ1_indexOfChar_4cfef 2 = .ok (.istore 4, 2) := by decide +kernel
theorem dJ1_indexOfChar_4cfef_4 : decode cJ1_indexOfChar_4cfef 4 = .ok (.iload_n 2, 1) := by decide +kernel
theorem dJ1_indexOfChar_4cfef_5 : decode cJ1_indexOfChar_4cfef 5 = .ok (.istore 5, 2) := by decide +kernel
theorem dJ1_indexOfChar_4cfef_7 : decode cJ1_indexOfChar_4cfef 7 = .ok (.iload 5, 2) := by decide +kernel
theorem dJ1_indexOfChar_4cfef_9 : decode cJ1_indexOfChar_4cfef 9 = .ok (.iload_n 3, 1) := by decide +kernel
theorem dJ1_indexOfChar_4cfef_10 : decode cJ1_indexOfChar_4cfef 10 = .ok (.if_icmp .ge 21, 3) := by decide +kernel
theorem dJ1_indexOfChar_4cfef_13 : decode cJ1_indexOfChar_4cfef 13 = .ok (.aload_n 0, 1) := by decide +kernel
theorem dJ1_indexOfChar_4cfef_14 : decode cJ1_indexOfChar_4cfef 14 = .ok (.iload 5, 2) := by decide +kernel
theorem dJ1_indexOfChar_4cfef_16 : decode cJ1_indexOfChar_4cfef 16 = .ok (.baload, 1) := by decide +kernel
theorem dJ1_indexOfChar_4cfef_17 : decode cJ1_indexOfChar_4cfef 17 = .ok (.iload 4, 2) := by decide +kernel
theorem dJ1_indexOfChar_4cfef_19 : decode cJ1_indexOfChar_4cfef 19 = .ok (.if_icmp .ne 6, 3) := by decide +kernel
theorem dJ1_indexOfChar_4cfef_22 : decode cJ1_indexOfChar_4cfef 22 = .ok (.iload 5, 2) := by decide +kernel
theorem dJ1_indexOfChar_4cfef_24 : decode cJ1_indexOfChar_4cfef 24 = .ok (.ireturn, 1) := by decide +kernel
theorem dJ1_indexOfChar_4cfef_25 : decode cJ1_indexOfChar_4cfef 25 = .ok (.iinc 5 1, 3) := by decide +kernel
theorem dJ1_indexOfChar_4cfef_28 : decode cJ1_indexOfChar_4cfef 28 = .ok (.goto (-21), 3) := by decide +kernel
theorem dJ1_indexOfChar_4cfef_31 : decode cJ1_indexOfChar_4cfef 31 = .ok (.iconst (-1), 1) := by decide +kernel
theorem dJ1_indexOfChar_4cfef_32 : decode cJ1_indexOfChar_4cfef 32 = .ok (.ireturn, 1) := by decide +kernel
set_option maxRecDepth 100000 in
theorem zj_iS : Cond.initialized "java/lang/String" ∈ zB := zmk1 7 (by decide +kernel) rfl
set_option maxRecDepth 100000 in
theorem zj_iL : Cond.initialized "java/lang/StringLatin1" ∈ zB := zmk1 8 (by decide +kernel) rfl
set_option maxRecDepth 100000 in
theorem zj_fC : Cond.fieldLink "java/lang/String" 38 "java/lang/String" "COMPACT_STRINGS" "Z" ∈ zB := zmk2 6 (by decide +kernel) rfl
set_option maxRecDepth 100000 in
theorem zj_fc : Cond.fieldLink "java/lang/String" 15 "java/lang/String" "coder" "B" ∈ zB := zmk5 106 (by decide +kernel) rfl
set_option maxRecDepth 100000 in
theorem zj_fv : Cond.fieldLink "java/lang/String" 9 "java/lang/String" "value" "[B" ∈ zB := zmk5 107 (by decide +kernel) rfl
set_option maxRecDepth 100000 in
theorem zj_i_ixI : Cond.instanceMethod yJ0_indexOf_0f7a4 ∈ zB := zmk1 235 (by decide +kernel) rfl
set_option maxRecDepth 100000 in
theorem zj_s_ixI : Cond.selects "java/lang/String" yJ0_indexOf_0f7a4 yJ0_indexOf_0f7a4 ∈ zB := zmk1 236 (by decide +kernel) rfl
set_option maxRecDepth 100000 in
theorem zj_c_ixI : Cond.code yJ0_indexOf_0f7a4 cJ0_indexOf_0f7a4 2 (some FieldType.int) ∈ zB := zmk1 237 rfl rfl
set_option maxRecDepth 100000 in
theorem zj_l_ixII : Cond.methodLink "java/lang/String" 633 yJ0_indexOf_7cf53 ∈ zB := zmk1 238 (by decide +kernel) rfl
set_option maxRecDepth 100000 in
theorem zj_i_ixII : Cond.instanceMethod yJ0_indexOf_7cf53 ∈ zB := zmk1 239 (by decide +kernel) rfl
set_option maxRecDepth 100000 in
theorem zj_s_ixII : Cond.selects "java/lang/String" yJ0_indexOf_7cf53 yJ0_indexOf_7cf53 ∈ zB := zmk2 0 (by decide +kernel) rfl
set_option maxRecDepth 100000 in
theorem zj_c_ixII : Cond.code yJ0_indexOf_7cf53 cJ0_indexOf_7cf53 3 (some FieldType.int) ∈ zB := zmk2 1 rfl rfl
set_option maxRecDepth 100000 in
theorem zj_l_lat : Cond.methodLink "java/lang/String" 492 yJ0_isLatin1_aae02 ∈ zB := zmk2 2 (by decide +kernel) rfl
set_option maxRecDepth 100000 in
theorem zj_i_lat : Cond.instanceMethod yJ0_isLatin1_aae02 ∈ zB := zmk2 3 (by decide +kernel) rfl
set_option maxRecDepth 100000 in
theorem zj_s_lat : Cond.selects "java/lang/String" yJ0_isLatin1_aae02 yJ0_isLatin1_aae02 ∈ zB := zmk2 4 (by decide +kernel) rfl
set_option maxRecDepth 100000 in
theorem zj_c_lat : Cond.code yJ0_isLatin1_aae02 cJ0_isLatin1_aae02 1 (some FieldType.boolean) ∈ zB := zmk2 5 rfl rfl
set_option maxRecDepth 100000 in
theorem zj_l_len : Cond.methodLink "java/lang/String" 505 yJ0_length_8abf5 ∈ zB := zmk2 8 (by decide +kernel) rfl
set_option maxRecDepth 100000 in
theorem zj_i_len : Cond.instanceMethod yJ0_length_8abf5 ∈ zB := zmk2 9 (by decide +kernel) rfl
set_option maxRecDepth 100000 in
theorem zj_s_len : Cond.selects "java/lang/String" yJ0_length_8abf5 yJ0_length_8abf5 ∈ zB := zmk2 10 (by decide +kernel) rfl
set_option maxRecDepth 100000 in
theorem zj_c_len : Cond.code yJ0_length_8abf5 cJ0_length_8abf5 1 (some FieldType.int) ∈ zB := zmk2 11 rfl rfl
set_option maxRecDepth 100000 in
theorem zj_l_cod : Cond.methodLink "java/lang/String" 335 yJ0_coder_7d493 ∈ zB := zmk2 12 (by decide +kernel) rfl
set_option maxRecDepth 100000 in
theorem zj_i_cod : Cond.instanceMethod yJ0_coder_7d493 ∈ zB := zmk2 13 (by decide +kernel) rfl
set_option maxRecDepth 100000 in
theorem zj_s_cod : Cond.selects "java/lang/String" yJ0_coder_7d493 yJ0_coder_7d493 ∈ zB := zmk2 14 (by decide +kernel) rfl
set_option maxRecDepth 100000 in
theorem zj_c_cod : Cond.code yJ0_coder_7d493 cJ0_coder_7d493 1 (some FieldType.byte) ∈ zB := zmk2 15 rfl rfl
set_option maxRecDepth 100000 in
theorem zj_l_ixI : Cond.methodLink RX2 92 yJ0_indexOf_0f7a4 ∈ zB := zmk1 234 (by decide +kernel) rfl
set_option maxRecDepth 100000 in
theorem zj_l_L : Cond.methodLink "java/lang/String" 637 yJ1_indexOf_4cfef ∈ zB := zmk2 16 (by decide +kernel) rfl
set_option maxRecDepth 100000 in
theorem zj_t_L : Cond.static yJ1_indexOf_4cfef ∈ zB := zmk2 17 (by decide +kernel) rfl
set_option maxRecDepth 100000 in
theorem zj_c_L : Cond.code yJ1_indexOf_4cfef cJ1_indexOf_4cfef 4 (some FieldType.int) ∈ zB := zmk2 18 rfl rfl
set_option maxRecDepth 100000 in
theorem zj_l_enc : Cond.methodLink "java/lang/StringLatin1" 88 yJ1_canEncode_9a6ad ∈ zB := zmk2 19 (by decide +kernel) rfl
set_option maxRecDepth 100000 in
theorem zj_t_enc : Cond.static yJ1_canEncode_9a6ad ∈ zB := zmk2 20 (by decide +kernel) rfl
set_option maxRecDepth 100000 in
theorem zj_c_enc : Cond.code yJ1_canEncode_9a6ad cJ1_canEncode_9a6ad 1 (some FieldType.boolean) ∈ zB := zmk2 21 rfl rfl
set_option maxRecDepth 100000 in
theorem zj_l_chr : Cond.methodLink "java/lang/StringLatin1" 95 yJ1_indexOfChar_4cfef ∈ zB := zmk2 28 (by decide +kernel) rfl
set_option maxRecDepth 100000 in
theorem zj_t_chr : Cond.static yJ1_indexOfChar_4cfef ∈ zB := zmk2 29 (by decide +kernel) rfl
set_option maxRecDepth 100000 in
theorem zj_c_chr : Cond.code yJ1_indexOfChar_4cfef cJ1_indexOfChar_4cfef 6 (some FieldType.int) ∈ zB := zmk2 30 rfl rfl
set_option maxRecDepth 100000 in
theorem zj_l_max : Cond.methodLink "java/lang/StringLatin1" 92 Lib.Math.max.name ∈ zB := zmk2 22 (by decide +kernel) rfl
set_option maxRecDepth 100000 in
theorem zj_l_min : Cond.methodLink "java/lang/StringLatin1" 38 Lib.Math.min.name ∈ zB := zmk2 25 (by decide +kernel) rfl
set_option maxRecDepth 100000 in
theorem zj_t_max : Cond.static Lib.Math.max.name ∈ zB := zmk2 23 (by decide +kernel) rfl
set_option maxRecDepth 100000 in
theorem zj_c_max : Cond.code Lib.Math.max.name Lib.Math.max.code 2 (some FieldType.int) ∈ zB := zmk2 24 rfl rfl
set_option maxRecDepth 100000 in
theorem zj_t_min : Cond.static Lib.Math.min.name ∈ zB := zmk2 26 (by decide +kernel) rfl
set_option maxRecDepth 100000 in
theorem zj_c_min : Cond.code Lib.Math.min.name Lib.Math.min.code 2 (some FieldType.int) ∈ zB := zmk2 27 rfl rfl
set_option maxRecDepth 100000 in
theorem zj_iM : Cond.initialized "java/lang/Math" ∈ zB := zmk1 9 (by decide +kernel) rfl
theorem hdj_ixI : yJ0_indexOf_0f7a4.cls = "java/lang/String" ∧ yJ0_indexOf_0f7a4.cls ≠ "java/lang/invoke/MethodHandle" ∧ yJ0_indexOf_0f7a4.cls ≠ "java/lang/invoke/VarHandle" ∧ (parseMethodDescriptor yJ0_indexOf_0f7a4.desc).map (fun d => d.parameters.length) = some 1 := by decide +kernel
theorem hdj_ixII : yJ0_indexOf_7cf53.cls = "java/lang/String" ∧ yJ0_indexOf_7cf53.cls ≠ "java/lang/invoke/MethodHandle" ∧ yJ0_indexOf_7cf53.cls ≠ "java/lang/invoke/VarHandle" ∧ (parseMethodDescriptor yJ0_indexOf_7cf53.desc).map (fun d => d.parameters.length) = some 2 := by decide +kernel
theorem hdj_lat : yJ0_isLatin1_aae02.cls = "java/lang/String" ∧ yJ0_isLatin1_aae02.cls ≠ "java/lang/invoke/MethodHandle" ∧ yJ0_isLatin1_aae02.cls ≠ "java/lang/invoke/VarHandle" ∧ (parseMethodDescriptor yJ0_isLatin1_aae02.desc).map (fun d => d.parameters.length) = some 0 := by decide +kernel
theorem hdj_len : yJ0_length_8abf5.cls = "java/lang/String" ∧ yJ0_length_8abf5.cls ≠ "java/lang/invoke/MethodHandle" ∧ yJ0_length_8abf5.cls ≠ "java/lang/invoke/VarHandle" ∧ (parseMethodDescriptor yJ0_length_8abf5.desc).map (fun d => d.parameters.length) = some 0 := by decide +kernel
theorem hdj_cod : yJ0_coder_7d493.cls = "java/lang/String" ∧ yJ0_coder_7d493.cls ≠ "java/lang/invoke/MethodHandle" ∧ yJ0_coder_7d493.cls ≠ "java/lang/invoke/VarHandle" ∧ (parseMethodDescriptor yJ0_coder_7d493.desc).map (fun d => d.parameters.length) = some 0 := by decide +kernel
theorem hdj_L : yJ1_indexOf_4cfef.cls = "java/lang/StringLatin1" ∧ yJ1_indexOf_4cfef.cls ≠ "java/lang/invoke/MethodHandle" ∧ yJ1_indexOf_4cfef.cls ≠ "java/lang/invoke/VarHandle" ∧ (parseMethodDescriptor yJ1_indexOf_4cfef.desc).map (fun d => d.parameters.length) = some 4 := by decide +kernel
theorem hdj_enc : yJ1_canEncode_9a6ad.cls = "java/lang/StringLatin1" ∧ yJ1_canEncode_9a6ad.cls ≠ "java/lang/invoke/MethodHandle" ∧ yJ1_canEncode_9a6ad.cls ≠ "java/lang/invoke/VarHandle" ∧ (parseMethodDescriptor yJ1_canEncode_9a6ad.desc).map (fun d => d.parameters.length) = some 1 := by decide +kernel
theorem hdj_chr : yJ1_indexOfChar_4cfef.cls = "java/lang/StringLatin1" ∧ yJ1_indexOfChar_4cfef.cls ≠ "java/lang/invoke/MethodHandle" ∧ yJ1_indexOfChar_4cfef.cls ≠ "java/lang/invoke/VarHandle" ∧ (parseMethodDescriptor yJ1_indexOfChar_4cfef.desc).map (fun d => d.parameters.length) = some 4 := by decide +kernel
abbrev wj_ixI : List Cond := Cond.code yJ0_indexOf_0f7a4 cJ0_indexOf_0f7a4 2 (some FieldType.int) :: zB
abbrev rmj_ixI : Room := { frames := 3, cells := 0, slots := 0, locals := 70 }
abbrev wj_ixII : List Cond := Cond.code yJ0_indexOf_7cf53 cJ0_indexOf_7cf53 3 (some FieldType.int) :: zB
abbrev rmj_ixII : Room := { frames := 2, cells := 0, slots := 0, locals := 48 }
abbrev wj_lat : List Cond := Cond.code yJ0_isLatin1_aae02 cJ0_isLatin1_aae02 1 (some FieldType.boolean) :: zB
abbrev rmj_lat : Room := { frames := 0, cells := 0, slots := 0, locals := 0 }
abbrev wj_len : List Cond := Cond.code yJ0_length_8abf5 cJ0_length_8abf5 1 (some FieldType.int) :: zB
abbrev rmj_len : Room := { frames := 1, cells := 0, slots := 0, locals := 20 }
abbrev wj_cod : List Cond := Cond.code yJ0_coder_7d493 cJ0_coder_7d493 1 (some FieldType.byte) :: zB
abbrev rmj_cod : Room := { frames := 0, cells := 0, slots := 0, locals := 0 }
abbrev wj_L : List Cond := Cond.code yJ1_indexOf_4cfef cJ1_indexOf_4cfef 4 (some FieldType.int) :: zB
abbrev rmj_L : Room := { frames := 1, cells := 0, slots := 0, locals := 25 }
abbrev wj_enc : List Cond := Cond.code yJ1_canEncode_9a6ad cJ1_canEncode_9a6ad 1 (some FieldType.boolean) :: zB
abbrev rmj_enc : Room := { frames := 0, cells := 0, slots := 0, locals := 0 }
abbrev wj_chr : List Cond := Cond.code yJ1_indexOfChar_4cfef cJ1_indexOfChar_4cfef 6 (some FieldType.int) :: zB
abbrev rmj_chr : Room := { frames := 0, cells := 0, slots := 0, locals := 0 }
theorem zgSx {own : String} {idx : Nat} {y : MethodName} {w : Cond} (h1 : Cond.methodLink own idx y ∈ zB) (h2 : Cond.static y ∈ zB) (h4 : Cond.initialized y.cls ∈ zB) (h5 : w ∈ zB) : GoodIn zB (va_wsS own idx y (w :: zB)) := by
  intro x hx
  rcases List.mem_append.mp (show x ∈ ([.methodLink own idx y, .static y, .initialized y.cls] : List Cond) ++ (w :: zB) from hx) with h | h
  · simp only [List.mem_cons, List.not_mem_nil, or_false] at h
    rcases h with rfl | rfl | rfl
    · exact zg_B _ h1
    · exact zg_B _ h2
    · exact zg_B _ h4
  · exact zgN h5 x h
def zKi (j : Nat) : Int32 := ([112, 114, 104, 98, 99, 111] : List Int32).getD j 0
/-- the constant at a, its bytes at v -/
def zSa (a v : Nat) (A : Nat → Prop) (U : State) (H : Heap) : Prop := va_O "java/lang/String" a A U H ∧ va_OF "java/lang/String" "coder" "B" (.int 0) a A U H ∧ va_OF "java/lang/String" "value" "[B" (.ref v) a A U H ∧ va_T .byte v 6 (fun j => .int (zKi j)) A U H ∧ va_Z "java/lang/String" "COMPACT_STRINGS" "Z" (.int 1) A U H
theorem zSa.moved {a v : Nat} {A : Nat → Prop} {u U : State} {H : Heap} (hvm : u.vm.Alike U.vm) (h : zSa a v A u H) : zSa a v A U H := ⟨h.1.moved hvm, h.2.1.moved hvm, h.2.2.1.moved hvm, h.2.2.2.1.moved hvm, h.2.2.2.2.moved hvm⟩
theorem zSa.kept {a v : Nat} {A : Nat → Prop} {U : State} {H H1 : Heap} (h : zSa a v A U H) (hq : ∀ a : Nat, a < H.size → ¬ A a → H1[a]? = H[a]?) : zSa a v A U H1 := ⟨h.1.kept hq, h.2.1.kept hq, h.2.2.1.kept hq, h.2.2.2.1.kept hq, h.2.2.2.2.kept hq⟩
theorem zSa.narrow {a v : Nat} {A B : Nat → Prop} {U : State} {H : Heap} (h : zSa a v A U H) (hAB : ∀ q, B q → A q) : zSa a v B U H := ⟨h.1.narrow hAB, h.2.1.narrow hAB, h.2.2.1.narrow hAB, h.2.2.2.1.narrow hAB, h.2.2.2.2.narrow hAB⟩
def zJ (a v : Nat) : State → Prop := fun U => zSa a v (fun _ => False) U U.heap
theorem zJ_blind {a v : Nat} {av : List Value} : FrameBlind (va_Pc av (zJ a v)) := fun b U g mk q => ⟨q.1, zSa.moved (u := U) (U := U.calling g mk b) (Vm.Alike.refl U.vm) q.2⟩
theorem zJ_pre {a v : Nat} {av : List Value} {s : State} {H : Heap} {A : Nat → Prop} (h : zSa a v A s H) : ∀ U : State, U.heap = H → s.WarmedH U.vm → va_Pc av (zJ a v) av.toArray U := fun U hU hW => ⟨rfl, by
  show zSa a v _ U U.heap
  rw [hU]
  exact zSa.moved hW.alike (h.narrow (fun _ z => z.elim))⟩
def zIx (c : Int32) : Int32 := if c = 112 then 0 else if c = 114 then 1 else if c = 104 then 2 else if c = 98 then 3 else if c = 99 then 4 else if c = 111 then 5 else -1
theorem zIx_hit : ∀ n, n < 256 → ∀ i, i < 6 → zKi i = (nI n).toInt8.toInt32 → zIx (nI n) = nI i := by decide +kernel
theorem zIx_none : ∀ n, n < 256 → (∀ i, i < 6 → ¬ zKi i = (nI n).toInt8.toInt32) → zIx (nI n) = -1 := by decide +kernel
theorem zIx_out {c : Int32} (h : c < 0 ∨ 255 < c) : zIx c = -1 := by
  have n : ∀ d : Int32, ¬ d < 0 → ¬ 255 < d → ¬ c = d := fun d h1 h2 e => by
    rw [e] at h
    rcases h with h | h
    · exact h1 h
    · exact h2 h
  unfold zIx
  rw [if_neg (n _ (by decide) (by decide)), if_neg (n _ (by decide) (by decide)), if_neg (n _ (by decide) (by decide)), if_neg (n _ (by decide) (by decide)), if_neg (n _ (by decide) (by decide)), if_neg (n _ (by decide) (by decide))]
section JDK
variable {l : Launch}
theorem zOf_j {y : MethodName} {b : ByteArray} {maxL : Nat} {ret : Option FieldType} {rm : Room} {av : List Value} {a v : Nat} {post : Int32 → Prop} (hy : plainName y.cls = true) (hn : (lg_sl av).length ≤ maxL)
    (body : ∀ (p : Program) (e : Env) (s : State) (m : MethodId) (below : List Frame) (meth : Method) (c : Code) (ls : Array Slot), p.tables.exec = Jvm.exec → c.code = b → meth.sig.returnType = ret → c.maxLocals = maxL → s.vm.findClass y.cls = some m.cls → (∀ w ∈ zB, w.before av.toArray s = true) → meth.locks = false → zSa a v (fun _ => False) s s.heap → lv_has ls maxL (lv_args 0 av) →
      W p l e rm s m av.toArray below meth c s.heap [] 0 0 (MQ below (vp_Si post) av.toArray s 0 0 (fun _ => False)) (F0 m 0 ls [])) :
    Met l y (Cond.code y b maxL ret :: zB) rm (va_Pc av (zJ a v)) (vp_Si post) 0 0 (fun _ => False) := by
  refine Met.ofW (cc := b) (maxL := maxL) (ret := ret) hy rfl ?_
  intro p e s m args below meth c s₁ B hml hv
  obtain ⟨rfl, hZ⟩ := hv
  have hts := atoms_spec (ws := Cond.code y b maxL ret :: zB) B.pre
  rw [lg_entry_eq]
  exact body p e s m below meth c _ B.exec B.bytes B.returns hml (findClass_of_methodNamed B.named) (fun w h => hts w (List.mem_cons_of_mem _ h)) B.notSynchronized hZ (lv_entry av hn)
theorem cj_lat {a v : Nat} {Q : Int32 → Prop} (h : Q 1) : Met l yJ0_isLatin1_aae02 wj_lat rmj_lat (va_Pc [.ref a] (zJ a v)) (vp_Si Q) 0 0 (fun _ => False) := by
  refine zOf_j (by decide +kernel) (Nat.le_of_ble_eq_true rfl) ?_
  intro p e s m below meth c ls hx hb hr hml hown htB hlocks hZ hl
  replace hl : lv_has ls 1 [(0, .ref a)] := hl
  refine va_gets hx hb hZ.2.2.2.2 va_S.rf hown (htB _ zj_fC) (fun _ h9 => h9) dJ0_isLatin1_aae02_0 ?_
  refine lv_if_eq (tgt := 17) hx hb dJ0_isLatin1_aae02_3 (by decide) (fun c1 => absurd c1 (by decide)) (fun c1 => ?_)
  refine lv_aload_n hx hb dJ0_isLatin1_aae02_6 rfl (lv_at hl 0 rfl) ?_
  refine vk_getf hx hb hZ.2.1 va_S.rf hown (htB _ zj_fc) (fun _ h9 => h9) dJ0_isLatin1_aae02_7 ?_
  refine lv_if_ne (tgt := 17) hx hb dJ0_isLatin1_aae02_10 (by decide) (fun c2 => absurd rfl c2) (fun c2 => ?_)
  refine lv_iconst (v := (1 : Int32)) hx hb dJ0_isLatin1_aae02_13 (by decide) ?_
  refine lv_goto (tgt := 18) hx hb dJ0_isLatin1_aae02_14 (by decide) ?_
  exact W.zret (v := (1 : Int32)) hx hb hr rfl (fun t ht hW => ⟨_, rfl, h, ht⟩) (fun q hq => by cases hq) dJ0_isLatin1_aae02_18
theorem cj_cod {a v : Nat} {Q : Int32 → Prop} (h : Q 0) : Met l yJ0_coder_7d493 wj_cod rmj_cod (va_Pc [.ref a] (zJ a v)) (vp_Si Q) 0 0 (fun _ => False) := by
  refine zOf_j (by decide +kernel) (Nat.le_of_ble_eq_true rfl) ?_
  intro p e s m below meth c ls hx hb hr hml hown htB hlocks hZ hl
  replace hl : lv_has ls 1 [(0, .ref a)] := hl
  refine va_gets hx hb hZ.2.2.2.2 va_S.rf hown (htB _ zj_fC) (fun _ h9 => h9) dJ0_coder_7d493_0 ?_
  refine lv_if_eq (tgt := 13) hx hb dJ0_coder_7d493_3 (by decide) (fun c1 => absurd c1 (by decide)) (fun c1 => ?_)
  refine lv_aload_n hx hb dJ0_coder_7d493_6 rfl (lv_at hl 0 rfl) ?_
  refine vk_getf hx hb hZ.2.1 va_S.rf hown (htB _ zj_fc) (fun _ h9 => h9) dJ0_coder_7d493_7 ?_
  refine lv_goto (tgt := 14) hx hb dJ0_coder_7d493_10 (by decide) ?_
  exact W.zret (v := (0 : Int32)) hx hb hr rfl (fun t ht hW => ⟨_, rfl, h, ht⟩) (fun q hq => by cases hq) dJ0_coder_7d493_14
theorem cj_len {a v : Nat} {Q : Int32 → Prop} (h : Q 6) : Met l yJ0_length_8abf5 wj_len rmj_len (va_Pc [.ref a] (zJ a v)) (vp_Si Q) 0 0 (fun _ => False) := by
  refine zOf_j (by decide +kernel) (Nat.le_of_ble_eq_true rfl) ?_
  intro p e s m below meth c ls hx hb hr hml hown htB hlocks hZ hl
  replace hl : lv_has ls 1 [(0, .ref a)] := hl
  refine lv_aload_n hx hb dJ0_length_8abf5_0 rfl (lv_at hl 0 rfl) ?_
  refine vk_getf hx hb hZ.2.2.1 va_S.rf hown (htB _ zj_fv) (fun _ h9 => h9) dJ0_length_8abf5_1 ?_
  refine va_tlen hx hb hZ.2.2.2.1 va_S.rf (v := 6) rfl dJ0_length_8abf5_4 ?_
  refine lv_aload_n hx hb dJ0_length_8abf5_5 rfl (lv_at hl 0 rfl) ?_
  refine zc_r (va_runV (As := []) (rest := [.int 6]) ⟨hx, hb, hml, hown, htB⟩ (cj_cod (Q := fun r => r = 0) (a := a) (v := v) rfl) (cwV 0 htB (zgV zj_l_cod zj_i_cod zj_s_cod zj_iS zj_c_cod) rfl rfl rfl hdj_cod ⟨Nat.le_of_ble_eq_true rfl, Nat.le_of_ble_eq_true rfl⟩) ⟨zJ_blind, (by obtain ⟨cell, h1, h2, h3, -⟩ := hZ.1; exact ⟨cell, h1, h2, h3⟩), zJ_pre hZ⟩ rfl rfl hl.1 rfl (lv_room (Nat.le_of_ble_eq_true rfl)) dJ0_length_8abf5_6 ⟨Nat.zero_le _, Nat.zero_le _⟩) (fun r6 h6 => ?_)
  subst h6
  refine lv_ishr hx hb dJ0_length_8abf5_9 ?_
  exact W.iret (v := (6 : Int32)) hx hb hr (fun t ht hW => ⟨_, rfl, h, ht⟩) (fun q hq => by cases hq) dJ0_length_8abf5_10
theorem cj_enc {a v : Nat} {ch : Int32} {Q : Int32 → Prop} (h1 : ¬ ch < 0 → ¬ 255 < ch → Q 1) (h0 : (ch < 0 ∨ 255 < ch) → Q 0) : Met l yJ1_canEncode_9a6ad wj_enc rmj_enc (va_Pc [.int ch] (zJ a v)) (vp_Si Q) 0 0 (fun _ => False) := by
  refine zOf_j (by decide +kernel) (Nat.le_of_ble_eq_true rfl) ?_
  intro p e s m below meth c ls hx hb hr hml hown htB hlocks hZ hl
  replace hl : lv_has ls 1 [(0, .int ch)] := hl
  refine lv_iload_n hx hb dJ1_canEncode_9a6ad_0 rfl (lv_at hl 0 rfl) ?_
  refine lv_if_lt (tgt := 15) hx hb dJ1_canEncode_9a6ad_1 (by decide) (fun c1 => ?_) (fun c1 => ?_)
  · refine lv_iconst (v := (0 : Int32)) hx hb dJ1_canEncode_9a6ad_15 (by decide) ?_
    exact W.zret (v := (0 : Int32)) hx hb hr rfl (fun t ht hW => ⟨_, rfl, h0 (Or.inl c1), ht⟩) (fun q hq => by cases hq) dJ1_canEncode_9a6ad_16
  · refine lv_iload_n hx hb dJ1_canEncode_9a6ad_4 rfl (lv_at hl 0 rfl) ?_
    refine lv_sipush (v := (255 : Int32)) hx hb dJ1_canEncode_9a6ad_5 (by decide) ?_
    refine lv_icmp_gt (tgt := 15) hx hb dJ1_canEncode_9a6ad_8 (by decide) (fun c2 => ?_) (fun c2 => ?_)
    · refine lv_iconst (v := (0 : Int32)) hx hb dJ1_canEncode_9a6ad_15 (by decide) ?_
      exact W.zret (v := (0 : Int32)) hx hb hr rfl (fun t ht hW => ⟨_, rfl, h0 (Or.inr c2), ht⟩) (fun q hq => by cases hq) dJ1_canEncode_9a6ad_16
    · refine lv_iconst (v := (1 : Int32)) hx hb dJ1_canEncode_9a6ad_11 (by decide) ?_
      refine lv_goto (tgt := 16) hx hb dJ1_canEncode_9a6ad_12 (by decide) ?_
      exact W.zret (v := (1 : Int32)) hx hb hr rfl (fun t ht hW => ⟨_, rfl, h1 c1 c2, ht⟩) (fun q hq => by cases hq) dJ1_canEncode_9a6ad_16
theorem cj_chr {a v n : Nat} {Q : Int32 → Prop} (hn : n < 256) (h : Q (zIx (nI n))) : Met l yJ1_indexOfChar_4cfef wj_chr rmj_chr (va_Pc [.ref v, .int (nI n), .int 0, .int 6] (zJ a v)) (vp_Si Q) 0 0 (fun _ => False) := by
  refine zOf_j (by decide +kernel) (Nat.le_of_ble_eq_true rfl) ?_
  intro p e s m below meth c ls hx hb hr hml hown htB hlocks hZ hl
  replace hl : lv_has ls 6 [(0, .ref v), (1, .int (nI n)), (2, .int 0), (3, .int 6)] := hl
  have L7 : ∀ k i : Nat, i + k = 6 → (∀ j : Nat, j < i → ¬ zKi j = (nI n).toInt8.toInt32) → ∀ ls : Array Slot, lv_has ls 6 [(5, .int (nI i)), (4, .int (nI n).toInt8.toInt32), (0, .ref v), (3, .int 6)] → W p l e rmj_chr s m ([.ref v, .int (nI n), .int 0, .int 6] : List Value).toArray below meth c s.heap [] 0 0 (MQ below (vp_Si Q) ([.ref v, .int (nI n), .int 0, .int 6] : List Value).toArray s 0 0 (fun _ => False)) (F0 m 7 ls []) := by
    intro k
    induction k with
    | zero =>
      intro i hi hj ls hl
      have : i = 6 := by omega
      subst this
      refine lv_iload hx hb dJ1_indexOfChar_4cfef_7 (lv_at hl 0 rfl) ?_
      refine lv_iload_n hx hb dJ1_indexOfChar_4cfef_9 rfl (lv_at hl 3 rfl) ?_
      refine lv_icmp_ge (tgt := 31) hx hb dJ1_indexOfChar_4cfef_10 (by decide) (fun c1 => ?_) (fun c1 => absurd (Int32.le_refl _) c1)
      refine lv_iconst (v := (-1 : Int32)) hx hb dJ1_indexOfChar_4cfef_31 (by decide) ?_
      rw [zIx_none n hn hj] at h
      exact W.iret (v := (-1 : Int32)) hx hb hr (fun t ht hW => ⟨_, rfl, h, ht⟩) (fun q hq => by cases hq) dJ1_indexOfChar_4cfef_32
    | succ k ih =>
      intro i hi hj ls hl
      refine lv_iload hx hb dJ1_indexOfChar_4cfef_7 (lv_at hl 0 rfl) ?_
      refine lv_iload_n hx hb dJ1_indexOfChar_4cfef_9 rfl (lv_at hl 3 rfl) ?_
      refine lv_icmp_ge (tgt := 31) hx hb dJ1_indexOfChar_4cfef_10 (by decide) (fun c1 => absurd c1 (nI_ge (a := i) (b := 6) (by omega) (by omega))) (fun c1 => ?_)
      refine lv_aload_n hx hb dJ1_indexOfChar_4cfef_13 rfl (lv_at hl 2 rfl) ?_
      refine lv_iload hx hb dJ1_indexOfChar_4cfef_14 (lv_at hl 0 rfl) ?_
      refine va_tb hx hb hZ.2.2.2.1 va_S.rf (vp_in_nI (show i < 6 by omega) (by decide)) (v := .int (zKi i)) (by rw [nI_clamp (by omega)]) dJ1_indexOfChar_4cfef_16 ?_
      refine lv_iload hx hb dJ1_indexOfChar_4cfef_17 (lv_at hl 1 rfl) ?_
      refine lv_icmp_ne (tgt := 25) hx hb dJ1_indexOfChar_4cfef_19 (by decide) (fun c2 => ?_) (fun c2 => ?_)
      · refine lv_iinc (v := nI (i + 1)) (lv' := [(5, .int (nI (i + 1))), (4, .int (nI n).toInt8.toInt32), (0, .ref v), (3, .int 6)]) hx hb dJ1_indexOfChar_4cfef_25 hl (k := 0) rfl (by rw [nI_succ]; rfl) (by decide) rfl (fun ls hl => ?_)
        refine lv_goto (tgt := 7) hx hb dJ1_indexOfChar_4cfef_28 (by decide) ?_
        refine ih (i + 1) (by omega) (fun j h1 => ?_) ls hl
        by_cases z : j = i
        · subst z; exact c2
        · exact hj j (by omega)
      · refine lv_iload hx hb dJ1_indexOfChar_4cfef_22 (lv_at hl 0 rfl) ?_
        rw [zIx_hit n hn i (by omega) c2] at h
        exact W.iret (v := nI i) hx hb hr (fun t ht hW => ⟨_, rfl, h, ht⟩) (fun q hq => by cases hq) dJ1_indexOfChar_4cfef_24
  refine lv_iload_n hx hb dJ1_indexOfChar_4cfef_0 rfl (lv_at hl 1 rfl) ?_
  refine lv_i2b (v := (nI n).toInt8.toInt32) hx hb dJ1_indexOfChar_4cfef_1 rfl ?_
  refine lv_istore (lv' := [(4, .int (nI n).toInt8.toInt32), (0, .ref v), (1, .int (nI n)), (2, .int 0), (3, .int 6)]) hx hb dJ1_indexOfChar_4cfef_2 hl (by decide) rfl (fun ls hl => ?_)
  refine lv_iload_n hx hb dJ1_indexOfChar_4cfef_4 rfl (lv_at hl 3 rfl) ?_
  refine lv_istore (lv' := [(5, .int 0), (4, .int (nI n).toInt8.toInt32), (0, .ref v), (1, .int (nI n)), (2, .int 0), (3, .int 6)]) hx hb dJ1_indexOfChar_4cfef_5 hl (by decide) rfl (fun ls hl => ?_)
  exact L7 6 0 rfl (fun j hj => absurd hj (Nat.not_lt_zero j)) ls (lv_sub hl [0, 1, 2, 5] rfl)
theorem cj_L {a v : Nat} {ch : Int32} {Q : Int32 → Prop} (h : Q (zIx ch)) : Met l yJ1_indexOf_4cfef wj_L rmj_L (va_Pc [.ref v, .int ch, .int 0, .int 6] (zJ a v)) (vp_Si Q) 0 0 (fun _ => False) := by
  refine zOf_j (by decide +kernel) (Nat.le_of_ble_eq_true rfl) ?_
  intro p e s m below meth c ls hx hb hr hml hown htB hlocks hZ hl
  replace hl : lv_has ls 4 [(0, .ref v), (1, .int ch), (2, .int 0), (3, .int 6)] := hl
  refine lv_iload_n hx hb dJ1_indexOf_4cfef_0 rfl (lv_at hl 1 rfl) ?_
  refine zc_r (va_runS (As := [.int ch]) (rest := []) ⟨hx, hb, hml, hown, htB⟩ (cj_enc (a := a) (v := v) (Q := fun r => (r = 1 ∧ ¬ ch < 0 ∧ ¬ 255 < ch) ∨ (r = 0 ∧ (ch < 0 ∨ 255 < ch))) (fun a b => Or.inl ⟨rfl, a, b⟩) (fun a => Or.inr ⟨rfl, a⟩)) (va_cwS 1 htB (zgSx zj_l_enc zj_t_enc zj_iL zj_c_enc) rfl rfl rfl hdj_enc.2 ⟨Nat.le_of_ble_eq_true rfl, Nat.le_of_ble_eq_true rfl⟩) ⟨zJ_blind, zJ_pre hZ⟩ rfl rfl hl.1 rfl (lv_room (Nat.le_of_ble_eq_true rfl)) dJ1_indexOf_4cfef_1 ⟨Nat.zero_le _, Nat.zero_le _⟩) (fun r1 h1 => ?_)
  rcases h1 with ⟨rfl, g0, g1⟩ | ⟨rfl, g⟩
  · refine lv_if_ne (tgt := 9) hx hb dJ1_indexOf_4cfef_4 (by decide) (fun c1 => ?_) (fun c1 => absurd c1 (by decide))
    refine lv_iload_n hx hb dJ1_indexOf_4cfef_9 rfl (lv_at hl 2 rfl) ?_
    refine lv_iconst (v := (0 : Int32)) hx hb dJ1_indexOf_4cfef_10 (by decide) ?_
    refine va_mmax hx hb (hml.trans hl.1.symm) hown (htB _ zj_l_max) (htB _ zj_t_max) (htB _ zj_iM) (htB _ zj_c_max) (Nat.le_of_ble_eq_true rfl) (Nat.le_of_ble_eq_true rfl) (Nat.zero_le _) (Nat.zero_le _) dJ1_indexOf_4cfef_11 ?_
    refine lv_topi (fun y ey => ?_)
    obtain rfl : y = 0 := ey.trans (by decide)
    refine lv_istore_n (lv' := [(2, .int 0), (0, .ref v), (1, .int ch), (3, .int 6)]) hx hb dJ1_indexOf_4cfef_14 rfl hl (by decide) rfl (fun ls hl => ?_)
    refine lv_iload_n hx hb dJ1_indexOf_4cfef_15 rfl (lv_at hl 3 rfl) ?_
    refine lv_aload_n hx hb dJ1_indexOf_4cfef_16 rfl (lv_at hl 1 rfl) ?_
    refine va_tlen hx hb hZ.2.2.2.1 va_S.rf (v := 6) rfl dJ1_indexOf_4cfef_17 ?_
    refine va_mmin hx hb (hml.trans hl.1.symm) hown (htB _ zj_l_min) (htB _ zj_t_min) (htB _ zj_iM) (htB _ zj_c_min) (Nat.le_of_ble_eq_true rfl) (Nat.le_of_ble_eq_true rfl) (Nat.zero_le _) (Nat.zero_le _) dJ1_indexOf_4cfef_18 ?_
    refine lv_topi (fun y ey2 => ?_)
    obtain rfl : y = 6 := ey2.trans (by decide)
    refine lv_istore_n (lv' := [(3, .int 6), (2, .int 0), (0, .ref v), (1, .int ch)]) hx hb dJ1_indexOf_4cfef_21 rfl hl (by decide) rfl (fun ls hl => ?_)
    refine lv_iload_n hx hb dJ1_indexOf_4cfef_22 rfl (lv_at hl 1 rfl) ?_
    refine lv_iload_n hx hb dJ1_indexOf_4cfef_23 rfl (lv_at hl 0 rfl) ?_
    refine lv_icmp_lt (tgt := 29) hx hb dJ1_indexOf_4cfef_24 (by decide) (fun c2 => ?_) (fun c2 => absurd (by decide) c2)
    refine lv_aload_n hx hb dJ1_indexOf_4cfef_29 rfl (lv_at hl 2 rfl) ?_
    refine lv_iload_n hx hb dJ1_indexOf_4cfef_30 rfl (lv_at hl 3 rfl) ?_
    refine lv_iload_n hx hb dJ1_indexOf_4cfef_31 rfl (lv_at hl 1 rfl) ?_
    refine lv_iload_n hx hb dJ1_indexOf_4cfef_32 rfl (lv_at hl 0 rfl) ?_
    obtain ⟨n, hn, rfl⟩ := nI_of g0
    have h256 : n < 256 := by
      rcases Nat.lt_or_ge n 256 with q | q
      · exact q
      · exact absurd (nI_lt (a := 255) (b := n) (by omega) hn) g1
    refine zc_r (va_runS (As := [.ref v, .int (nI n), .int 0, .int 6]) (rest := []) ⟨hx, hb, hml, hown, htB⟩ (cj_chr (a := a) (v := v) h256 h) (va_cwS 4 htB (zgSx zj_l_chr zj_t_chr zj_iL zj_c_chr) rfl rfl rfl hdj_chr.2 ⟨Nat.le_of_ble_eq_true rfl, Nat.le_of_ble_eq_true rfl⟩) ⟨zJ_blind, zJ_pre hZ⟩ rfl rfl hl.1 rfl (lv_room (Nat.le_of_ble_eq_true rfl)) dJ1_indexOf_4cfef_33 ⟨Nat.zero_le _, Nat.zero_le _⟩) (fun r h => ?_)
    exact W.iret (v := r) hx hb hr (fun t ht hW => ⟨_, rfl, h, ht⟩) (fun q hq => by cases hq) dJ1_indexOf_4cfef_36
  · refine lv_if_ne (tgt := 9) hx hb dJ1_indexOf_4cfef_4 (by decide) (fun c1 => absurd rfl c1) (fun c1 => ?_)
    refine lv_iconst (v := (-1 : Int32)) hx hb dJ1_indexOf_4cfef_7 (by decide) ?_
    rw [zIx_out g] at h
    exact W.iret (v := (-1 : Int32)) hx hb hr (fun t ht hW => ⟨_, rfl, h, ht⟩) (fun q hq => by cases hq) dJ1_indexOf_4cfef_8
theorem cj_ixII {a v : Nat} {ch : Int32} {Q : Int32 → Prop} (h : Q (zIx ch)) : Met l yJ0_indexOf_7cf53 wj_ixII rmj_ixII (va_Pc [.ref a, .int ch, .int 0] (zJ a v)) (vp_Si Q) 0 0 (fun _ => False) := by
  refine zOf_j (by decide +kernel) (Nat.le_of_ble_eq_true rfl) ?_
  intro p e s m below meth c ls hx hb hr hml hown htB hlocks hZ hl
  replace hl : lv_has ls 3 [(0, .ref a), (1, .int ch), (2, .int 0)] := hl
  have hrec : ∃ cell : Cell, s.heap[a]? = some cell ∧ cell.vm.isStatics = false ∧ s.vm.findClass "java/lang/String" = some cell.cls := by obtain ⟨cell, h1, h2, h3, -⟩ := hZ.1; exact ⟨cell, h1, h2, h3⟩
  refine lv_aload_n hx hb dJ0_indexOf_7cf53_0 rfl (lv_at hl 0 rfl) ?_
  refine zc_r (va_runV (As := []) (rest := []) ⟨hx, hb, hml, hown, htB⟩ (cj_lat (Q := fun r => r = 1) (a := a) (v := v) rfl) (cwV 0 htB (zgV zj_l_lat zj_i_lat zj_s_lat zj_iS zj_c_lat) rfl rfl rfl hdj_lat ⟨Nat.le_of_ble_eq_true rfl, Nat.le_of_ble_eq_true rfl⟩) ⟨zJ_blind, hrec, zJ_pre hZ⟩ rfl rfl hl.1 rfl (lv_room (Nat.le_of_ble_eq_true rfl)) dJ0_indexOf_7cf53_1 ⟨Nat.zero_le _, Nat.zero_le _⟩) (fun r6 h6 => ?_)
  subst h6
  refine lv_if_eq (tgt := 23) hx hb dJ0_indexOf_7cf53_4 (by decide) (fun c1 => absurd c1 (by decide)) (fun c1 => ?_)
  refine lv_aload_n hx hb dJ0_indexOf_7cf53_7 rfl (lv_at hl 0 rfl) ?_
  refine vk_getf hx hb hZ.2.2.1 va_S.rf hown (htB _ zj_fv) (fun _ h9 => h9) dJ0_indexOf_7cf53_8 ?_
  refine lv_iload_n hx hb dJ0_indexOf_7cf53_11 rfl (lv_at hl 1 rfl) ?_
  refine lv_iload_n hx hb dJ0_indexOf_7cf53_12 rfl (lv_at hl 2 rfl) ?_
  refine lv_aload_n hx hb dJ0_indexOf_7cf53_13 rfl (lv_at hl 0 rfl) ?_
  refine zc_r (va_runV (As := []) (rest := [.int 0, .int ch, .ref v]) ⟨hx, hb, hml, hown, htB⟩ (cj_len (Q := fun r => r = 6) (a := a) (v := v) rfl) (cwV 0 htB (zgV zj_l_len zj_i_len zj_s_len zj_iS zj_c_len) rfl rfl rfl hdj_len ⟨Nat.le_of_ble_eq_true rfl, Nat.le_of_ble_eq_true rfl⟩) ⟨zJ_blind, hrec, zJ_pre hZ⟩ rfl rfl hl.1 rfl (lv_room (Nat.le_of_ble_eq_true rfl)) dJ0_indexOf_7cf53_14 ⟨Nat.zero_le _, Nat.zero_le _⟩) (fun r7 h7 => ?_)
  subst h7
  refine zc_r (va_runS (As := [.ref v, .int ch, .int 0, .int 6]) (rest := []) ⟨hx, hb, hml, hown, htB⟩ (cj_L (a := a) (v := v) h) (va_cwS 4 htB (zgSx zj_l_L zj_t_L zj_iL zj_c_L) rfl rfl rfl hdj_L.2 ⟨Nat.le_of_ble_eq_true rfl, Nat.le_of_ble_eq_true rfl⟩) ⟨zJ_blind, zJ_pre hZ⟩ rfl rfl hl.1 rfl (lv_room (Nat.le_of_ble_eq_true rfl)) dJ0_indexOf_7cf53_17 ⟨Nat.zero_le _, Nat.zero_le _⟩) (fun r h => ?_)
  refine lv_goto (tgt := 36) hx hb dJ0_indexOf_7cf53_20 (by decide) ?_
  exact W.iret (v := r) hx hb hr (fun t ht hW => ⟨_, rfl, h, ht⟩) (fun q hq => by cases hq) dJ0_indexOf_7cf53_36
theorem cj_ixI {a v : Nat} {ch : Int32} {Q : Int32 → Prop} (h : Q (zIx ch)) : Met l yJ0_indexOf_0f7a4 wj_ixI rmj_ixI (va_Pc [.ref a, .int ch] (zJ a v)) (vp_Si Q) 0 0 (fun _ => False) := by
  refine zOf_j (by decide +kernel) (Nat.le_of_ble_eq_true rfl) ?_
  intro p e s m below meth c ls hx hb hr hml hown htB hlocks hZ hl
  replace hl : lv_has ls 2 [(0, .ref a), (1, .int ch)] := hl
  have hrec : ∃ cell : Cell, s.heap[a]? = some cell ∧ cell.vm.isStatics = false ∧ s.vm.findClass "java/lang/String" = some cell.cls := by obtain ⟨cell, h1, h2, h3, -⟩ := hZ.1; exact ⟨cell, h1, h2, h3⟩
  refine lv_aload_n hx hb dJ0_indexOf_0f7a4_0 rfl (lv_at hl 0 rfl) ?_
  refine lv_iload_n hx hb dJ0_indexOf_0f7a4_1 rfl (lv_at hl 1 rfl) ?_
  refine lv_iconst (v := (0 : Int32)) hx hb dJ0_indexOf_0f7a4_2 (by decide) ?_
  refine zc_r (va_runV (As := [.int ch, .int 0]) (rest := []) ⟨hx, hb, hml, hown, htB⟩ (cj_ixII (a := a) (v := v) h) (cwV 2 htB (zgV zj_l_ixII zj_i_ixII zj_s_ixII zj_iS zj_c_ixII) rfl rfl rfl hdj_ixII ⟨Nat.le_of_ble_eq_true rfl, Nat.le_of_ble_eq_true rfl⟩) ⟨zJ_blind, hrec, zJ_pre hZ⟩ rfl rfl hl.1 rfl (lv_room (Nat.le_of_ble_eq_true rfl)) dJ0_indexOf_0f7a4_3 ⟨Nat.zero_le _, Nat.zero_le _⟩) (fun r h => ?_)
  exact W.iret (v := r) hx hb hr (fun t ht hW => ⟨_, rfl, h, ht⟩) (fun q hq => by cases hq) dJ0_indexOf_0f7a4_6
end JDK
/-! the reference's two static rows, the constant of the letters: what holds all along -/
def zLs (j : Nat) : Int32 := ([1, 0, 0, 0] : List Int32).getD j 0
def zMo (j : Nat) : Int32 := ([9, 9, 9, 40] : List Int32).getD j 0
def zCo (A : Nat → Prop) (U : State) (H : Heap) : Prop := (∃ a v : Nat, vk_R RX2 90 "prhbco" a U ∧ zSa a v A U H) ∧ (∃ t : Nat, va_Z RX5 "LEAST_SET" "[I" (.ref t) A U H ∧ va_T .int t 4 (fun j => .int (zLs j)) A U H) ∧ ∃ t : Nat, va_Z RX5 "MOST_SET" "[I" (.ref t) A U H ∧ va_T .int t 4 (fun j => .int (zMo j)) A U H
theorem zCo.kept {A : Nat → Prop} {U : State} {H H1 : Heap} (h : zCo A U H) (hq : ∀ a : Nat, a < H.size → ¬ A a → H1[a]? = H[a]?) : zCo A U H1 := by
  obtain ⟨⟨a, v, h1, h2⟩, ⟨t, h3, h4⟩, ⟨t2, h5, h6⟩⟩ := h
  exact ⟨⟨a, v, h1, h2.kept hq⟩, ⟨t, h3.kept hq, h4.kept hq⟩, ⟨t2, h5.kept hq, h6.kept hq⟩⟩
theorem zCo.narrow {A B : Nat → Prop} {U : State} {H : Heap} (h : zCo A U H) (hq : ∀ q, B q → A q) : zCo B U H := by
  obtain ⟨⟨a, v, h1, h2⟩, ⟨t, h3, h4⟩, ⟨t2, h5, h6⟩⟩ := h
  exact ⟨⟨a, v, h1, h2.narrow hq⟩, ⟨t, h3.narrow hq, h4.narrow hq⟩, ⟨t2, h5.narrow hq, h6.narrow hq⟩⟩
theorem zCo.warm {A : Nat → Prop} {s U : State} {H : Heap} (hW : s.WarmedH U.vm) (h : zCo A s H) : zCo A U H := by
  obtain ⟨⟨a, v, h1, h2⟩, ⟨t, h3, h4⟩, ⟨t2, h5, h6⟩⟩ := h
  exact ⟨⟨a, v, h1.warm hW, h2.moved hW.alike⟩, ⟨t, h3.moved hW.alike, h4.moved hW.alike⟩, ⟨t2, h5.moved hW.alike, h6.moved hW.alike⟩⟩
theorem zCo.calls {A : Nat → Prop} {U : State} {g : JFrame} {mk : MethodId} {b : Array Value} {H : Heap} (h : zCo A U H) : zCo A (U.calling g mk b) H := by
  obtain ⟨⟨a, v, h1, h2⟩, ⟨t, h3, h4⟩, ⟨t2, h5, h6⟩⟩ := h
  have al : U.vm.Alike (U.calling g mk b).vm := Vm.Alike.refl U.vm
  exact ⟨⟨a, v, vk_R.same (u := U) (U := U.calling g mk b) rfl h1, h2.moved al⟩, ⟨t, h3.moved al, h4.moved al⟩, ⟨t2, h5.moved al, h6.moved al⟩⟩
/-- a writer's world, with that -/
def zMC (D : va_G) (cy : ClassId) (ws : va_W) (sz : Nat) : State → Prop := fun U => U.heap.size = sz ∧ va_P D zCl ws U.heap ∧ va_K D zCl (zA cy) U ∧ (∀ w ∈ zN, va_Nw w U) ∧ va_D (fun _ => True) ws ∧ zCo (va_A ws sz) U U.heap
theorem zMC_blind {D : va_G} {cy : ClassId} {ws : va_W} {sz : Nat} {av : List Value} : FrameBlind (va_Pc av (zMC D cy ws sz)) := fun a U g mk q => by
  obtain ⟨q0, q1, qP, qK, qN, qD, qC⟩ := q
  exact ⟨q0, q1, qP, va_K.moved (u := U) (U := U.calling g mk a) (Vm.Alike.refl U.vm) qK, zNc qN, qD, qC.calls⟩
theorem zMC_pre {D : va_G} {cy : ClassId} {ws : va_W} {av : List Value} {s : State} {H : Heap} {locs : List Loc} {A : Nat → Prop} (hP : va_P D zCl ws H) (hK : va_K D zCl (zA cy) s) (hN : ∀ w ∈ zN, va_Nw w s) (hD : va_D A ws) (hS : va_S A s.heap H locs) (hA : ∀ q : Nat, s.heap.size ≤ q → A q) (hC : zCo A s s.heap) : ∀ U : State, U.heap = H → s.WarmedH U.vm → va_Pc av (zMC D cy ws H.size) av.toArray U := fun U hU hW => ⟨rfl, by rw [hU], by rw [hU]; exact hP, va_K.moved hW.alike hK, zNw hW hN, hD.weaken (fun _ _ _ _ => trivial), by
  rw [hU]
  exact zCo.warm hW ((hC.kept hS.2.1).narrow (zfree hS hA hD))⟩
section ZOFC
variable {l : Launch} {y : MethodName} {b : ByteArray} {maxL : Nat} {ret : Option FieldType} {rm : Room} {av : List Value} {D : va_G} {cy : ClassId}
theorem zOf_ic {S : Type} {wsf : S → va_W} {w0 : va_W} {post : Int32 → S → Prop} {sz : Nat} (hy : plainName y.cls = true) (hn : (lg_sl av).length ≤ maxL)
    (body : ∀ (p : Program) (e : Env) (s : State) (m : MethodId) (below : List Frame) (meth : Method) (c : Code) (ls : Array Slot) (A : Nat → Prop) (H : Heap) (locs : List Loc), p.tables.exec = Jvm.exec → c.code = b → meth.sig.returnType = ret → c.maxLocals = maxL → s.vm.findClass y.cls = some m.cls → (∀ w ∈ zB, w.before av.toArray s = true) → meth.locks = false → va_K D zCl (zA cy) s → (∀ w ∈ zN, va_Nw w s) → zCo A s s.heap → va_P D zCl w0 H → va_D A w0 → va_S A s.heap H locs → (∀ q : Nat, s.heap.size ≤ q → A q) → lv_has ls maxL (lv_args 0 av) →
      W p l e rm s m av.toArray below meth c H locs 0 0 (MQ below (va_Qi post (fun u t => va_P D zCl (wsf u) t.heap) A) av.toArray s 0 0 A) (F0 m 0 ls [])) :
    Met l y (Cond.code y b maxL ret :: zB) rm (va_Pc av (zMC D cy w0 sz)) (va_Qi post (fun u t => va_P D zCl (wsf u) t.heap) (va_A w0 sz)) 0 0 (va_A w0 sz) := by
  refine Met.ofW (cc := b) (maxL := maxL) (ret := ret) hy rfl ?_
  intro p e s m args below meth c s₁ B hml hv
  obtain ⟨rfl, hsz, hP, hK, hN, hD, hC⟩ := hv
  subst hsz
  have hts := atoms_spec (ws := Cond.code y b maxL ret :: zB) B.pre
  rw [lg_entry_eq]
  exact body p e s m below meth c _ (va_A w0 s.heap.size) s.heap [] B.exec B.bytes B.returns hml (findClass_of_methodNamed B.named) (fun w h => hts w (List.mem_cons_of_mem _ h)) B.notSynchronized hK hN hC hP hD.self va_S.rf (fun q h => Or.inr h) (lv_entry av hn)
theorem zOf_vc {S : Type} {wsf : S → va_W} {w0 : va_W} {post : S → Prop} {sz : Nat} (hy : plainName y.cls = true) (hn : (lg_sl av).length ≤ maxL)
    (body : ∀ (p : Program) (e : Env) (s : State) (m : MethodId) (below : List Frame) (meth : Method) (c : Code) (ls : Array Slot) (A : Nat → Prop) (H : Heap) (locs : List Loc), p.tables.exec = Jvm.exec → c.code = b → meth.sig.returnType = ret → c.maxLocals = maxL → s.vm.findClass y.cls = some m.cls → (∀ w ∈ zB, w.before av.toArray s = true) → meth.locks = false → va_K D zCl (zA cy) s → (∀ w ∈ zN, va_Nw w s) → zCo A s s.heap → va_P D zCl w0 H → va_D A w0 → va_S A s.heap H locs → (∀ q : Nat, s.heap.size ≤ q → A q) → lv_has ls maxL (lv_args 0 av) →
      W p l e rm s m av.toArray below meth c H locs 0 0 (MQ below (va_Qv post (fun u t => va_P D zCl (wsf u) t.heap) A) av.toArray s 0 0 A) (F0 m 0 ls [])) :
    Met l y (Cond.code y b maxL ret :: zB) rm (va_Pc av (zMC D cy w0 sz)) (va_Qv post (fun u t => va_P D zCl (wsf u) t.heap) (va_A w0 sz)) 0 0 (va_A w0 sz) := by
  refine Met.ofW (cc := b) (maxL := maxL) (ret := ret) hy rfl ?_
  intro p e s m args below meth c s₁ B hml hv
  obtain ⟨rfl, hsz, hP, hK, hN, hD, hC⟩ := hv
  subst hsz
  have hts := atoms_spec (ws := Cond.code y b maxL ret :: zB) B.pre
  rw [lg_entry_eq]
  exact body p e s m below meth c _ (va_A w0 s.heap.size) s.heap [] B.exec B.bytes B.returns hml (findClass_of_methodNamed B.named) (fun w h => hts w (List.mem_cons_of_mem _ h)) B.notSynchronized hK hN hC hP hD.self va_S.rf (fun q h => Or.inr h) (lv_entry av hn)
end ZOFC

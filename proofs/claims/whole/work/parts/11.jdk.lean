theorem dJ9_floorMod_7cf53_0 : decode cJ9_floorMod_7cf53 0 = .ok (.iload_n 0, 1) := by decide +kernel
theorem dJ9_floorMod_7cf53_1 : decode cJ9_floorMod_7cf53 1 = .ok (.iload_n 1, 1) := by decide +kernel
theorem dJ9_floorMod_7cf53_2 : decode cJ9_floorMod_7cf53 2 = .ok (.irem, 1) := by decide +kernel
theorem dJ9_floorMod_7cf53_3 : decode cJ9_floorMod_7cf53 3 = .ok (.istore_n 2, 1) := by decide +kernel
theorem dJ9_floorMod_7cf53_4 : decode cJ9_floorMod_7cf53 4 = .ok (.iload_n 0, 1) := by decide +kernel
theorem dJ9_floorMod_7cf53_5 : decode cJ9_floorMod_7cf53 5 = .ok (.iload_n 1, 1) := by decide +kernel
theorem dJ9_floorMod_7cf53_6 : decode cJ9_floorMod_7cf53 6 = .ok (.ixor, 1) := by decide +kernel
theorem dJ9_floorMod_7cf53_7 : decode cJ9_floorMod_7cf53 7 = .ok (.ifCond .ge 11, 3) := by decide +kernel
theorem dJ9_floorMod_7cf53_10 : decode cJ9_floorMod_7cf53 10 = .ok (.iload_n 2, 1) := by decide +kernel
theorem dJ9_floorMod_7cf53_11 : decode cJ9_floorMod_7cf53 11 = .ok (.ifCond .eq 7, 3) := by decide +kernel
theorem dJ9_floorMod_7cf53_14 : decode cJ9_floorMod_7cf53 14 = .ok (.iload_n 2, 1) := by decide +kernel
theorem dJ9_floorMod_7cf53_15 : decode cJ9_floorMod_7cf53 15 = .ok (.iload_n 1, 1) := by decide +kernel
theorem dJ9_floorMod_7cf53_16 : decode cJ9_floorMod_7cf53 16 = .ok (.iadd, 1) := by decide +kernel
theorem dJ9_floorMod_7cf53_17 : decode cJ9_floorMod_7cf53 17 = .ok (.ireturn, 1) := by decide +kernel
theorem dJ9_floorMod_7cf53_18 : decode cJ9_floorMod_7cf53 18 = .ok (.iload_n 2, 1) := by decide +kernel
theorem dJ9_floorMod_7cf53_19 : decode cJ9_floorMod_7cf53 19 = .ok (.ireturn, 1) := by decide +kernel
theorem dJ0_length_8abf5_0 : decode cJ0_length_8abf5 0 = .ok (.aload_n 0, 1) := by decide +kernel
theorem dJ0_length_8abf5_1 : decode cJ0_length_8abf5 1 = .ok (.getfield 9, 3) := by decide +kernel
theorem dJ0_length_8abf5_4 : decode cJ0_length_8abf5 4 = .ok (.arraylength, 1) := by decide +kernel
theorem dJ0_length_8abf5_5 : decode cJ0_length_8abf5 5 = .ok (.aload_n 0, 1) := by decide +kernel
theorem dJ0_length_8abf5_6 : decode cJ0_length_8abf5 6 = .ok (.invokevirtual 335, 3) := by decide +kernel
theorem dJ0_length_8abf5_9 : decode cJ0_length_8abf5 9 = .ok (.ishr, 1) := by decide +kernel
theorem dJ0_length_8abf5_10 : decode cJ0_length_8abf5 10 = .ok (.ireturn, 1) := by decide +kernel
theorem dJ0_charAt_5068e_0 : decode cJ0_charAt_5068e 0 = .ok (.aload_n 0, 1) := by decide +kernel
theorem dJ0_charAt_5068e_1 : decode cJ0_charAt_5068e 1 = .ok (.invokevirtual 492, 3) := by decide +kernel
theorem dJ0_charAt_5068e_4 : decode cJ0_charAt_5068e 4 = .ok (.ifCond .eq 12, 3) := by decide +kernel
theorem dJ0_charAt_5068e_7 : decode cJ0_charAt_5068e 7 = .ok (.aload_n 0, 1) := by decide +kernel
theorem dJ0_charAt_5068e_8 : decode cJ0_charAt_5068e 8 = .ok (.getfield 9, 3) := by decide +kernel
theorem dJ0_charAt_5068e_11 : decode cJ0_charAt_5068e 11 = .ok (.iload_n 1, 1) := by decide +kernel
theorem dJ0_charAt_5068e_12 : decode cJ0_charAt_5068e 12 = .ok (.invokestatic 495, 3) := by decide +kernel
theorem dJ0_charAt_5068e_15 : decode cJ0_charAt_5068e 15 = .ok (.ireturn, 1) := by decide +kernel
theorem dJ0_charAt_5068e_16 : decode cJ0_charAt_5068e 16 = .ok (.aload_n 0, 1) := by decide +kernel
theorem dJ0_charAt_5068e_17 : decode cJ0_charAt_5068e 17 = .ok (.getfield 9, 3) := by decide +kernel
theorem dJ0_charAt_5068e_20 : decode cJ0_charAt_5068e 20 = .ok (.iload_n 1, 1) := by decide +kernel
theorem dJ0_charAt_5068e_21 : decode cJ0_charAt_5068e 21 = .ok (.invokestatic 498, 3) := by decide +kernel
theorem dJ0_charAt_5068e_24 : decode cJ0_charAt_5068e 24 = .ok (.ireturn, 1) := by decide +kernel
theorem dJ0_indexOf_0f7a4_0 : decode cJ0_indexOf_0f7a4 0 = .ok (.aload_n 0, 1) := by decide +kernel
theorem dJ0_indexOf_0f7a4_1 : decode cJ0_indexOf_0f7a4 1 = .ok (.iload_n 1, 1) := by decide +kernel
theorem dJ0_indexOf_0f7a4_2 : decode cJ0_indexOf_0f7a4 2 = .ok (.iconst 0, 1) := by decide +kernel
theorem dJ0_indexOf_0f7a4_3 : decode cJ0_indexOf_0f7a4 3 = .ok (.invokevirtual 633, 3) := by decide +kernel
theorem dJ0_indexOf_0f7a4_6 : decode cJ0_indexOf_0f7a4 6 = .ok (.ireturn, 1) := by decide +kernel
theorem dJ0_indexOf_7cf53_0 : decode cJ0_indexOf_7cf53 0 = .ok (.aload_n 0, 1) := by decide +kernel
theorem dJ0_indexOf_7cf53_1 : decode cJ0_indexOf_7cf53 1 = .ok (.invokevirtual 492, 3) := by decide +kernel
theorem dJ0_indexOf_7cf53_4 : decode cJ0_indexOf_7cf53 4 = .ok (.ifCond .eq 19, 3) := by decide +kernel
theorem dJ0_indexOf_7cf53_7 : decode cJ0_indexOf_7cf53 7 = .ok (.aload_n 0, 1) := by decide +kernel
theorem dJ0_indexOf_7cf53_8 : decode cJ0_indexOf_7cf53 8 = .ok (.getfield 9, 3) := by decide +kernel
theorem dJ0_indexOf_7cf53_11 : decode cJ0_indexOf_7cf53 11 = .ok (.iload_n 1, 1) := by decide +kernel
theorem dJ0_indexOf_7cf53_12 : decode cJ0_indexOf_7cf53 12 = .ok (.iload_n 2, 1) := by decide +kernel
theorem dJ0_indexOf_7cf53_13 : decode cJ0_indexOf_7cf53 13 = .ok (.aload_n 0, 1) := by decide +kernel
theorem dJ0_indexOf_7cf53_14 : decode cJ0_indexOf_7cf53 14 = .ok (.invokevirtual 505, 3) := by decide +kernel
theorem dJ0_indexOf_7cf53_17 : decode cJ0_indexOf_7cf53 17 = .ok (.invokestatic 637, 3) := by decide +kernel
theorem dJ0_indexOf_7cf53_20 : decode cJ0_indexOf_7cf53 20 = .ok (.goto 16, 3) := by decide +kernel
theorem dJ0_indexOf_7cf53_23 : decode cJ0_indexOf_7cf53 23 = .ok (.aload_n 0, 1) := by decide +kernel
theorem dJ0_indexOf_7cf53_24 : decode cJ0_indexOf_7cf53 24 = .ok (.getfield 9, 3) := by decide +kernel
theorem dJ0_indexOf_7cf53_27 : decode cJ0_indexOf_7cf53 27 = .ok (.iload_n 1, 1) := by decide +kernel
theorem dJ0_indexOf_7cf53_28 : decode cJ0_indexOf_7cf53 28 = .ok (.iload_n 2, 1) := by decide +kernel
theorem dJ0_indexOf_7cf53_29 : decode cJ0_indexOf_7cf53 29 = .ok (.aload_n 0, 1) := by decide +kernel
theorem dJ0_indexOf_7cf53_30 : decode cJ0_indexOf_7cf53 30 = .ok (.invokevirtual 505, 3) := by decide +kernel
theorem dJ0_indexOf_7cf53_33 : decode cJ0_indexOf_7cf53 33 = .ok (.invokestatic 640, 3) := by decide +kernel
theorem dJ0_indexOf_7cf53_36 : decode cJ0_indexOf_7cf53 36 = .ok (.ireturn, 1) := by decide +kernel
theorem dJ0_coder_7d493_0 : decode cJ0_coder_7d493 0 = .ok (.getstatic 38, 3) := by decide +kernel
theorem dJ0_coder_7d493_3 : decode cJ0_coder_7d493 3 = .ok (.ifCond .eq 10, 3) := by decide +kernel
theorem dJ0_coder_7d493_6 : decode cJ0_coder_7d493 6 = .ok (.aload_n 0, 1) := by decide +kernel
theorem dJ0_coder_7d493_7 : decode cJ0_coder_7d493 7 = .ok (.getfield 15, 3) := by decide +kernel
theorem dJ0_coder_7d493_10 : decode cJ0_coder_7d493 10 = .ok (.goto 4, 3) := by decide +kernel
theorem dJ0_coder_7d493_13 : decode cJ0_coder_7d493 13 = .ok (.iconst 1, 1) := by decide +kernel
theorem dJ0_coder_7d493_14 : decode cJ0_coder_7d493 14 = .ok (.ireturn, 1) := by decide +kernel
theorem dJ0_isLatin1_aae02_0 : decode cJ0_isLatin1_aae02 0 = .ok (.getstatic 38, 3) := by decide +kernel
theorem dJ0_isLatin1_aae02_3 : decode cJ0_isLatin1_aae02 3 = .ok (.ifCond .eq 14, 3) := by decide +kernel
theorem dJ0_isLatin1_aae02_6 : decode cJ0_isLatin1_aae02 6 = .ok (.aload_n 0, 1) := by decide +kernel
theorem dJ0_isLatin1_aae02_7 : decode cJ0_isLatin1_aae02 7 = .ok (.getfield 15, 3) := by decide +kernel
theorem dJ0_isLatin1_aae02_10 : decode cJ0_isLatin1_aae02 10 = .ok (.ifCond .ne 7, 3) := by decide +kernel
theorem dJ0_isLatin1_aae02_13 : decode cJ0_isLatin1_aae02 13 = .ok (.iconst 1, 1) := by decide +kernel
theorem dJ0_isLatin1_aae02_14 : decode cJ0_isLatin1_aae02 14 = .ok (.goto 4, 3) := by decide +kernel
theorem dJ0_isLatin1_aae02_17 : decode cJ0_isLatin1_aae02 17 = .ok (.iconst 0, 1) := by decide +kernel
theorem dJ0_isLatin1_aae02_18 : decode cJ0_isLatin1_aae02 18 = .ok (.ireturn, 1) := by decide +kernel
theorem dJ0_checkIndex_df160_0 : decode cJ0_checkIndex_df160 0 = .ok (.iload_n 0, 1) := by decide +kernel
theorem dJ0_checkIndex_df160_1 : decode cJ0_checkIndex_df160 1 = .ok (.iload_n 1, 1) := by decide +kernel
theorem dJ0_checkIndex_df160_2 : decode cJ0_checkIndex_df160 2 = .ok (.getstatic 1053, 3) := by decide +kernel
theorem dJ0_checkIndex_df160_5 : decode cJ0_checkIndex_df160 5 = .ok (.invokestatic 1059, 3) := by decide +kernel
theorem dJ0_checkIndex_df160_8 : decode cJ0_checkIndex_df160 8 = .ok (.pop, 1) := by decide +kernel
theorem dJ0_checkIndex_df160_9 : decode cJ0_checkIndex_df160 9 = .ok (.return_, 1) := by decide +kernel
theorem dJ1_charAt_3b067_0 : decode cJ1_charAt_3b067 0 = .ok (.iload_n 1, 1) := by decide +kernel
theorem dJ1_charAt_3b067_1 : decode cJ1_charAt_3b067 1 = .ok (.aload_n 0, 1) := by decide +kernel
theorem dJ1_charAt_3b067_2 : decode cJ1_charAt_3b067 2 = .ok (.arraylength, 1) := by decide +kernel
theorem dJ1_charAt_3b067_3 : decode cJ1_charAt_3b067 3 = .ok (.invokestatic 9, 3) := by decide +kernel
theorem dJ1_charAt_3b067_6 : decode cJ1_charAt_3b067 6 = .ok (.aload_n 0, 1) := by decide +kernel
theorem dJ1_charAt_3b067_7 : decode cJ1_charAt_3b067 7 = .ok (.iload_n 1, 1) := by decide +kernel
theorem dJ1_charAt_3b067_8 : decode cJ1_charAt_3b067 8 = .ok (.baload, 1) := by decide +kernel
theorem dJ1_charAt_3b067_9 : decode cJ1_charAt_3b067 9 = .ok (.sipush 255, 3) := by decide +kernel
theorem dJ1_charAt_3b067_12 : decode cJ1_charAt_3b067 12 = .ok (.iand, 1) := by decide +kernel
theorem dJ1_charAt_3b067_13 : decode cJ1_charAt_3b067 13 = .ok (.i2c, 1) := by decide +kernel
theorem dJ1_charAt_3b067_14 : decode cJ1_charAt_3b067 14 = .ok (.ireturn, 1) := by decide +kernel
theorem dJ1_indexOf_4cfef_0 : decode cJ1_indexOf_4cfef 0 = .ok (.iload_n 1, 1) := by decide +kernel
theorem dJ1_indexOf_4cfef_1 : decode cJ1_indexOf_4cfef 1 = .ok (.invokestatic 88, 3) := by decide +kernel
theorem dJ1_indexOf_4cfef_4 : decode cJ1_indexOf_4cfef 4 = .ok (.ifCond .ne 5, 3) := by decide +kernel
theorem dJ1_indexOf_4cfef_7 : decode cJ1_indexOf_4cfef 7 = .ok (.iconst (-1), 1) := by decide +kernel
theorem dJ1_indexOf_4cfef_8 : decode cJ1_indexOf_4cfef 8 = .ok (.ireturn, 1) := by decide +kernel
theorem dJ1_indexOf_4cfef_9 : decode cJ1_indexOf_4cfef 9 = .ok (.iload_n 2, 1) := by decide +kernel
theorem dJ1_indexOf_4cfef_10 : decode cJ1_indexOf_4cfef 10 = .ok (.iconst 0, 1) := by decide +kernel
theorem dJ1_indexOf_4cfef_11 : decode cJ1_indexOf_4cfef 11 = .ok (.invokestatic 92, 3) := by decide +kernel
theorem dJ1_indexOf_4cfef_14 : decode cJ1_indexOf_4cfef 14 = .ok (.istore_n 2, 1) := by decide +kernel
theorem dJ1_indexOf_4cfef_15 : decode cJ1_indexOf_4cfef 15 = .ok (.iload_n 3, 1) := by decide +kernel
theorem dJ1_indexOf_4cfef_16 : decode cJ1_indexOf_4cfef 16 = .ok (.aload_n 0, 1) := by decide +kernel
theorem dJ1_indexOf_4cfef_17 : decode cJ1_indexOf_4cfef 17 = .ok (.arraylength, 1) := by decide +kernel
theorem dJ1_indexOf_4cfef_18 : decode cJ1_indexOf_4cfef 18 = .ok (.invokestatic 38, 3) := by decide +kernel
theorem dJ1_indexOf_4cfef_21 : decode cJ1_indexOf_4cfef 21 = .ok (.istore_n 3, 1) := by decide +kernel
theorem dJ1_indexOf_4cfef_22 : decode cJ1_indexOf_4cfef 22 = .ok (.iload_n 2, 1) := by decide +kernel
theorem dJ1_indexOf_4cfef_23 : decode cJ1_indexOf_4cfef 23 = .ok (.iload_n 3, 1) := by decide +kernel
theorem dJ1_indexOf_4cfef_24 : decode cJ1_indexOf_4cfef 24 = .ok (.if_icmp .lt 5, 3) := by decide +kernel
theorem dJ1_indexOf_4cfef_27 : decode cJ1_indexOf_4cfef 27 = .ok (.iconst (-1), 1) := by decide +kernel
theorem dJ1_indexOf_4cfef_28 : decode cJ1_indexOf_4cfef 28 = .ok (.ireturn, 1) := by decide +kernel
theorem dJ1_indexOf_4cfef_29 : decode cJ1_indexOf_4cfef 29 = .ok (.aload_n 0, 1) := by decide +kernel
theorem dJ1_indexOf_4cfef_30 : decode cJ1_indexOf_4cfef 30 = .ok (.iload_n 1, 1) := by decide +kernel
theorem dJ1_indexOf_4cfef_31 : decode cJ1_indexOf_4cfef 31 = .ok (.iload_n 2, 1) := by decide +kernel
theorem dJ1_indexOf_4cfef_32 : decode cJ1_indexOf_4cfef 32 = .ok (.iload_n 3, 1) := by decide +kernel
theorem dJ1_indexOf_4cfef_33 : decode cJ1_indexOf_4cfef 33 = .ok (.invokestatic 95, 3) := by decide +kernel
theorem dJ1_indexOf_4cfef_36 : decode cJ1_indexOf_4cfef 36 = .ok (.ireturn, 1) := by decide +kernel
theorem dJ1_canEncode_9a6ad_0 : decode cJ1_canEncode_9a6ad 0 = .ok (.iload_n 0, 1) := by decide +kernel
theorem dJ1_canEncode_9a6ad_1 : decode cJ1_canEncode_9a6ad 1 = .ok (.ifCond .lt 14, 3) := by decide +kernel
theorem dJ1_canEncode_9a6ad_4 : decode cJ1_canEncode_9a6ad 4 = .ok (.iload_n 0, 1) := by decide +kernel
theorem dJ1_canEncode_9a6ad_5 : decode cJ1_canEncode_9a6ad 5 = .ok (.sipush 255, 3) := by decide +kernel
theorem dJ1_canEncode_9a6ad_8 : decode cJ1_canEncode_9a6ad 8 = .ok (.if_icmp .gt 7, 3) := by decide +kernel
theorem dJ1_canEncode_9a6ad_11 : decode cJ1_canEncode_9a6ad 11 = .ok (.iconst 1, 1) := by decide +kernel
theorem dJ1_canEncode_9a6ad_12 : decode cJ1_canEncode_9a6ad 12 = .ok (.goto 4, 3) := by decide +kernel
theorem dJ1_canEncode_9a6ad_15 : decode cJ1_canEncode_9a6ad 15 = .ok (.iconst 0, 1) := by decide +kernel
theorem dJ1_canEncode_9a6ad_16 : decode cJ1_canEncode_9a6ad 16 = .ok (.ireturn, 1) := by decide +kernel
theorem dJ1_indexOfChar_4cfef_0 : decode cJ1_indexOfChar_4cfef 0 = .ok (.iload_n 1, 1) := by decide +kernel
theorem dJ1_indexOfChar_4cfef_1 : decode cJ1_indexOfChar_4cfef 1 = .ok (.i2b, 1) := by decide +kernel
theorem dJ1_indexOfChar_4cfef_2 : decode cJ1_indexOfChar_4cfef 2 = .ok (.istore 4, 2) := by decide +kernel
theorem dJ1_indexOfChar_4cfef_4 : decode cJ1_indexOfChar_4cfef 4 = .ok (.iload_n 2, 1) := by decide +kernel
theorem dJ1_indexOfChar_4cfef_5 : decode cJ1_indexOfChar_4cfef 5 = .ok (.istore 5, 2) := by decide +kernel
theorem dJ1_indexOfChar_4cfef_7 : decode cJ1_indexOfChar_4cfef 7 = .ok (.iload 5, 2) := by decide +kernel
theorem dJ1_indexOfChar_4cfef_9 : decode cJ1_indexOfChar_4cfef 9 = .ok (.iload_n 3, 1) := by decide +kernel
theorem dJ1_indexOfChar_4cfef_10 : decode cJ1_indexOfChar_4cfef 10 = .ok (.if_icmp .ge 21, 3) := by decide +kernel
theorem dJ1_indexOfChar_4cfef_13 : decode cJ1_indexOfChar_4cfef 13 = .ok (.aload_n 0, 1) := by decide +kernel
theorem dJ1_indexOfChar_4cfef_14 : decode cJ1_indexOfChar_4cfef 14 = .ok (.iload 5, 2) := by decide +kernel
theorem dJ1_indexOfChar_4cfef_16 : decode cJ1_indexOfChar_4cfef 16 = .ok (.baload, 1) := by decide +kernel
theorem dJ1_indexOfChar_4cfef_17 : decode cJ1_indexOfChar_4cfef 17 = .ok (.iload 4, 2) := by decide +kernel
theorem dJ1_indexOfChar_4cfef_19 : decode cJ1_indexOfChar_4cfef 19 = .ok (.if_icmp .ne 6, 3) := by decide +kernel
theorem dJ1_indexOfChar_4cfef_22 : decode cJ1_indexOfChar_4cfef 22 = .ok (.iload 5, 2) := by decide +kernel
theorem dJ1_indexOfChar_4cfef_24 : decode cJ1_indexOfChar_4cfef 24 = .ok (.ireturn, 1) := by decide +kernel
theorem dJ1_indexOfChar_4cfef_25 : decode cJ1_indexOfChar_4cfef 25 = .ok (.iinc 5 1, 3) := by decide +kernel
theorem dJ1_indexOfChar_4cfef_28 : decode cJ1_indexOfChar_4cfef 28 = .ok (.goto (-21), 3) := by decide +kernel
theorem dJ1_indexOfChar_4cfef_31 : decode cJ1_indexOfChar_4cfef 31 = .ok (.iconst (-1), 1) := by decide +kernel
theorem dJ1_indexOfChar_4cfef_32 : decode cJ1_indexOfChar_4cfef 32 = .ok (.ireturn, 1) := by decide +kernel
theorem dJ3_checkIndex_8e157_0 : decode cJ3_checkIndex_8e157 0 = .ok (.iload_n 0, 1) := by decide +kernel
theorem dJ3_checkIndex_8e157_1 : decode cJ3_checkIndex_8e157 1 = .ok (.ifCond .lt 8, 3) := by decide +kernel
theorem dJ3_checkIndex_8e157_4 : decode cJ3_checkIndex_8e157 4 = .ok (.iload_n 0, 1) := by decide +kernel
theorem dJ3_checkIndex_8e157_5 : decode cJ3_checkIndex_8e157 5 = .ok (.iload_n 1, 1) := by decide +kernel
theorem dJ3_checkIndex_8e157_6 : decode cJ3_checkIndex_8e157 6 = .ok (.if_icmp .lt 10, 3) := by decide +kernel
theorem dJ3_checkIndex_8e157_9 : decode cJ3_checkIndex_8e157 9 = .ok (.aload_n 2, 1) := by decide +kernel
theorem dJ3_checkIndex_8e157_10 : decode cJ3_checkIndex_8e157 10 = .ok (.iload_n 0, 1) := by decide +kernel
theorem dJ3_checkIndex_8e157_11 : decode cJ3_checkIndex_8e157 11 = .ok (.iload_n 1, 1) := by decide +kernel
theorem dJ3_checkIndex_8e157_12 : decode cJ3_checkIndex_8e157 12 = .ok (.invokestatic 95, 3) := by decide +kernel
theorem dJ3_checkIndex_8e157_15 : decode cJ3_checkIndex_8e157 15 = .ok (.athrow, 1) := by decide +kernel
theorem dJ3_checkIndex_8e157_16 : decode cJ3_checkIndex_8e157 16 = .ok (.iload_n 0, 1) := by decide +kernel
theorem dJ3_checkIndex_8e157_17 : decode cJ3_checkIndex_8e157 17 = .ok (.ireturn, 1) := by decide +kernel
theorem fJ0_38 : Cond.fieldLink "java/lang/String" 38 "java/lang/String" "COMPACT_STRINGS" "Z" ∈ lw_gd := gd_tbl (ch3 (List.mem_of_getElem? (i := 158) rfl)) rfl
theorem fJ0_1053 : Cond.fieldLink "java/lang/String" 1053 "jdk/internal/util/Preconditions" "SIOOBE_FORMATTER" "Ljava/util/function/BiFunction;" ∈ lw_gd := gd_tbl (ch3 (List.mem_of_getElem? (i := 174) rfl)) rfl
theorem fJ0_9 : Cond.fieldLink "java/lang/String" 9 "java/lang/String" "value" "[B" ∈ lw_gd := gd_tbl (ch8 (List.mem_of_getElem? (i := 198) rfl)) rfl
theorem fJ0_15 : Cond.fieldLink "java/lang/String" 15 "java/lang/String" "coder" "B" ∈ lw_gd := gd_tbl (ch8 (List.mem_of_getElem? (i := 199) rfl)) rfl
def xXor (x y : Int) : Int := (Int32.ofInt x ^^^ Int32.ofInt y).toInt
def xI2b (x : Int) : Int := ((Int32.ofInt x).toInt8.toInt32).toInt
theorem v_ixor {E : EN} {mi : MI} {k : Nat} {mem : Mm} {pc : Nat} {al : List (Nat × AV)} {st : List AV} {Q : PQ} {x y : Int} (hd : decode mi.2.1 pc = .ok (.ixor, 1)) (h : VM E mi k mem (pc + 1) al (aI (xXor x y) :: st) Q) : VM E mi k mem pc al (aI y :: aI x :: st) Q := by
  intro p e s m args below meth c H locs ls hx hc hW hS hl hna hns
  refine lv_ixor (x := Int32.ofInt x) (y := Int32.ofInt y) (rest := aSt (eB E) st) hx hc.1 hd ?_
  rw [i32_back (Int32.ofInt x ^^^ Int32.ofInt y)]
  exact h p e s m args below meth c H locs ls hx hc hW hS hl hna (aNs_c (aNr_I (i32_rng _)) (aNs_t (aNs_t hns)))
theorem v_i2b {E : EN} {mi : MI} {k : Nat} {mem : Mm} {pc : Nat} {al : List (Nat × AV)} {st : List AV} {Q : PQ} {x : Int} (hd : decode mi.2.1 pc = .ok (.i2b, 1)) (h : VM E mi k mem (pc + 1) al (aI (xI2b x) :: st) Q) : VM E mi k mem pc al (aI x :: st) Q := by
  intro p e s m args below meth c H locs ls hx hc hW hS hl hna hns
  exact lv_i2b (x := Int32.ofInt x) (rest := aSt (eB E) st) (v := Int32.ofInt (xI2b x)) hx hc.1 hd (i32_back _) (h p e s m args below meth c H locs ls hx hc hW hS hl hna (aNs_c (aNr_I (i32_rng _)) (aNs_t hns)))
theorem m_getsC {E : EN} {mi : MI} {k : Nat} {mem : Mm} {pc : Nat} {al : List (Nat × AV)} {st : List AV} {Q : PQ} {index : Nat} (hSt : aStr E) (hd : decode mi.2.1 pc = .ok (.getstatic index, 3)) (hlk : Cond.fieldLink mi.1.cls index "java/lang/String" "COMPACT_STRINGS" "Z" ∈ lw_gd) (h : VM E mi k mem (pc + 3) al (aI 1 :: st) Q) : VM E mi k mem pc al st Q := by
  intro p e s m args below meth c H locs ls hx hc hW hS hl hna hns
  have h1 := (hSt s hc.2.2.2.2.2.2.2.2.2.2).2.2.1
  exact va_gets hx hc.1 h1 hS.1 hc.2.2.2.1 (hc.2.2.2.2.1 _ hlk) (fun _ q => q) hd (h p e s m args below meth c H locs ls hx hc hW hS hl hna (aNs_c (aNr_I (by decide)) hns))
theorem m_getsF {E : EN} {mi : MI} {k : Nat} {mem : Mm} {pc : Nat} {al : List (Nat × AV)} {st : List AV} {Q : PQ} {index : Nat} (hSt : aStr E) (hd : decode mi.2.1 pc = .ok (.getstatic index, 3)) (hlk : Cond.fieldLink mi.1.cls index "jdk/internal/util/Preconditions" "SIOOBE_FORMATTER" "Ljava/util/function/BiFunction;" ∈ lw_gd) (h : ∀ a : AV, (a = aR (-1) ∨ ∃ f, a = aF f) → VM E mi k mem (pc + 3) al (a :: st) Q) : VM E mi k mem pc al st Q := by
  intro p e s m args below meth c H locs ls hx hc hW hS hl hna hns
  rcases (hSt s hc.2.2.2.2.2.2.2.2.2.2).2.2.2 with h1 | ⟨f, h1⟩
  · exact va_gets hx hc.1 h1 hS.1 hc.2.2.2.1 (hc.2.2.2.2.1 _ hlk) (fun _ q => q) hd (h (aR (-1)) (Or.inl rfl) p e s m args below meth c H locs ls hx hc hW hS hl hna (aNs_c (aNr_R _) hns))
  · refine va_gets hx hc.1 h1 hS.1 hc.2.2.2.1 (hc.2.2.2.2.1 _ hlk) (fun _ q => q) hd ?_
    have h2 := h (aF f) (Or.inr ⟨_, rfl⟩) p e s m args below meth c H locs ls hx hc hW hS hl hna (aNs_c (aNr_F _) hns)
    rw [show aSt (eB E) (aF (f : Int) :: st) = .ref f :: aSt (eB E) st from by
      show Value.ref ((f : Int).toNat) :: _ = _
      rw [Int.toNat_natCast]] at h2
    exact h2
theorem m_getV {E : EN} {mi : MI} {k : Nat} {mem : Mm} {pc : Nat} {al : List (Nat × AV)} {st : List AV} {Q : PQ} {index i : Nat} (hSt : aStr E) (hi : i < 13) (hd : decode mi.2.1 pc = .ok (.getfield index, 3)) (hlk : Cond.fieldLink mi.1.cls index "java/lang/String" "value" "[B" ∈ lw_gd) (h : VM E mi k mem (pc + 3) al (aF (strV2 E i) :: st) Q) : VM E mi k mem pc al (aF (strA E i) :: st) Q := by
  intro p e s m args below meth c H locs ls hx hc hW hS hl hna hns
  have h1 := ((hSt s hc.2.2.2.2.2.2.2.2.2.2).2.1.1 i hi).2.2.1
  have h2 := h p e s m args below meth c H locs ls hx hc hW hS hl hna (aNs_c (aNr_F _) (aNs_t hns))
  rw [show aSt (eB E) (aF (strV2 E i) :: st) = .ref (strV E i) :: aSt (eB E) st from by
    show Value.ref ((strV E i : Int).toNat) :: _ = _
    rw [Int.toNat_natCast]] at h2
  show W p E.1 e (aRm k 0 0) s m args below meth c H locs 0 0 _ (F0 m pc ls (.ref ((strK E i : Int).toNat) :: aSt (eB E) st))
  rw [Int.toNat_natCast]
  exact vk_getf hx hc.1 h1 hS.1 hc.2.2.2.1 (hc.2.2.2.2.1 _ hlk) (fun _ q => q) hd h2
theorem m_getC {E : EN} {mi : MI} {k : Nat} {mem : Mm} {pc : Nat} {al : List (Nat × AV)} {st : List AV} {Q : PQ} {index i : Nat} (hSt : aStr E) (hi : i < 13) (hd : decode mi.2.1 pc = .ok (.getfield index, 3)) (hlk : Cond.fieldLink mi.1.cls index "java/lang/String" "coder" "B" ∈ lw_gd) (h : VM E mi k mem (pc + 3) al (aI 0 :: st) Q) : VM E mi k mem pc al (aF (strA E i) :: st) Q := by
  intro p e s m args below meth c H locs ls hx hc hW hS hl hna hns
  have h1 := ((hSt s hc.2.2.2.2.2.2.2.2.2.2).2.1.1 i hi).2.1
  show W p E.1 e (aRm k 0 0) s m args below meth c H locs 0 0 _ (F0 m pc ls (.ref ((strK E i : Int).toNat) :: aSt (eB E) st))
  rw [Int.toNat_natCast]
  exact vk_getf hx hc.1 h1 hS.1 hc.2.2.2.1 (hc.2.2.2.2.1 _ hlk) (fun _ q => q) hd (h p e s m args below meth c H locs ls hx hc hW hS hl hna (aNs_c (aNr_I (by decide)) (aNs_t hns)))
def strN (i : Nat) : Nat := strL.getD i 0
def strC (i j : Nat) : Int := ((strBy.getD i []).getD j 0).toInt
theorem strN_lt : ∀ i : Nat, i < 13 → strN i < 100 := by decide +kernel
theorem m_lenS {E : EN} {mi : MI} {k : Nat} {mem : Mm} {pc : Nat} {al : List (Nat × AV)} {st : List AV} {Q : PQ} {i : Nat} (hSt : aStr E) (hi : i < 13) (hd : decode mi.2.1 pc = .ok (.arraylength, 1)) (h : VM E mi k mem (pc + 1) al (aI (strN i) :: st) Q) : VM E mi k mem pc al (aF (strV2 E i) :: st) Q := by
  intro p e s m args below meth c H locs ls hx hc hW hS hl hna hns
  have h1 := ((hSt s hc.2.2.2.2.2.2.2.2.2.2).2.1.1 i hi).2.2.2
  have := strN_lt i hi
  show W p E.1 e (aRm k 0 0) s m args below meth c H locs 0 0 _ (F0 m pc ls (.ref ((strV E i : Int).toNat) :: aSt (eB E) st))
  rw [Int.toNat_natCast]
  exact va_tlen (v := Int32.ofInt (strN i)) hx hc.1 h1 hS.1 (Int32.ofInt_eq_ofNat).symm hd (h p e s m args below meth c H locs ls hx hc hW hS hl hna (aNs_c (aNr_I (by omega)) (aNs_t hns)))
theorem m_baldS {E : EN} {mi : MI} {k : Nat} {mem : Mm} {pc : Nat} {al : List (Nat × AV)} {st : List AV} {Q : PQ} {i : Nat} {j : Int} (hSt : aStr E) (hi : i < 13) (hd : decode mi.2.1 pc = .ok (.baload, 1)) (h0 : 0 ≤ j) (hj : j < strN i) (h : VM E mi k mem (pc + 1) al (aI (strC i j.toNat) :: st) Q) : VM E mi k mem pc al (aI j :: aF (strV2 E i) :: st) Q := by
  intro p e s m args below meth c H locs ls hx hc hW hS hl hna hns
  have h1 := ((hSt s hc.2.2.2.2.2.2.2.2.2.2).2.1.1 i hi).2.2.2
  obtain ⟨q1, q2⟩ := i32_in (n := strN i) (aNs_I hns) h0 hj
  show W p E.1 e (aRm k 0 0) s m args below meth c H locs 0 0 _ (F0 m pc ls (.int (Int32.ofInt j) :: .ref ((strV E i : Int).toNat) :: aSt (eB E) st))
  rw [Int.toNat_natCast]
  refine va_tb (v := .int (Int32.ofInt (strC i j.toNat))) hx hc.1 h1 hS.1 q1 ?_ hd (h p e s m args below meth c H locs ls hx hc hW hS hl hna (aNs_c (aNr_I (i32_rng _)) (aNs_t (aNs_t hns))))
  rw [q2]
  exact congrArg Value.int (i32_back _)
theorem m_retN {E : EN} {mi : MI} {k : Nat} {mem : Mm} {pc : Nat} {al : List (Nat × AV)} {Q : Int → Mm → Prop} {x : Int} {ty : FieldType} (hd : decode mi.2.1 pc = .ok (.ireturn, 1)) (hr : mi.2.2.2 = some ty) (hn : narrow ty (.int (Int32.ofInt x)) = .int (Int32.ofInt x)) (h : Q x mem) : VM E mi k mem pc al [aI x] (retI Q) := by
  intro p e s m args below meth c H locs ls hx hc hW hS hl hna hns
  exact W.zret (v := Int32.ofInt x) hx hc.1 (hc.2.1.trans hr) hn (fun t ht hW2 => ⟨⟨some (aI x), SH, mem, rfl, ⟨rfl, x, rfl, h⟩, by rw [ht]; exact hW, hS.2.1, fun a ha => by cases ha; exact hns _ List.mem_cons_self⟩, hS.1.F ht⟩) hS.1.2.2 hd hc.2.2.2.2.2.1
-- floorMod
theorem CG_ofF {E : EN} {mi : MI} {k C S : Nat} {sh : Sp} {mem : Mm} {av : List AV} {Q : PQ} (hp : plainFor mi.1 = true) (hlen : (lg_sl (aSt (eB E) av)).length ≤ mi.2.2.1) (hn : aNs av) (h : VG E mi k C S sh mem (0, 0) 0 (aArgs 0 av) [] Q) : CG E mi k C S sh mem av Q := by
  unfold CG Met
  refine MetFree.of_bodySF (code := mi.2.1) (maxLocals := mi.2.2.1) (ret := mi.2.2.2) hp ?_ ?_
  · intro args s m h hn
    obtain ⟨meth, c, h1, h2, h3, h4, h5, h6, -, -⟩ := Cond.code_spec hn (atoms_spec (ws := .code mi.1 mi.2.1 mi.2.2.1 mi.2.2.2 :: lw_gd) h _ List.mem_cons_self)
    exact ⟨meth, c, h1, h2, h3, h4, h5, h6⟩
  · intro p e s m args below meth c s₁ B hml hv _
    have hh0 : s₁.heap = s.heap := by rw [B.state]; rfl
    obtain ⟨rfl, hW, hI, hz⟩ := hv
    have hts := atoms_spec (ws := .code mi.1 mi.2.1 mi.2.2.1 mi.2.2.2 :: lw_gd) B.pre
    have hl := lv_entry (aSt (eB E) av) (n := mi.2.2.1) hlen
    have K : W p E.1 e (aRm k C S) s m (aSt (eB E) av).toArray below meth c s.heap [] 0 0 (MQ below (aQx E C Q) (aSt (eB E) av).toArray s C S (fun q => eB E ≤ q)) (entryFrame m (aSt (eB E) av).toArray mi.2.2.1) := by
      rw [lg_entry_eq]
      generalize (lg_sl (aSt (eB E) av) ++ List.replicate (mi.2.2.1 - (lg_sl (aSt (eB E) av)).length) Slot.unset).toArray = ls at hl ⊢
      rw [aArgs_lv] at hl
      exact h p e s m _ below meth c s.heap [] ls B.exec ⟨B.bytes, B.returns, hml, findClass_of_methodNamed B.named, fun w hw => hts w (List.mem_cons_of_mem _ hw), B.notSynchronized, (name_of_methodNamed B.named B.method).1, hI⟩ hW ⟨va_S.rf, hz, by omega⟩ hl (fun q hq => hn _ (aArgs_mem av 0 q hq)) (fun _ hq => by cases hq)
    obtain ⟨t, a1, o, b1, b2, b3⟩ := K s₁ hh0 (Stand.of_body B)
    exact ⟨t, o, a1, b1, b2, ⟨b3.1, b3.2⟩⟩
theorem xor_sgn {x y : Int} (hx : R32 x) (hy : 0 ≤ y ∧ y < 2147483648) : 0 ≤ xXor x y ↔ 0 ≤ x := by
  have h1 : (Int32.ofInt x ^^^ Int32.ofInt y).toInt < 0 ↔ ((Int32.ofInt x).toInt < 0) := by
    rw [show (Int32.ofInt x ^^^ Int32.ofInt y).toInt = ((Int32.ofInt x).toBitVec ^^^ (Int32.ofInt y).toBitVec).toInt from rfl]
    have m1 := @BitVec.msb_eq_toInt 32 ((Int32.ofInt x).toBitVec ^^^ (Int32.ofInt y).toBitVec)
    have m2 := @BitVec.msb_eq_toInt 32 (Int32.ofInt x).toBitVec
    have m3 := @BitVec.msb_eq_toInt 32 (Int32.ofInt y).toBitVec
    have e3 : (Int32.ofInt y).toBitVec.toInt = y := i32_of (by omega)
    rw [e3] at m3
    rw [BitVec.msb_xor, m2, m3] at m1
    have e4 : decide (y < 0) = false := by simp; omega
    rw [e4, Bool.xor_false] at m1
    constructor
    · intro q
      have := m1.symm ▸ (decide_eq_true q)
      exact of_decide_eq_true (m1.trans (decide_eq_true q))
    · intro q
      exact of_decide_eq_true (m1.symm.trans (decide_eq_true q))
  rw [i32_of hx] at h1
  unfold xXor
  omega
theorem s_floorMod {E : EN} {k : Nat} {mem : Mm} {Q : Int → Mm → Prop} {x y : Int} (hx : R32 x) (hy : 0 < y ∧ y < 1073741824) (h : Q (x % y) mem) : CI E mJ9_floorMod_7cf53 k mem [aI x, aI y] Q := by
  have hy2 : R32 y := by omega
  refine CG_ofF (by decide +kernel) (Nat.le_of_ble_eq_true rfl) (aNs_c (aNr_I hx) (aNs_c (aNr_I hy2) (fun _ q => nomatch q))) ?_
  show VM E mJ9_floorMod_7cf53 k mem 0 [(0, aI x), (1, aI y)] [] (retI Q)
  refine v_iload_n (pc := 0) dJ9_floorMod_7cf53_0 0 rfl ?_
  refine v_iload_n (pc := 1) dJ9_floorMod_7cf53_1 1 rfl ?_
  refine v_irem (pc := 2) dJ9_floorMod_7cf53_2 (by omega) ?_
  refine v_istore_n (pc := 3) (al2 := [(2, aI (x.tmod y)), (0, aI x), (1, aI y)]) dJ9_floorMod_7cf53_3 (by decide) rfl ?_
  refine v_iload_n (pc := 4) dJ9_floorMod_7cf53_4 1 rfl ?_
  refine v_iload_n (pc := 5) dJ9_floorMod_7cf53_5 2 rfl ?_
  refine v_ixor (pc := 6) dJ9_floorMod_7cf53_6 ?_
  have hs := xor_sgn hx (y := y) (by omega)
  refine v_ifge (pc := 7) (tgt := 18) dJ9_floorMod_7cf53_7 (by decide) (fun c1 => ?_) (fun c1 => ?_)
  · refine v_iload_n (pc := 18) dJ9_floorMod_7cf53_18 0 rfl ?_
    refine m_retI (pc := 19) dJ9_floorMod_7cf53_19 rfl ?_
    rw [Int.tmod_eq_emod_of_nonneg (by omega)]
    exact h
  · have hx0 : x < 0 := by omega
    have he : x.tmod y = if x % y = 0 then 0 else x % y - y := by
      rw [Int.tmod_eq_emod]
      by_cases q : x % y = 0
      · rw [if_pos (Or.inr (Int.dvd_of_emod_eq_zero q)), if_pos q, q]; omega
      · rw [if_neg (fun z => by rcases z with z | z; · omega
                                · exact q (Int.emod_eq_zero_of_dvd z)), if_neg q]
        omega
    refine v_iload_n (pc := 10) dJ9_floorMod_7cf53_10 0 rfl ?_
    refine v_ifeq (pc := 11) (tgt := 18) dJ9_floorMod_7cf53_11 (by decide) (fun c1 => ?_) (fun c1 => ?_)
    · refine v_iload_n (pc := 18) dJ9_floorMod_7cf53_18 0 rfl ?_
      refine m_retI (pc := 19) dJ9_floorMod_7cf53_19 rfl ?_
      have h1 := Int.emod_nonneg x (show y ≠ 0 by omega)
      have h2 := Int.emod_lt_of_pos x hy.1
      rw [show x.tmod y = x % y by rw [he] at c1 ⊢; split at c1 <;> omega]
      exact h
    · refine v_iload_n (pc := 14) dJ9_floorMod_7cf53_14 0 rfl ?_
      refine v_iload_n (pc := 15) dJ9_floorMod_7cf53_15 2 rfl ?_
      have h1 := Int.emod_nonneg x (show y ≠ 0 by omega)
      have h2 := Int.emod_lt_of_pos x hy.1
      have h3 : x.tmod y + y = x % y := by
        by_cases q : x % y = 0
        · rw [he, if_pos q] at c1; omega
        · rw [he, if_neg q]; omega
      refine m_iadd (pc := 16) dJ9_floorMod_7cf53_16 (by rw [h3]; omega) ?_
      refine m_retI (pc := 17) dJ9_floorMod_7cf53_17 rfl ?_
      rw [h3]
      exact h
theorem str_ok : ∀ i : Fin 13, ∀ j : Fin 100, j.1 < strN i.1 → xI2c (xAnd (strC i.1 j.1) 255) = strC i.1 j.1 ∧ (0 ≤ strC i.1 j.1 ∧ strC i.1 j.1 < 128) ∧ narrow .char (.int (Int32.ofInt (strC i.1 j.1))) = .int (Int32.ofInt (strC i.1 j.1)) := by decide +kernel
theorem str_sh : ∀ i : Fin 13, xShr (strN i.1) 0 = strN i.1 := by decide +kernel
theorem s_isLatin1 {E : EN} {k : Nat} {mem : Mm} {Q : Int → Mm → Prop} {i : Nat} (hSt : aStr E) (hi : i < 13) (h : Q 1 mem) : CI E mJ0_isLatin1_aae02 k mem [aF (strA E i)] Q := by
  refine CI_of rfl (Nat.le_of_ble_eq_true rfl) ?_ (aNs_c (aNr_F _) (fun _ q => nomatch q))
  show VM E mJ0_isLatin1_aae02 k mem 0 [(0, aF (strA E i))] [] (retI Q)
  refine m_getsC (pc := 0) hSt dJ0_isLatin1_aae02_0 fJ0_38 ?_
  refine v_ifeq (pc := 3) (tgt := 17) dJ0_isLatin1_aae02_3 (by decide) (fun c1 => absurd c1 (by decide)) (fun c1 => ?_)
  refine v_aload_nF (pc := 6) dJ0_isLatin1_aae02_6 0 rfl ?_
  refine m_getC (pc := 7) hSt hi dJ0_isLatin1_aae02_7 fJ0_15 ?_
  refine v_ifne (pc := 10) (tgt := 17) dJ0_isLatin1_aae02_10 (by decide) (fun c1 => absurd rfl c1) (fun c1 => ?_)
  refine v_iconst (pc := 13) dJ0_isLatin1_aae02_13 (by decide) ?_
  refine v_goto (pc := 14) (tgt := 18) dJ0_isLatin1_aae02_14 (by decide) ?_
  exact m_retZ (pc := 18) dJ0_isLatin1_aae02_18 rfl (by decide) h
theorem s_coder {E : EN} {k : Nat} {mem : Mm} {Q : Int → Mm → Prop} {i : Nat} (hSt : aStr E) (hi : i < 13) (h : Q 0 mem) : CI E mJ0_coder_7d493 k mem [aF (strA E i)] Q := by
  refine CI_of rfl (Nat.le_of_ble_eq_true rfl) ?_ (aNs_c (aNr_F _) (fun _ q => nomatch q))
  show VM E mJ0_coder_7d493 k mem 0 [(0, aF (strA E i))] [] (retI Q)
  refine m_getsC (pc := 0) hSt dJ0_coder_7d493_0 fJ0_38 ?_
  refine v_ifeq (pc := 3) (tgt := 13) dJ0_coder_7d493_3 (by decide) (fun c1 => absurd c1 (by decide)) (fun c1 => ?_)
  refine v_aload_nF (pc := 6) dJ0_coder_7d493_6 0 rfl ?_
  refine m_getC (pc := 7) hSt hi dJ0_coder_7d493_7 fJ0_15 ?_
  refine v_goto (pc := 10) (tgt := 14) dJ0_coder_7d493_10 (by decide) ?_
  exact m_retN (pc := 14) (ty := .byte) dJ0_coder_7d493_14 rfl rfl h
theorem isSt_of {E : EN} {i : Nat} (hi : i < 13) : isSt E (strA E i) := ⟨i, hi, rfl⟩
theorem s_strLen {E : EN} {k : Nat} {mem : Mm} {Q : Int → Mm → Prop} {i : Nat} (hSt : aStr E) (hi : i < 13) (h : Q (strN i) mem) : CI E mJ0_length_8abf5 (k + 1) mem [aF (strA E i)] Q := by
  refine CI_of rfl (Nat.le_of_ble_eq_true rfl) ?_ (aNs_c (aNr_F _) (fun _ q => nomatch q))
  show VM E mJ0_length_8abf5 (k + 1) mem 0 [(0, aF (strA E i))] [] (retI Q)
  refine v_aload_nF (pc := 0) dJ0_length_8abf5_0 0 rfl ?_
  refine m_getV (pc := 1) hSt hi dJ0_length_8abf5_1 fJ0_9 ?_
  refine m_lenS (pc := 4) hSt hi dJ0_length_8abf5_4 ?_
  refine v_aload_nF (pc := 5) dJ0_length_8abf5_5 0 rfl ?_
  refine m_invFI (pc := 6) (mi' := mJ0_coder_7d493) (rest := [aI (strN i)]) [] hSt (isSt_of hi) dJ0_length_8abf5_6 rfl msJ0_coder_7d493 mvJ0_coder_7d493 lkJ0_335 rfl (Nat.le_of_ble_eq_true rfl) (fun _ => s_coder hSt hi ?_)
  refine v_ishr (pc := 9) dJ0_length_8abf5_9 ?_
  rw [str_sh ⟨i, hi⟩]
  exact m_retI (pc := 10) dJ0_length_8abf5_10 rfl h
theorem s_chk3 {E : EN} {k : Nat} {mem : Mm} {Q : Int → Mm → Prop} {j n : Int} {f : AV} (hf : f = aR (-1) ∨ ∃ x, f = aF x) (h0 : 0 ≤ j) (hj : j < n) (hn : R32 n) (h : Q j mem) : CI E mJ3_checkIndex_8e157 k mem [aI j, aI n, f] Q := by
  rcases hf with rfl | ⟨x, rfl⟩
  · refine CI_of rfl (Nat.le_of_ble_eq_true rfl) ?_ (aNs_c (aNr_I (by omega)) (aNs_c (aNr_I hn) (aNs_c (aNr_R _) (fun _ q => nomatch q))))
    show VM E mJ3_checkIndex_8e157 k mem 0 [(0, aI j), (1, aI n), (2, aR (-1))] [] (retI Q)
    refine v_iload_n (pc := 0) dJ3_checkIndex_8e157_0 0 rfl ?_
    refine v_iflt (pc := 1) (tgt := 9) dJ3_checkIndex_8e157_1 (by decide) (fun c1 => absurd c1 (by omega)) (fun c1 => ?_)
    refine v_iload_n (pc := 4) dJ3_checkIndex_8e157_4 0 rfl ?_
    refine v_iload_n (pc := 5) dJ3_checkIndex_8e157_5 1 rfl ?_
    refine v_icmplt (pc := 6) (tgt := 16) dJ3_checkIndex_8e157_6 (by decide) (fun c1 => ?_) (fun c1 => absurd c1 (by omega))
    refine v_iload_n (pc := 16) dJ3_checkIndex_8e157_16 0 rfl ?_
    exact m_retI (pc := 17) dJ3_checkIndex_8e157_17 rfl h
  · refine CI_of rfl (Nat.le_of_ble_eq_true rfl) ?_ (aNs_c (aNr_I (by omega)) (aNs_c (aNr_I hn) (aNs_c (aNr_F _) (fun _ q => nomatch q))))
    show VM E mJ3_checkIndex_8e157 k mem 0 [(0, aI j), (1, aI n), (2, aF x)] [] (retI Q)
    refine v_iload_n (pc := 0) dJ3_checkIndex_8e157_0 0 rfl ?_
    refine v_iflt (pc := 1) (tgt := 9) dJ3_checkIndex_8e157_1 (by decide) (fun c1 => absurd c1 (by omega)) (fun c1 => ?_)
    refine v_iload_n (pc := 4) dJ3_checkIndex_8e157_4 0 rfl ?_
    refine v_iload_n (pc := 5) dJ3_checkIndex_8e157_5 1 rfl ?_
    refine v_icmplt (pc := 6) (tgt := 16) dJ3_checkIndex_8e157_6 (by decide) (fun c1 => ?_) (fun c1 => absurd c1 (by omega))
    refine v_iload_n (pc := 16) dJ3_checkIndex_8e157_16 0 rfl ?_
    exact m_retI (pc := 17) dJ3_checkIndex_8e157_17 rfl h
theorem s_chk0 {E : EN} {k : Nat} {mem : Mm} {Q : Mm → Prop} {j n : Int} (hSt : aStr E) (h0 : 0 ≤ j) (hj : j < n) (hn : R32 n) (h : Q mem) : CV E mJ0_checkIndex_df160 (k + 1) mem [aI j, aI n] Q := by
  refine CV_of rfl (Nat.le_of_ble_eq_true rfl) ?_ (aNs_c (aNr_I (by omega)) (aNs_c (aNr_I hn) (fun _ q => nomatch q)))
  show VM E mJ0_checkIndex_df160 (k + 1) mem 0 [(0, aI j), (1, aI n)] [] (retV Q)
  refine v_iload_n (pc := 0) dJ0_checkIndex_df160_0 0 rfl ?_
  refine v_iload_n (pc := 1) dJ0_checkIndex_df160_1 1 rfl ?_
  refine m_getsF (pc := 2) hSt dJ0_checkIndex_df160_2 fJ0_1053 (fun f hf => ?_)
  refine m_invSI (pc := 5) (mi' := mJ3_checkIndex_8e157) (rest := []) [aI j, aI n, f] dJ0_checkIndex_df160_5 msJ3_checkIndex_8e157 stJ3_checkIndex_8e157 lkJ0_1059 rfl (Nat.le_of_ble_eq_true rfl) (fun _ => s_chk3 hf h0 hj hn ?_)
  refine v_pop (pc := 8) dJ0_checkIndex_df160_8 rfl ?_
  exact m_retV (pc := 9) dJ0_checkIndex_df160_9 rfl h
theorem s_charAt1 {E : EN} {k : Nat} {mem : Mm} {Q : Int → Mm → Prop} {i : Nat} {j : Int} (hSt : aStr E) (hi : i < 13) (h0 : 0 ≤ j) (hj : j < strN i) (h : Q (strC i j.toNat) mem) : CI E mJ1_charAt_3b067 (k + 2) mem [aF (strV2 E i), aI j] Q := by
  have hlt := strN_lt i hi
  have hj3 : R32 j := by omega
  have hok := str_ok ⟨i, hi⟩ ⟨j.toNat, by omega⟩ (by show j.toNat < strN i; omega)
  refine CI_of rfl (Nat.le_of_ble_eq_true rfl) ?_ (aNs_c (aNr_F _) (aNs_c (aNr_I hj3) (fun _ q => nomatch q)))
  show VM E mJ1_charAt_3b067 (k + 2) mem 0 [(0, aF (strV2 E i)), (1, aI j)] [] (retI Q)
  refine v_iload_n (pc := 0) dJ1_charAt_3b067_0 1 rfl ?_
  refine v_aload_nF (pc := 1) dJ1_charAt_3b067_1 0 rfl ?_
  refine m_lenS (pc := 2) hSt hi dJ1_charAt_3b067_2 ?_
  refine m_invSV (pc := 3) (mi' := mJ0_checkIndex_df160) (rest := []) [aI j, aI (strN i)] dJ1_charAt_3b067_3 msJ0_checkIndex_df160 stJ0_checkIndex_df160 lkJ1_9 rfl (Nat.le_of_ble_eq_true rfl) (fun _ => s_chk0 hSt h0 hj (by omega) ?_)
  refine v_aload_nF (pc := 6) dJ1_charAt_3b067_6 0 rfl ?_
  refine v_iload_n (pc := 7) dJ1_charAt_3b067_7 1 rfl ?_
  refine m_baldS (pc := 8) hSt hi dJ1_charAt_3b067_8 h0 hj ?_
  refine v_sipush (pc := 9) dJ1_charAt_3b067_9 (by decide) ?_
  refine v_iand (pc := 12) dJ1_charAt_3b067_12 ?_
  refine v_i2c (pc := 13) dJ1_charAt_3b067_13 ?_
  rw [hok.1]
  exact m_retN (pc := 14) (ty := .char) dJ1_charAt_3b067_14 rfl hok.2.2 h
theorem s_charAt {E : EN} {k : Nat} {mem : Mm} {Q : Int → Mm → Prop} {i : Nat} {j : Int} (hSt : aStr E) (hi : i < 13) (h0 : 0 ≤ j) (hj : j < strN i) (h : Q (strC i j.toNat) mem) : CI E mJ0_charAt_5068e (k + 3) mem [aF (strA E i), aI j] Q := by
  have hlt := strN_lt i hi
  have hj3 : R32 j := by omega
  have hok := str_ok ⟨i, hi⟩ ⟨j.toNat, by omega⟩ (by show j.toNat < strN i; omega)
  refine CI_of rfl (Nat.le_of_ble_eq_true rfl) ?_ (aNs_c (aNr_F _) (aNs_c (aNr_I hj3) (fun _ q => nomatch q)))
  show VM E mJ0_charAt_5068e (k + 3) mem 0 [(0, aF (strA E i)), (1, aI j)] [] (retI Q)
  refine v_aload_nF (pc := 0) dJ0_charAt_5068e_0 0 rfl ?_
  refine m_invFI (pc := 1) (mi' := mJ0_isLatin1_aae02) (rest := []) [] hSt (isSt_of hi) dJ0_charAt_5068e_1 rfl msJ0_isLatin1_aae02 mvJ0_isLatin1_aae02 lkJ0_492 rfl (Nat.le_of_ble_eq_true rfl) (fun _ => s_isLatin1 hSt hi ?_)
  refine v_ifeq (pc := 4) (tgt := 16) dJ0_charAt_5068e_4 (by decide) (fun c1 => absurd c1 (by decide)) (fun c1 => ?_)
  refine v_aload_nF (pc := 7) dJ0_charAt_5068e_7 0 rfl ?_
  refine m_getV (pc := 8) hSt hi dJ0_charAt_5068e_8 fJ0_9 ?_
  refine v_iload_n (pc := 11) dJ0_charAt_5068e_11 1 rfl ?_
  refine m_invSI (pc := 12) (mi' := mJ1_charAt_3b067) (rest := []) [aF (strV2 E i), aI j] dJ0_charAt_5068e_12 msJ1_charAt_3b067 stJ1_charAt_3b067 lkJ0_495 rfl (Nat.le_of_ble_eq_true rfl) (fun _ => s_charAt1 hSt hi h0 hj ?_)
  exact m_retN (pc := 15) (ty := .char) dJ0_charAt_5068e_15 rfl hok.2.2 h
-- indexOf
def ixOf (i : Nat) (c r : Int) : Prop := (r = -1 ∧ ∀ j : Nat, j < strN i → ¬ strC i j = xI2b c) ∨ ∃ j : Nat, j < strN i ∧ r = j ∧ strC i j = xI2b c
theorem s_canEnc {E : EN} {k : Nat} {mem : Mm} {Q : Int → Mm → Prop} {c : Int} (h0 : 0 ≤ c) (hc : c ≤ 255) (h : Q 1 mem) : CI E mJ1_canEncode_9a6ad k mem [aI c] Q := by
  refine CI_of rfl (Nat.le_of_ble_eq_true rfl) ?_ (aNs_c (aNr_I (by omega)) (fun _ q => nomatch q))
  show VM E mJ1_canEncode_9a6ad k mem 0 [(0, aI c)] [] (retI Q)
  refine v_iload_n (pc := 0) dJ1_canEncode_9a6ad_0 0 rfl ?_
  refine v_iflt (pc := 1) (tgt := 15) dJ1_canEncode_9a6ad_1 (by decide) (fun c1 => absurd c1 (by omega)) (fun c1 => ?_)
  refine v_iload_n (pc := 4) dJ1_canEncode_9a6ad_4 0 rfl ?_
  refine v_sipush (pc := 5) dJ1_canEncode_9a6ad_5 (by decide) ?_
  refine v_icmpgt (pc := 8) (tgt := 15) dJ1_canEncode_9a6ad_8 (by decide) (fun c1 => absurd c1 (by omega)) (fun c1 => ?_)
  refine v_iconst (pc := 11) dJ1_canEncode_9a6ad_11 (by decide) ?_
  refine v_goto (pc := 12) (tgt := 16) dJ1_canEncode_9a6ad_12 (by decide) ?_
  exact m_retZ (pc := 16) dJ1_canEncode_9a6ad_16 rfl (by decide) h
theorem s_ixChar {E : EN} {k : Nat} {mem : Mm} {Q : Int → Mm → Prop} {i : Nat} {c : Int} (hSt : aStr E) (hi : i < 13) (h0 : 0 ≤ c) (hc : c ≤ 255) (h : ∀ r, ixOf i c r → Q r mem) : CI E mJ1_indexOfChar_4cfef k mem [aF (strV2 E i), aI c, aI 0, aI (strN i)] Q := by
  have hlt := strN_lt i hi
  refine CI_of rfl (Nat.le_of_ble_eq_true rfl) ?_ (aNs_c (aNr_F _) (aNs_c (aNr_I (by omega)) (aNs_c (aNr_I (by decide)) (aNs_c (aNr_I (by omega)) (fun _ q => nomatch q)))))
  show VM E mJ1_indexOfChar_4cfef k mem 0 [(0, aF (strV2 E i)), (1, aI c), (2, aI 0), (3, aI (strN i))] [] (retI Q)
  refine v_iload_n (pc := 0) dJ1_indexOfChar_4cfef_0 1 rfl ?_
  refine v_i2b (pc := 1) dJ1_indexOfChar_4cfef_1 ?_
  refine v_istore (pc := 2) (al2 := [(4, aI (xI2b c)), (0, aF (strV2 E i)), (1, aI c), (2, aI 0), (3, aI (strN i))]) dJ1_indexOfChar_4cfef_2 (by decide) rfl ?_
  refine v_iload_n (pc := 4) dJ1_indexOfChar_4cfef_4 3 rfl ?_
  refine v_istore (pc := 5) (al2 := [(5, aI 0), (4, aI (xI2b c)), (0, aF (strV2 E i)), (1, aI c), (2, aI 0), (3, aI (strN i))]) dJ1_indexOfChar_4cfef_5 (by decide) rfl ?_
  have loop : ∀ n : Nat, ∀ j : Nat, j + n = strN i → (∀ j2 : Nat, j2 < j → ¬ strC i j2 = xI2b c) → VM E mJ1_indexOfChar_4cfef k mem 7 [(5, aI j), (4, aI (xI2b c)), (0, aF (strV2 E i)), (1, aI c), (2, aI 0), (3, aI (strN i))] [] (retI Q) := by
    intro n
    induction n with
    | zero =>
      intro j hj hno
      refine v_iload (pc := 7) dJ1_indexOfChar_4cfef_7 0 rfl ?_
      refine v_iload_n (pc := 9) dJ1_indexOfChar_4cfef_9 5 rfl ?_
      refine v_icmpge (pc := 10) (tgt := 31) dJ1_indexOfChar_4cfef_10 (by decide) (fun c1 => ?_) (fun c1 => absurd c1 (by omega))
      refine v_iconst (pc := 31) dJ1_indexOfChar_4cfef_31 (by decide) ?_
      exact m_retI (pc := 32) dJ1_indexOfChar_4cfef_32 rfl (h _ (Or.inl ⟨rfl, fun j2 h2 => hno j2 (by omega)⟩))
    | succ n ih =>
      intro j hj hno
      refine v_iload (pc := 7) dJ1_indexOfChar_4cfef_7 0 rfl ?_
      refine v_iload_n (pc := 9) dJ1_indexOfChar_4cfef_9 5 rfl ?_
      refine v_icmpge (pc := 10) (tgt := 31) dJ1_indexOfChar_4cfef_10 (by decide) (fun c1 => absurd c1 (by omega)) (fun c1 => ?_)
      refine v_aload_nF (pc := 13) dJ1_indexOfChar_4cfef_13 2 rfl ?_
      refine v_iload (pc := 14) dJ1_indexOfChar_4cfef_14 0 rfl ?_
      refine m_baldS (pc := 16) hSt hi dJ1_indexOfChar_4cfef_16 (by omega) c1 ?_
      rw [Int.toNat_natCast]
      refine v_iload (pc := 17) dJ1_indexOfChar_4cfef_17 1 rfl ?_
      refine v_icmpne (pc := 19) (tgt := 25) dJ1_indexOfChar_4cfef_19 (by decide) (fun c2 => ?_) (fun c2 => ?_)
      · refine m_iinc (pc := 25) (al2 := [(5, aI (j + 1)), (4, aI (xI2b c)), (0, aF (strV2 E i)), (1, aI c), (2, aI 0), (3, aI (strN i))]) dJ1_indexOfChar_4cfef_25 0 rfl (by decide) (by omega) rfl ?_
        refine v_goto (pc := 28) (tgt := 7) dJ1_indexOfChar_4cfef_28 (by decide) ?_
        refine ih (j + 1) (by omega) (fun j2 h2 => ?_)
        rcases (show j2 < j ∨ j2 = j by omega) with q | q
        · exact hno j2 q
        · rw [q]; exact c2
      · refine v_iload (pc := 22) dJ1_indexOfChar_4cfef_22 0 rfl ?_
        exact m_retI (pc := 24) dJ1_indexOfChar_4cfef_24 rfl (h _ (Or.inr ⟨j, by omega, rfl, c2⟩))
  exact loop (strN i) 0 (by omega) (fun j2 h2 => absurd h2 (by omega))
theorem str_pos : ∀ i : Fin 13, 0 < strN i.1 := by decide +kernel
theorem s_ixOf1 {E : EN} {k : Nat} {mem : Mm} {Q : Int → Mm → Prop} {i : Nat} {c : Int} (hSt : aStr E) (hi : i < 13) (h0 : 0 ≤ c) (hc : c ≤ 255) (h : ∀ r, ixOf i c r → Q r mem) : CI E mJ1_indexOf_4cfef (k + 1) mem [aF (strV2 E i), aI c, aI 0, aI (strN i)] Q := by
  have hlt := strN_lt i hi
  have hps : 0 < strN i := str_pos ⟨i, hi⟩
  refine CI_of rfl (Nat.le_of_ble_eq_true rfl) ?_ (aNs_c (aNr_F _) (aNs_c (aNr_I (by omega)) (aNs_c (aNr_I (by decide)) (aNs_c (aNr_I (by omega)) (fun _ q => nomatch q)))))
  show VM E mJ1_indexOf_4cfef (k + 1) mem 0 [(0, aF (strV2 E i)), (1, aI c), (2, aI 0), (3, aI (strN i))] [] (retI Q)
  refine v_iload_n (pc := 0) dJ1_indexOf_4cfef_0 1 rfl ?_
  refine m_invSI (pc := 1) (mi' := mJ1_canEncode_9a6ad) (rest := []) [aI c] dJ1_indexOf_4cfef_1 msJ1_canEncode_9a6ad stJ1_canEncode_9a6ad lkJ1_88 rfl (Nat.le_of_ble_eq_true rfl) (fun _ => s_canEnc h0 hc ?_)
  refine v_ifne (pc := 4) (tgt := 9) dJ1_indexOf_4cfef_4 (by decide) (fun c1 => ?_) (fun c1 => absurd c1 (by decide))
  refine v_iload_n (pc := 9) dJ1_indexOf_4cfef_9 2 rfl ?_
  refine v_iconst (pc := 10) dJ1_indexOf_4cfef_10 (by decide) ?_
  refine m_mmax (pc := 11) dJ1_indexOf_4cfef_11 lmJ1_92 sM_max iM cM_max (Nat.le_of_ble_eq_true rfl) ?_
  rw [show max (0 : Int) 0 = 0 from rfl]
  refine v_istore_n (pc := 14) (al2 := [(2, aI 0), (0, aF (strV2 E i)), (1, aI c), (3, aI (strN i))]) dJ1_indexOf_4cfef_14 (by decide) rfl ?_
  refine v_iload_n (pc := 15) dJ1_indexOf_4cfef_15 3 rfl ?_
  refine v_aload_nF (pc := 16) dJ1_indexOf_4cfef_16 1 rfl ?_
  refine m_lenS (pc := 17) hSt hi dJ1_indexOf_4cfef_17 ?_
  refine m_mmin (pc := 18) dJ1_indexOf_4cfef_18 lmJ1_38 sM_min iM cM_min (Nat.le_of_ble_eq_true rfl) ?_
  rw [show min (strN i : Int) (strN i) = strN i by omega]
  refine v_istore_n (pc := 21) (al2 := [(3, aI (strN i)), (2, aI 0), (0, aF (strV2 E i)), (1, aI c)]) dJ1_indexOf_4cfef_21 (by decide) rfl ?_
  refine v_iload_n (pc := 22) dJ1_indexOf_4cfef_22 1 rfl ?_
  refine v_iload_n (pc := 23) dJ1_indexOf_4cfef_23 0 rfl ?_
  refine v_icmplt (pc := 24) (tgt := 29) dJ1_indexOf_4cfef_24 (by decide) (fun c1 => ?_) (fun c1 => absurd c1 (by omega))
  refine v_aload_nF (pc := 29) dJ1_indexOf_4cfef_29 2 rfl ?_
  refine v_iload_n (pc := 30) dJ1_indexOf_4cfef_30 3 rfl ?_
  refine v_iload_n (pc := 31) dJ1_indexOf_4cfef_31 1 rfl ?_
  refine v_iload_n (pc := 32) dJ1_indexOf_4cfef_32 0 rfl ?_
  refine m_invSI (pc := 33) (mi' := mJ1_indexOfChar_4cfef) (rest := []) [aF (strV2 E i), aI c, aI 0, aI (strN i)] dJ1_indexOf_4cfef_33 msJ1_indexOfChar_4cfef stJ1_indexOfChar_4cfef lkJ1_95 rfl (Nat.le_of_ble_eq_true rfl) (fun _ => s_ixChar hSt hi h0 hc (fun r hr => ?_))
  exact m_retI (pc := 36) dJ1_indexOf_4cfef_36 rfl (h r hr)
theorem s_ixOf2 {E : EN} {k : Nat} {mem : Mm} {Q : Int → Mm → Prop} {i : Nat} {c : Int} (hSt : aStr E) (hi : i < 13) (h0 : 0 ≤ c) (hc : c ≤ 255) (h : ∀ r, ixOf i c r → Q r mem) : CI E mJ0_indexOf_7cf53 (k + 2) mem [aF (strA E i), aI c, aI 0] Q := by
  refine CI_of rfl (Nat.le_of_ble_eq_true rfl) ?_ (aNs_c (aNr_F _) (aNs_c (aNr_I (by omega)) (aNs_c (aNr_I (by decide)) (fun _ q => nomatch q))))
  show VM E mJ0_indexOf_7cf53 (k + 2) mem 0 [(0, aF (strA E i)), (1, aI c), (2, aI 0)] [] (retI Q)
  refine v_aload_nF (pc := 0) dJ0_indexOf_7cf53_0 0 rfl ?_
  refine m_invFI (pc := 1) (mi' := mJ0_isLatin1_aae02) (rest := []) [] hSt (isSt_of hi) dJ0_indexOf_7cf53_1 rfl msJ0_isLatin1_aae02 mvJ0_isLatin1_aae02 lkJ0_492 rfl (Nat.le_of_ble_eq_true rfl) (fun _ => s_isLatin1 hSt hi ?_)
  refine v_ifeq (pc := 4) (tgt := 23) dJ0_indexOf_7cf53_4 (by decide) (fun c1 => absurd c1 (by decide)) (fun c1 => ?_)
  refine v_aload_nF (pc := 7) dJ0_indexOf_7cf53_7 0 rfl ?_
  refine m_getV (pc := 8) hSt hi dJ0_indexOf_7cf53_8 fJ0_9 ?_
  refine v_iload_n (pc := 11) dJ0_indexOf_7cf53_11 1 rfl ?_
  refine v_iload_n (pc := 12) dJ0_indexOf_7cf53_12 2 rfl ?_
  refine v_aload_nF (pc := 13) dJ0_indexOf_7cf53_13 0 rfl ?_
  refine m_invFI (pc := 14) (mi' := mJ0_length_8abf5) (rest := [aI 0, aI c, aF (strV2 E i)]) [] hSt (isSt_of hi) dJ0_indexOf_7cf53_14 rfl msJ0_length_8abf5 mvJ0_length_8abf5 lkJ0_505 rfl (Nat.le_of_ble_eq_true rfl) (fun _ => s_strLen hSt hi ?_)
  refine m_invSI (pc := 17) (mi' := mJ1_indexOf_4cfef) (rest := []) [aF (strV2 E i), aI c, aI 0, aI (strN i)] dJ0_indexOf_7cf53_17 msJ1_indexOf_4cfef stJ1_indexOf_4cfef lkJ0_637 rfl (Nat.le_of_ble_eq_true rfl) (fun _ => s_ixOf1 hSt hi h0 hc (fun r hr => ?_))
  refine v_goto (pc := 20) (tgt := 36) dJ0_indexOf_7cf53_20 (by decide) ?_
  exact m_retI (pc := 36) dJ0_indexOf_7cf53_36 rfl (h r hr)
theorem s_indexOf {E : EN} {k : Nat} {mem : Mm} {Q : Int → Mm → Prop} {i : Nat} {c : Int} (hSt : aStr E) (hi : i < 13) (h0 : 0 ≤ c) (hc : c ≤ 255) (h : ∀ r, ixOf i c r → Q r mem) : CI E mJ0_indexOf_0f7a4 (k + 3) mem [aF (strA E i), aI c] Q := by
  refine CI_of rfl (Nat.le_of_ble_eq_true rfl) ?_ (aNs_c (aNr_F _) (aNs_c (aNr_I (by omega)) (fun _ q => nomatch q)))
  show VM E mJ0_indexOf_0f7a4 (k + 3) mem 0 [(0, aF (strA E i)), (1, aI c)] [] (retI Q)
  refine v_aload_nF (pc := 0) dJ0_indexOf_0f7a4_0 0 rfl ?_
  refine v_iload_n (pc := 1) dJ0_indexOf_0f7a4_1 1 rfl ?_
  refine v_iconst (pc := 2) dJ0_indexOf_0f7a4_2 (by decide) ?_
  refine m_invFI (pc := 3) (mi' := mJ0_indexOf_7cf53) (rest := []) [aI c, aI 0] hSt (isSt_of hi) dJ0_indexOf_0f7a4_3 rfl msJ0_indexOf_7cf53 mvJ0_indexOf_7cf53 lkJ0_633 rfl (Nat.le_of_ble_eq_true rfl) (fun _ => s_ixOf2 hSt hi h0 hc (fun r hr => ?_))
  exact m_retI (pc := 6) dJ0_indexOf_0f7a4_6 rfl (h r hr)

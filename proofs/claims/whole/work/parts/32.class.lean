theorem zy_T_numberBytesAt : zy y_T_numberBytesAt b_T_numberBytesAt 2 (some .int) 1 := ⟨zmem 530 (by decide +kernel) (by decide +kernel), zmem 63 (by decide +kernel) (by decide +kernel), by decide +kernel⟩
theorem zv_T_numberBytesAt : Cond.instanceMethod y_T_numberBytesAt ∈ ztb ∧ Cond.selects y_T_numberBytesAt.cls y_T_numberBytesAt y_T_numberBytesAt ∈ ztb := ⟨zmem 528 (by decide +kernel) (by decide +kernel), zmem 529 (by decide +kernel) (by decide +kernel)⟩
theorem d_T_numberBytesAt_0 : decode b_T_numberBytesAt 0 = .ok (.iconst 1, 1) := by decide +kernel
theorem d_T_numberBytesAt_1 : decode b_T_numberBytesAt 1 = .ok (.aload_n 0, 1) := by decide +kernel
theorem d_T_numberBytesAt_2 : decode b_T_numberBytesAt 2 = .ok (.iload_n 1, 1) := by decide +kernel
theorem d_T_numberBytesAt_3 : decode b_T_numberBytesAt 3 = .ok (.invokevirtual 15, 3) := by decide +kernel
theorem d_T_numberBytesAt_6 : decode b_T_numberBytesAt 6 = .ok (.bipush 6, 2) := by decide +kernel
theorem d_T_numberBytesAt_8 : decode b_T_numberBytesAt 8 = .ok (.ishr, 1) := by decide +kernel
theorem d_T_numberBytesAt_9 : decode b_T_numberBytesAt 9 = .ok (.ishl, 1) := by decide +kernel
theorem d_T_numberBytesAt_10 : decode b_T_numberBytesAt 10 = .ok (.ireturn, 1) := by decide +kernel
theorem zy_T_wordAt : zy y_T_wordAt b_T_wordAt 6 (some .long) 2 := ⟨zmem 539 (by decide +kernel) (by decide +kernel), zmem 63 (by decide +kernel) (by decide +kernel), by decide +kernel⟩
theorem zv_T_wordAt : Cond.instanceMethod y_T_wordAt ∈ ztb ∧ Cond.selects y_T_wordAt.cls y_T_wordAt y_T_wordAt ∈ ztb := ⟨zmem 537 (by decide +kernel) (by decide +kernel), zmem 538 (by decide +kernel) (by decide +kernel)⟩
theorem d_T_wordAt_0 : decode b_T_wordAt 0 = .ok (.lconst 0, 1) := by decide +kernel
theorem d_T_wordAt_1 : decode b_T_wordAt 1 = .ok (.lstore_n 3, 1) := by decide +kernel
theorem d_T_wordAt_2 : decode b_T_wordAt 2 = .ok (.iload_n 1, 1) := by decide +kernel
theorem d_T_wordAt_3 : decode b_T_wordAt 3 = .ok (.istore 5, 2) := by decide +kernel
theorem d_T_wordAt_5 : decode b_T_wordAt 5 = .ok (.iload 5, 2) := by decide +kernel
theorem d_T_wordAt_7 : decode b_T_wordAt 7 = .ok (.iload_n 1, 1) := by decide +kernel
theorem d_T_wordAt_8 : decode b_T_wordAt 8 = .ok (.iload_n 2, 1) := by decide +kernel
theorem d_T_wordAt_9 : decode b_T_wordAt 9 = .ok (.iadd, 1) := by decide +kernel
theorem d_T_wordAt_10 : decode b_T_wordAt 10 = .ok (.if_icmp .ge 46, 3) := by decide +kernel
theorem d_T_wordAt_13 : decode b_T_wordAt 13 = .ok (.lload_n 3, 1) := by decide +kernel
theorem d_T_wordAt_14 : decode b_T_wordAt 14 = .ok (.bipush 8, 2) := by decide +kernel
theorem d_T_wordAt_16 : decode b_T_wordAt 16 = .ok (.lshl, 1) := by decide +kernel
theorem d_T_wordAt_17 : decode b_T_wordAt 17 = .ok (.iload 5, 2) := by decide +kernel
theorem d_T_wordAt_19 : decode b_T_wordAt 19 = .ok (.ifCond .lt 27, 3) := by decide +kernel
theorem d_T_wordAt_22 : decode b_T_wordAt 22 = .ok (.iload 5, 2) := by decide +kernel
theorem d_T_wordAt_24 : decode b_T_wordAt 24 = .ok (.aload_n 0, 1) := by decide +kernel
theorem d_T_wordAt_25 : decode b_T_wordAt 25 = .ok (.getfield 9, 3) := by decide +kernel
theorem d_T_wordAt_28 : decode b_T_wordAt 28 = .ok (.arraylength, 1) := by decide +kernel
theorem d_T_wordAt_29 : decode b_T_wordAt 29 = .ok (.if_icmp .ge 17, 3) := by decide +kernel
theorem d_T_wordAt_32 : decode b_T_wordAt 32 = .ok (.aload_n 0, 1) := by decide +kernel
theorem d_T_wordAt_33 : decode b_T_wordAt 33 = .ok (.getfield 9, 3) := by decide +kernel
theorem d_T_wordAt_36 : decode b_T_wordAt 36 = .ok (.iload 5, 2) := by decide +kernel
theorem d_T_wordAt_38 : decode b_T_wordAt 38 = .ok (.baload, 1) := by decide +kernel
theorem d_T_wordAt_39 : decode b_T_wordAt 39 = .ok (.sipush 255, 3) := by decide +kernel
theorem d_T_wordAt_42 : decode b_T_wordAt 42 = .ok (.iand, 1) := by decide +kernel
theorem d_T_wordAt_43 : decode b_T_wordAt 43 = .ok (.goto 4, 3) := by decide +kernel
theorem d_T_wordAt_46 : decode b_T_wordAt 46 = .ok (.iconst 0, 1) := by decide +kernel
theorem d_T_wordAt_47 : decode b_T_wordAt 47 = .ok (.i2l, 1) := by decide +kernel
theorem d_T_wordAt_48 : decode b_T_wordAt 48 = .ok (.lor, 1) := by decide +kernel
theorem d_T_wordAt_49 : decode b_T_wordAt 49 = .ok (.lstore_n 3, 1) := by decide +kernel
theorem d_T_wordAt_50 : decode b_T_wordAt 50 = .ok (.iinc 5 1, 3) := by decide +kernel
theorem d_T_wordAt_53 : decode b_T_wordAt 53 = .ok (.goto (-48), 3) := by decide +kernel
theorem d_T_wordAt_56 : decode b_T_wordAt 56 = .ok (.lload_n 3, 1) := by decide +kernel
theorem d_T_wordAt_57 : decode b_T_wordAt 57 = .ok (.lreturn, 1) := by decide +kernel
theorem zy_T_startWriting : zy y_T_startWriting b_T_startWriting 1 none 0 := ⟨zmem 410 (by decide +kernel) (by decide +kernel), zmem 63 (by decide +kernel) (by decide +kernel), by decide +kernel⟩
theorem zv_T_startWriting : Cond.instanceMethod y_T_startWriting ∈ ztb ∧ Cond.selects y_T_startWriting.cls y_T_startWriting y_T_startWriting ∈ ztb := ⟨zmem 408 (by decide +kernel) (by decide +kernel), zmem 409 (by decide +kernel) (by decide +kernel)⟩
theorem d_T_startWriting_0 : decode b_T_startWriting 0 = .ok (.aload_n 0, 1) := by decide +kernel
theorem d_T_startWriting_1 : decode b_T_startWriting 1 = .ok (.aload_n 0, 1) := by decide +kernel
theorem d_T_startWriting_2 : decode b_T_startWriting 2 = .ok (.getfield 23, 3) := by decide +kernel
theorem d_T_startWriting_5 : decode b_T_startWriting 5 = .ok (.putfield 27, 3) := by decide +kernel
theorem d_T_startWriting_8 : decode b_T_startWriting 8 = .ok (.return_, 1) := by decide +kernel
theorem zy_T_endWriting : zy y_T_endWriting b_T_endWriting 1 (some .boolean) 0 := ⟨zmem 435 (by decide +kernel) (by decide +kernel), zmem 63 (by decide +kernel) (by decide +kernel), by decide +kernel⟩
theorem zv_T_endWriting : Cond.instanceMethod y_T_endWriting ∈ ztb ∧ Cond.selects y_T_endWriting.cls y_T_endWriting y_T_endWriting ∈ ztb := ⟨zmem 433 (by decide +kernel) (by decide +kernel), zmem 434 (by decide +kernel) (by decide +kernel)⟩
theorem d_T_endWriting_0 : decode b_T_endWriting 0 = .ok (.aload_n 0, 1) := by decide +kernel
theorem d_T_endWriting_1 : decode b_T_endWriting 1 = .ok (.getfield 27, 3) := by decide +kernel
theorem d_T_endWriting_4 : decode b_T_endWriting 4 = .ok (.ldc 30, 2) := by decide +kernel
theorem d_T_endWriting_6 : decode b_T_endWriting 6 = .ok (.if_icmp .le 5, 3) := by decide +kernel
theorem d_T_endWriting_9 : decode b_T_endWriting 9 = .ok (.iconst 0, 1) := by decide +kernel
theorem d_T_endWriting_10 : decode b_T_endWriting 10 = .ok (.ireturn, 1) := by decide +kernel
theorem d_T_endWriting_11 : decode b_T_endWriting 11 = .ok (.aload_n 0, 1) := by decide +kernel
theorem d_T_endWriting_12 : decode b_T_endWriting 12 = .ok (.aload_n 0, 1) := by decide +kernel
theorem d_T_endWriting_13 : decode b_T_endWriting 13 = .ok (.getfield 27, 3) := by decide +kernel
theorem d_T_endWriting_16 : decode b_T_endWriting 16 = .ok (.putfield 23, 3) := by decide +kernel
theorem d_T_endWriting_19 : decode b_T_endWriting 19 = .ok (.iconst 1, 1) := by decide +kernel
theorem d_T_endWriting_20 : decode b_T_endWriting 20 = .ok (.ireturn, 1) := by decide +kernel
theorem zy_In_bitCount : zy y_In_bitCount b_In_bitCount 1 (some .int) 1 := ⟨zmem 902 (by decide +kernel) (by decide +kernel), zmem 80 (by decide +kernel) (by decide +kernel), by decide +kernel⟩
theorem zv_In_bitCount : Cond.static y_In_bitCount ∈ ztb := zmem 901 (by decide +kernel) (by decide +kernel)
theorem d_In_bitCount_0 : decode b_In_bitCount 0 = .ok (.iload_n 0, 1) := by decide +kernel
theorem d_In_bitCount_1 : decode b_In_bitCount 1 = .ok (.iload_n 0, 1) := by decide +kernel
theorem d_In_bitCount_2 : decode b_In_bitCount 2 = .ok (.iconst 1, 1) := by decide +kernel
theorem d_In_bitCount_3 : decode b_In_bitCount 3 = .ok (.iushr, 1) := by decide +kernel
theorem d_In_bitCount_4 : decode b_In_bitCount 4 = .ok (.ldc_w 265, 3) := by decide +kernel
theorem d_In_bitCount_7 : decode b_In_bitCount 7 = .ok (.iand, 1) := by decide +kernel
theorem d_In_bitCount_8 : decode b_In_bitCount 8 = .ok (.isub, 1) := by decide +kernel
theorem d_In_bitCount_9 : decode b_In_bitCount 9 = .ok (.istore_n 0, 1) := by decide +kernel
theorem d_In_bitCount_10 : decode b_In_bitCount 10 = .ok (.iload_n 0, 1) := by decide +kernel
theorem d_In_bitCount_11 : decode b_In_bitCount 11 = .ok (.ldc_w 266, 3) := by decide +kernel
theorem d_In_bitCount_14 : decode b_In_bitCount 14 = .ok (.iand, 1) := by decide +kernel
theorem d_In_bitCount_15 : decode b_In_bitCount 15 = .ok (.iload_n 0, 1) := by decide +kernel
theorem d_In_bitCount_16 : decode b_In_bitCount 16 = .ok (.iconst 2, 1) := by decide +kernel
theorem d_In_bitCount_17 : decode b_In_bitCount 17 = .ok (.iushr, 1) := by decide +kernel
theorem d_In_bitCount_18 : decode b_In_bitCount 18 = .ok (.ldc_w 266, 3) := by decide +kernel
theorem d_In_bitCount_21 : decode b_In_bitCount 21 = .ok (.iand, 1) := by decide +kernel
theorem d_In_bitCount_22 : decode b_In_bitCount 22 = .ok (.iadd, 1) := by decide +kernel
theorem d_In_bitCount_23 : decode b_In_bitCount 23 = .ok (.istore_n 0, 1) := by decide +kernel
theorem d_In_bitCount_24 : decode b_In_bitCount 24 = .ok (.iload_n 0, 1) := by decide +kernel
theorem d_In_bitCount_25 : decode b_In_bitCount 25 = .ok (.iload_n 0, 1) := by decide +kernel
theorem d_In_bitCount_26 : decode b_In_bitCount 26 = .ok (.iconst 4, 1) := by decide +kernel
theorem d_In_bitCount_27 : decode b_In_bitCount 27 = .ok (.iushr, 1) := by decide +kernel
theorem d_In_bitCount_28 : decode b_In_bitCount 28 = .ok (.iadd, 1) := by decide +kernel
theorem d_In_bitCount_29 : decode b_In_bitCount 29 = .ok (.ldc_w 267, 3) := by decide +kernel
theorem d_In_bitCount_32 : decode b_In_bitCount 32 = .ok (.iand, 1) := by decide +kernel
theorem d_In_bitCount_33 : decode b_In_bitCount 33 = .ok (.istore_n 0, 1) := by decide +kernel
theorem d_In_bitCount_34 : decode b_In_bitCount 34 = .ok (.iload_n 0, 1) := by decide +kernel
theorem d_In_bitCount_35 : decode b_In_bitCount 35 = .ok (.iload_n 0, 1) := by decide +kernel
theorem d_In_bitCount_36 : decode b_In_bitCount 36 = .ok (.bipush 8, 2) := by decide +kernel
theorem d_In_bitCount_38 : decode b_In_bitCount 38 = .ok (.iushr, 1) := by decide +kernel
theorem d_In_bitCount_39 : decode b_In_bitCount 39 = .ok (.iadd, 1) := by decide +kernel
theorem d_In_bitCount_40 : decode b_In_bitCount 40 = .ok (.istore_n 0, 1) := by decide +kernel
theorem d_In_bitCount_41 : decode b_In_bitCount 41 = .ok (.iload_n 0, 1) := by decide +kernel
theorem d_In_bitCount_42 : decode b_In_bitCount 42 = .ok (.iload_n 0, 1) := by decide +kernel
theorem d_In_bitCount_43 : decode b_In_bitCount 43 = .ok (.bipush 16, 2) := by decide +kernel
theorem d_In_bitCount_45 : decode b_In_bitCount 45 = .ok (.iushr, 1) := by decide +kernel
theorem d_In_bitCount_46 : decode b_In_bitCount 46 = .ok (.iadd, 1) := by decide +kernel
theorem d_In_bitCount_47 : decode b_In_bitCount 47 = .ok (.istore_n 0, 1) := by decide +kernel
theorem d_In_bitCount_48 : decode b_In_bitCount 48 = .ok (.iload_n 0, 1) := by decide +kernel
theorem d_In_bitCount_49 : decode b_In_bitCount 49 = .ok (.bipush 63, 2) := by decide +kernel
theorem d_In_bitCount_51 : decode b_In_bitCount 51 = .ok (.iand, 1) := by decide +kernel
theorem d_In_bitCount_52 : decode b_In_bitCount 52 = .ok (.ireturn, 1) := by decide +kernel
theorem zy_Ar_copyOf_aBI : zy y_Ar_copyOf_aBI b_Ar_copyOf_aBI 3 (some (.array .byte)) 2 := ⟨zmem 422 (by decide +kernel) (by decide +kernel), zmem 70 (by decide +kernel) (by decide +kernel), by decide +kernel⟩
theorem zv_Ar_copyOf_aBI : Cond.static y_Ar_copyOf_aBI ∈ ztb := zmem 421 (by decide +kernel) (by decide +kernel)
theorem d_Ar_copyOf_aBI_0 : decode b_Ar_copyOf_aBI 0 = .ok (.iload_n 1, 1) := by decide +kernel
theorem d_Ar_copyOf_aBI_1 : decode b_Ar_copyOf_aBI 1 = .ok (.aload_n 0, 1) := by decide +kernel
theorem d_Ar_copyOf_aBI_2 : decode b_Ar_copyOf_aBI 2 = .ok (.arraylength, 1) := by decide +kernel
theorem d_Ar_copyOf_aBI_3 : decode b_Ar_copyOf_aBI 3 = .ok (.if_icmp .ne 11, 3) := by decide +kernel
theorem d_Ar_copyOf_aBI_6 : decode b_Ar_copyOf_aBI 6 = .ok (.aload_n 0, 1) := by decide +kernel
theorem d_Ar_copyOf_aBI_7 : decode b_Ar_copyOf_aBI 7 = .ok (.invokevirtual 310, 3) := by decide +kernel
theorem d_Ar_copyOf_aBI_10 : decode b_Ar_copyOf_aBI 10 = .ok (.checkcast 311, 3) := by decide +kernel
theorem d_Ar_copyOf_aBI_13 : decode b_Ar_copyOf_aBI 13 = .ok (.areturn, 1) := by decide +kernel
theorem d_Ar_copyOf_aBI_14 : decode b_Ar_copyOf_aBI 14 = .ok (.iload_n 1, 1) := by decide +kernel
theorem d_Ar_copyOf_aBI_15 : decode b_Ar_copyOf_aBI 15 = .ok (.newarray .byte, 2) := by decide +kernel
theorem d_Ar_copyOf_aBI_17 : decode b_Ar_copyOf_aBI 17 = .ok (.astore_n 2, 1) := by decide +kernel
theorem d_Ar_copyOf_aBI_18 : decode b_Ar_copyOf_aBI 18 = .ok (.aload_n 0, 1) := by decide +kernel
theorem d_Ar_copyOf_aBI_19 : decode b_Ar_copyOf_aBI 19 = .ok (.iconst 0, 1) := by decide +kernel
theorem d_Ar_copyOf_aBI_20 : decode b_Ar_copyOf_aBI 20 = .ok (.aload_n 2, 1) := by decide +kernel
theorem d_Ar_copyOf_aBI_21 : decode b_Ar_copyOf_aBI 21 = .ok (.iconst 0, 1) := by decide +kernel
theorem d_Ar_copyOf_aBI_22 : decode b_Ar_copyOf_aBI 22 = .ok (.aload_n 0, 1) := by decide +kernel
theorem d_Ar_copyOf_aBI_23 : decode b_Ar_copyOf_aBI 23 = .ok (.arraylength, 1) := by decide +kernel
theorem d_Ar_copyOf_aBI_24 : decode b_Ar_copyOf_aBI 24 = .ok (.iload_n 1, 1) := by decide +kernel
theorem d_Ar_copyOf_aBI_25 : decode b_Ar_copyOf_aBI 25 = .ok (.invokestatic 304, 3) := by decide +kernel
theorem d_Ar_copyOf_aBI_28 : decode b_Ar_copyOf_aBI 28 = .ok (.invokestatic 150, 3) := by decide +kernel
theorem d_Ar_copyOf_aBI_31 : decode b_Ar_copyOf_aBI 31 = .ok (.aload_n 2, 1) := by decide +kernel
theorem d_Ar_copyOf_aBI_32 : decode b_Ar_copyOf_aBI 32 = .ok (.areturn, 1) := by decide +kernel
theorem zy_Ar_copyOf_aII : zy y_Ar_copyOf_aII b_Ar_copyOf_aII 3 (some (.array .int)) 2 := ⟨zmem 639 (by decide +kernel) (by decide +kernel), zmem 70 (by decide +kernel) (by decide +kernel), by decide +kernel⟩
theorem zv_Ar_copyOf_aII : Cond.static y_Ar_copyOf_aII ∈ ztb := zmem 638 (by decide +kernel) (by decide +kernel)
theorem d_Ar_copyOf_aII_0 : decode b_Ar_copyOf_aII 0 = .ok (.iload_n 1, 1) := by decide +kernel
theorem d_Ar_copyOf_aII_1 : decode b_Ar_copyOf_aII 1 = .ok (.aload_n 0, 1) := by decide +kernel
theorem d_Ar_copyOf_aII_2 : decode b_Ar_copyOf_aII 2 = .ok (.arraylength, 1) := by decide +kernel
theorem d_Ar_copyOf_aII_3 : decode b_Ar_copyOf_aII 3 = .ok (.if_icmp .ne 11, 3) := by decide +kernel
theorem d_Ar_copyOf_aII_6 : decode b_Ar_copyOf_aII 6 = .ok (.aload_n 0, 1) := by decide +kernel
theorem d_Ar_copyOf_aII_7 : decode b_Ar_copyOf_aII 7 = .ok (.invokevirtual 316, 3) := by decide +kernel
theorem d_Ar_copyOf_aII_10 : decode b_Ar_copyOf_aII 10 = .ok (.checkcast 317, 3) := by decide +kernel
theorem d_Ar_copyOf_aII_13 : decode b_Ar_copyOf_aII 13 = .ok (.areturn, 1) := by decide +kernel
theorem d_Ar_copyOf_aII_14 : decode b_Ar_copyOf_aII 14 = .ok (.iload_n 1, 1) := by decide +kernel
theorem d_Ar_copyOf_aII_15 : decode b_Ar_copyOf_aII 15 = .ok (.newarray .int, 2) := by decide +kernel
theorem d_Ar_copyOf_aII_17 : decode b_Ar_copyOf_aII 17 = .ok (.astore_n 2, 1) := by decide +kernel
theorem d_Ar_copyOf_aII_18 : decode b_Ar_copyOf_aII 18 = .ok (.aload_n 0, 1) := by decide +kernel
theorem d_Ar_copyOf_aII_19 : decode b_Ar_copyOf_aII 19 = .ok (.iconst 0, 1) := by decide +kernel
theorem d_Ar_copyOf_aII_20 : decode b_Ar_copyOf_aII 20 = .ok (.aload_n 2, 1) := by decide +kernel
theorem d_Ar_copyOf_aII_21 : decode b_Ar_copyOf_aII 21 = .ok (.iconst 0, 1) := by decide +kernel
theorem d_Ar_copyOf_aII_22 : decode b_Ar_copyOf_aII 22 = .ok (.aload_n 0, 1) := by decide +kernel
theorem d_Ar_copyOf_aII_23 : decode b_Ar_copyOf_aII 23 = .ok (.arraylength, 1) := by decide +kernel
theorem d_Ar_copyOf_aII_24 : decode b_Ar_copyOf_aII 24 = .ok (.iload_n 1, 1) := by decide +kernel
theorem d_Ar_copyOf_aII_25 : decode b_Ar_copyOf_aII 25 = .ok (.invokestatic 304, 3) := by decide +kernel
theorem d_Ar_copyOf_aII_28 : decode b_Ar_copyOf_aII 28 = .ok (.invokestatic 150, 3) := by decide +kernel
theorem d_Ar_copyOf_aII_31 : decode b_Ar_copyOf_aII 31 = .ok (.aload_n 2, 1) := by decide +kernel
theorem d_Ar_copyOf_aII_32 : decode b_Ar_copyOf_aII 32 = .ok (.areturn, 1) := by decide +kernel
theorem zy_Ar_copyOf_aJI : zy y_Ar_copyOf_aJI b_Ar_copyOf_aJI 3 (some (.array .long)) 2 := ⟨zmem 254 (by decide +kernel) (by decide +kernel), zmem 70 (by decide +kernel) (by decide +kernel), by decide +kernel⟩
theorem zv_Ar_copyOf_aJI : Cond.static y_Ar_copyOf_aJI ∈ ztb := zmem 253 (by decide +kernel) (by decide +kernel)
theorem d_Ar_copyOf_aJI_0 : decode b_Ar_copyOf_aJI 0 = .ok (.iload_n 1, 1) := by decide +kernel
theorem d_Ar_copyOf_aJI_1 : decode b_Ar_copyOf_aJI 1 = .ok (.aload_n 0, 1) := by decide +kernel
theorem d_Ar_copyOf_aJI_2 : decode b_Ar_copyOf_aJI 2 = .ok (.arraylength, 1) := by decide +kernel
theorem d_Ar_copyOf_aJI_3 : decode b_Ar_copyOf_aJI 3 = .ok (.if_icmp .ne 11, 3) := by decide +kernel
theorem d_Ar_copyOf_aJI_6 : decode b_Ar_copyOf_aJI 6 = .ok (.aload_n 0, 1) := by decide +kernel
theorem d_Ar_copyOf_aJI_7 : decode b_Ar_copyOf_aJI 7 = .ok (.invokevirtual 319, 3) := by decide +kernel
theorem d_Ar_copyOf_aJI_10 : decode b_Ar_copyOf_aJI 10 = .ok (.checkcast 320, 3) := by decide +kernel
theorem d_Ar_copyOf_aJI_13 : decode b_Ar_copyOf_aJI 13 = .ok (.areturn, 1) := by decide +kernel
theorem d_Ar_copyOf_aJI_14 : decode b_Ar_copyOf_aJI 14 = .ok (.iload_n 1, 1) := by decide +kernel
theorem d_Ar_copyOf_aJI_15 : decode b_Ar_copyOf_aJI 15 = .ok (.newarray .long, 2) := by decide +kernel
theorem d_Ar_copyOf_aJI_17 : decode b_Ar_copyOf_aJI 17 = .ok (.astore_n 2, 1) := by decide +kernel
theorem d_Ar_copyOf_aJI_18 : decode b_Ar_copyOf_aJI 18 = .ok (.aload_n 0, 1) := by decide +kernel
theorem d_Ar_copyOf_aJI_19 : decode b_Ar_copyOf_aJI 19 = .ok (.iconst 0, 1) := by decide +kernel
theorem d_Ar_copyOf_aJI_20 : decode b_Ar_copyOf_aJI 20 = .ok (.aload_n 2, 1) := by decide +kernel
theorem d_Ar_copyOf_aJI_21 : decode b_Ar_copyOf_aJI 21 = .ok (.iconst 0, 1) := by decide +kernel
theorem d_Ar_copyOf_aJI_22 : decode b_Ar_copyOf_aJI 22 = .ok (.aload_n 0, 1) := by decide +kernel
theorem d_Ar_copyOf_aJI_23 : decode b_Ar_copyOf_aJI 23 = .ok (.arraylength, 1) := by decide +kernel
theorem d_Ar_copyOf_aJI_24 : decode b_Ar_copyOf_aJI 24 = .ok (.iload_n 1, 1) := by decide +kernel
theorem d_Ar_copyOf_aJI_25 : decode b_Ar_copyOf_aJI 25 = .ok (.invokestatic 304, 3) := by decide +kernel
theorem d_Ar_copyOf_aJI_28 : decode b_Ar_copyOf_aJI 28 = .ok (.invokestatic 150, 3) := by decide +kernel
theorem d_Ar_copyOf_aJI_31 : decode b_Ar_copyOf_aJI 31 = .ok (.aload_n 2, 1) := by decide +kernel
theorem d_Ar_copyOf_aJI_32 : decode b_Ar_copyOf_aJI 32 = .ok (.areturn, 1) := by decide +kernel
theorem zy_Ar_fill_aII : zy y_Ar_fill_aII b_Ar_fill_aII 4 none 2 := ⟨zmem 791 (by decide +kernel) (by decide +kernel), zmem 70 (by decide +kernel) (by decide +kernel), by decide +kernel⟩
theorem zv_Ar_fill_aII : Cond.static y_Ar_fill_aII ∈ ztb := zmem 790 (by decide +kernel) (by decide +kernel)
theorem d_Ar_fill_aII_0 : decode b_Ar_fill_aII 0 = .ok (.iconst 0, 1) := by decide +kernel
theorem d_Ar_fill_aII_1 : decode b_Ar_fill_aII 1 = .ok (.istore_n 2, 1) := by decide +kernel
theorem d_Ar_fill_aII_2 : decode b_Ar_fill_aII 2 = .ok (.aload_n 0, 1) := by decide +kernel
theorem d_Ar_fill_aII_3 : decode b_Ar_fill_aII 3 = .ok (.arraylength, 1) := by decide +kernel
theorem d_Ar_fill_aII_4 : decode b_Ar_fill_aII 4 = .ok (.istore_n 3, 1) := by decide +kernel
theorem d_Ar_fill_aII_5 : decode b_Ar_fill_aII 5 = .ok (.iload_n 2, 1) := by decide +kernel
theorem d_Ar_fill_aII_6 : decode b_Ar_fill_aII 6 = .ok (.iload_n 3, 1) := by decide +kernel
theorem d_Ar_fill_aII_7 : decode b_Ar_fill_aII 7 = .ok (.if_icmp .ge 13, 3) := by decide +kernel
theorem d_Ar_fill_aII_10 : decode b_Ar_fill_aII 10 = .ok (.aload_n 0, 1) := by decide +kernel
theorem d_Ar_fill_aII_11 : decode b_Ar_fill_aII 11 = .ok (.iload_n 2, 1) := by decide +kernel
theorem d_Ar_fill_aII_12 : decode b_Ar_fill_aII 12 = .ok (.iload_n 1, 1) := by decide +kernel
theorem d_Ar_fill_aII_13 : decode b_Ar_fill_aII 13 = .ok (.iastore, 1) := by decide +kernel
theorem d_Ar_fill_aII_14 : decode b_Ar_fill_aII 14 = .ok (.iinc 2 1, 3) := by decide +kernel
theorem d_Ar_fill_aII_17 : decode b_Ar_fill_aII 17 = .ok (.goto (-12), 3) := by decide +kernel
theorem d_Ar_fill_aII_20 : decode b_Ar_fill_aII 20 = .ok (.return_, 1) := by decide +kernel
theorem zy_Ar_fill_aJJ : zy y_Ar_fill_aJJ b_Ar_fill_aJJ 5 none 2 := ⟨zmem 330 (by decide +kernel) (by decide +kernel), zmem 70 (by decide +kernel) (by decide +kernel), by decide +kernel⟩
theorem zv_Ar_fill_aJJ : Cond.static y_Ar_fill_aJJ ∈ ztb := zmem 329 (by decide +kernel) (by decide +kernel)
theorem d_Ar_fill_aJJ_0 : decode b_Ar_fill_aJJ 0 = .ok (.iconst 0, 1) := by decide +kernel
theorem d_Ar_fill_aJJ_1 : decode b_Ar_fill_aJJ 1 = .ok (.istore_n 3, 1) := by decide +kernel
theorem d_Ar_fill_aJJ_2 : decode b_Ar_fill_aJJ 2 = .ok (.aload_n 0, 1) := by decide +kernel
theorem d_Ar_fill_aJJ_3 : decode b_Ar_fill_aJJ 3 = .ok (.arraylength, 1) := by decide +kernel
theorem d_Ar_fill_aJJ_4 : decode b_Ar_fill_aJJ 4 = .ok (.istore 4, 2) := by decide +kernel
theorem d_Ar_fill_aJJ_6 : decode b_Ar_fill_aJJ 6 = .ok (.iload_n 3, 1) := by decide +kernel
theorem d_Ar_fill_aJJ_7 : decode b_Ar_fill_aJJ 7 = .ok (.iload 4, 2) := by decide +kernel
theorem d_Ar_fill_aJJ_9 : decode b_Ar_fill_aJJ 9 = .ok (.if_icmp .ge 13, 3) := by decide +kernel
theorem d_Ar_fill_aJJ_12 : decode b_Ar_fill_aJJ 12 = .ok (.aload_n 0, 1) := by decide +kernel
theorem d_Ar_fill_aJJ_13 : decode b_Ar_fill_aJJ 13 = .ok (.iload_n 3, 1) := by decide +kernel
theorem d_Ar_fill_aJJ_14 : decode b_Ar_fill_aJJ 14 = .ok (.lload_n 1, 1) := by decide +kernel
theorem d_Ar_fill_aJJ_15 : decode b_Ar_fill_aJJ 15 = .ok (.lastore, 1) := by decide +kernel
theorem d_Ar_fill_aJJ_16 : decode b_Ar_fill_aJJ 16 = .ok (.iinc 3 1, 3) := by decide +kernel
theorem d_Ar_fill_aJJ_19 : decode b_Ar_fill_aJJ 19 = .ok (.goto (-13), 3) := by decide +kernel
theorem d_Ar_fill_aJJ_22 : decode b_Ar_fill_aJJ 22 = .ok (.return_, 1) := by decide +kernel
theorem zy_W_clear : zy y_W_clear b_W_clear 2 (some .int) 0 := ⟨zmem 302 (by decide +kernel) (by decide +kernel), zmem 62 (by decide +kernel) (by decide +kernel), by decide +kernel⟩
theorem zv_W_clear : Cond.instanceMethod y_W_clear ∈ ztb ∧ Cond.selects y_W_clear.cls y_W_clear y_W_clear ∈ ztb := ⟨zmem 300 (by decide +kernel) (by decide +kernel), zmem 301 (by decide +kernel) (by decide +kernel)⟩
theorem d_W_clear_0 : decode b_W_clear 0 = .ok (.aload_n 0, 1) := by decide +kernel
theorem d_W_clear_1 : decode b_W_clear 1 = .ok (.getfield 12, 3) := by decide +kernel
theorem d_W_clear_4 : decode b_W_clear 4 = .ok (.getfield 95, 3) := by decide +kernel
theorem d_W_clear_7 : decode b_W_clear 7 = .ok (.istore_n 1, 1) := by decide +kernel
theorem d_W_clear_8 : decode b_W_clear 8 = .ok (.aload_n 0, 1) := by decide +kernel
theorem d_W_clear_9 : decode b_W_clear 9 = .ok (.getfield 12, 3) := by decide +kernel
theorem d_W_clear_12 : decode b_W_clear 12 = .ok (.iconst 0, 1) := by decide +kernel
theorem d_W_clear_13 : decode b_W_clear 13 = .ok (.putfield 95, 3) := by decide +kernel
theorem d_W_clear_16 : decode b_W_clear 16 = .ok (.aload_n 0, 1) := by decide +kernel
theorem d_W_clear_17 : decode b_W_clear 17 = .ok (.getfield 28, 3) := by decide +kernel
theorem d_W_clear_20 : decode b_W_clear 20 = .ok (.iconst 0, 1) := by decide +kernel
theorem d_W_clear_21 : decode b_W_clear 21 = .ok (.iconst 0, 1) := by decide +kernel
theorem d_W_clear_22 : decode b_W_clear 22 = .ok (.invokevirtual 99, 3) := by decide +kernel
theorem d_W_clear_25 : decode b_W_clear 25 = .ok (.aload_n 0, 1) := by decide +kernel
theorem d_W_clear_26 : decode b_W_clear 26 = .ok (.getfield 56, 3) := by decide +kernel
theorem d_W_clear_29 : decode b_W_clear 29 = .ok (.invokevirtual 103, 3) := by decide +kernel
theorem d_W_clear_32 : decode b_W_clear 32 = .ok (.iload_n 1, 1) := by decide +kernel
theorem d_W_clear_33 : decode b_W_clear 33 = .ok (.ireturn, 1) := by decide +kernel
theorem zy_W_at : zy y_W_at b_W_at 2 (some .int) 1 := ⟨zmem 487 (by decide +kernel) (by decide +kernel), zmem 62 (by decide +kernel) (by decide +kernel), by decide +kernel⟩
theorem zv_W_at : Cond.instanceMethod y_W_at ∈ ztb ∧ Cond.selects y_W_at.cls y_W_at y_W_at ∈ ztb := ⟨zmem 485 (by decide +kernel) (by decide +kernel), zmem 486 (by decide +kernel) (by decide +kernel)⟩
theorem d_W_at_0 : decode b_W_at 0 = .ok (.aload_n 0, 1) := by decide +kernel
theorem d_W_at_1 : decode b_W_at 1 = .ok (.iload_n 1, 1) := by decide +kernel
theorem d_W_at_2 : decode b_W_at 2 = .ok (.invokevirtual 106, 3) := by decide +kernel
theorem d_W_at_5 : decode b_W_at 5 = .ok (.aload_n 0, 1) := by decide +kernel
theorem d_W_at_6 : decode b_W_at 6 = .ok (.getfield 12, 3) := by decide +kernel
theorem d_W_at_9 : decode b_W_at 9 = .ok (.iload_n 1, 1) := by decide +kernel
theorem d_W_at_10 : decode b_W_at 10 = .ok (.invokevirtual 110, 3) := by decide +kernel
theorem d_W_at_13 : decode b_W_at 13 = .ok (.ireturn, 1) := by decide +kernel
theorem zy_W_add : zy y_W_add b_W_add 4 (some .int) 2 := ⟨zmem 693 (by decide +kernel) (by decide +kernel), zmem 62 (by decide +kernel) (by decide +kernel), by decide +kernel⟩
theorem zv_W_add : Cond.instanceMethod y_W_add ∈ ztb ∧ Cond.selects y_W_add.cls y_W_add y_W_add ∈ ztb := ⟨zmem 691 (by decide +kernel) (by decide +kernel), zmem 692 (by decide +kernel) (by decide +kernel)⟩
theorem d_W_add_0 : decode b_W_add 0 = .ok (.iload_n 3, 1) := by decide +kernel
theorem d_W_add_1 : decode b_W_add 1 = .ok (.iconst 1, 1) := by decide +kernel
theorem d_W_add_2 : decode b_W_add 2 = .ok (.if_icmp .lt 9, 3) := by decide +kernel
theorem d_W_add_5 : decode b_W_add 5 = .ok (.iload_n 3, 1) := by decide +kernel
theorem d_W_add_6 : decode b_W_add 6 = .ok (.bipush 8, 2) := by decide +kernel
theorem d_W_add_8 : decode b_W_add 8 = .ok (.if_icmp .le 13, 3) := by decide +kernel
theorem d_W_add_11 : decode b_W_add 11 = .ok (.new 60, 3) := by decide +kernel
theorem d_W_add_14 : decode b_W_add 14 = .ok (.dup, 1) := by decide +kernel
theorem d_W_add_15 : decode b_W_add 15 = .ok (.ldc 62, 2) := by decide +kernel
theorem d_W_add_17 : decode b_W_add 17 = .ok (.invokespecial 64, 3) := by decide +kernel
theorem d_W_add_20 : decode b_W_add 20 = .ok (.athrow, 1) := by decide +kernel
theorem d_W_add_21 : decode b_W_add 21 = .ok (.aload_n 0, 1) := by decide +kernel
theorem d_W_add_22 : decode b_W_add 22 = .ok (.getfield 49, 3) := by decide +kernel
theorem d_W_add_25 : decode b_W_add 25 = .ok (.getfield 206, 3) := by decide +kernel
theorem d_W_add_28 : decode b_W_add 28 = .ok (.iload_n 3, 1) := by decide +kernel
theorem d_W_add_29 : decode b_W_add 29 = .ok (.iadd, 1) := by decide +kernel
theorem d_W_add_30 : decode b_W_add 30 = .ok (.sipush 2000, 3) := by decide +kernel
theorem d_W_add_33 : decode b_W_add 33 = .ok (.if_icmp .le 13, 3) := by decide +kernel
theorem d_W_add_36 : decode b_W_add 36 = .ok (.new 207, 3) := by decide +kernel
theorem d_W_add_39 : decode b_W_add 39 = .ok (.dup, 1) := by decide +kernel
theorem d_W_add_40 : decode b_W_add 40 = .ok (.ldc 209, 2) := by decide +kernel
theorem d_W_add_42 : decode b_W_add 42 = .ok (.invokespecial 211, 3) := by decide +kernel
theorem d_W_add_45 : decode b_W_add 45 = .ok (.athrow, 1) := by decide +kernel
theorem d_W_add_46 : decode b_W_add 46 = .ok (.aload_n 0, 1) := by decide +kernel
theorem d_W_add_47 : decode b_W_add 47 = .ok (.getfield 49, 3) := by decide +kernel
theorem d_W_add_50 : decode b_W_add 50 = .ok (.lload_n 1, 1) := by decide +kernel
theorem d_W_add_51 : decode b_W_add 51 = .ok (.iload_n 3, 1) := by decide +kernel
theorem d_W_add_52 : decode b_W_add 52 = .ok (.invokevirtual 212, 3) := by decide +kernel
theorem d_W_add_55 : decode b_W_add 55 = .ok (.aload_n 0, 1) := by decide +kernel
theorem d_W_add_56 : decode b_W_add 56 = .ok (.getfield 49, 3) := by decide +kernel
theorem d_W_add_59 : decode b_W_add 59 = .ok (.getfield 206, 3) := by decide +kernel
theorem d_W_add_62 : decode b_W_add 62 = .ok (.ireturn, 1) := by decide +kernel
theorem zy_W_span : zy y_W_span b_W_span 5 none 2 := ⟨zmem 705 (by decide +kernel) (by decide +kernel), zmem 62 (by decide +kernel) (by decide +kernel), by decide +kernel⟩
theorem zv_W_span : Cond.instanceMethod y_W_span ∈ ztb ∧ Cond.selects y_W_span.cls y_W_span y_W_span ∈ ztb := ⟨zmem 703 (by decide +kernel) (by decide +kernel), zmem 704 (by decide +kernel) (by decide +kernel)⟩
theorem d_W_span_0 : decode b_W_span 0 = .ok (.lload_n 1, 1) := by decide +kernel
theorem d_W_span_1 : decode b_W_span 1 = .ok (.lconst 0, 1) := by decide +kernel
theorem d_W_span_2 : decode b_W_span 2 = .ok (.lcmp, 1) := by decide +kernel
theorem d_W_span_3 : decode b_W_span 3 = .ok (.ifCond .lt 20, 3) := by decide +kernel
theorem d_W_span_6 : decode b_W_span 6 = .ok (.lload_n 1, 1) := by decide +kernel
theorem d_W_span_7 : decode b_W_span 7 = .ok (.lload_n 3, 1) := by decide +kernel
theorem d_W_span_8 : decode b_W_span 8 = .ok (.lcmp, 1) := by decide +kernel
theorem d_W_span_9 : decode b_W_span 9 = .ok (.ifCond .gt 14, 3) := by decide +kernel
theorem d_W_span_12 : decode b_W_span 12 = .ok (.aload_n 0, 1) := by decide +kernel
theorem d_W_span_13 : decode b_W_span 13 = .ok (.getfield 49, 3) := by decide +kernel
theorem d_W_span_16 : decode b_W_span 16 = .ok (.lload_n 3, 1) := by decide +kernel
theorem d_W_span_17 : decode b_W_span 17 = .ok (.invokevirtual 215, 3) := by decide +kernel
theorem d_W_span_20 : decode b_W_span 20 = .ok (.ifCond .ne 13, 3) := by decide +kernel
theorem d_W_span_23 : decode b_W_span 23 = .ok (.new 60, 3) := by decide +kernel
theorem d_W_span_26 : decode b_W_span 26 = .ok (.dup, 1) := by decide +kernel
theorem d_W_span_27 : decode b_W_span 27 = .ok (.ldc 218, 2) := by decide +kernel
theorem d_W_span_29 : decode b_W_span 29 = .ok (.invokespecial 64, 3) := by decide +kernel
theorem d_W_span_32 : decode b_W_span 32 = .ok (.athrow, 1) := by decide +kernel
theorem d_W_span_33 : decode b_W_span 33 = .ok (.aload_n 0, 1) := by decide +kernel
theorem d_W_span_34 : decode b_W_span 34 = .ok (.getfield 49, 3) := by decide +kernel
theorem d_W_span_37 : decode b_W_span 37 = .ok (.getfield 220, 3) := by decide +kernel
theorem d_W_span_40 : decode b_W_span 40 = .ok (.sipush 500, 3) := by decide +kernel
theorem d_W_span_43 : decode b_W_span 43 = .ok (.if_icmp .lt 13, 3) := by decide +kernel
theorem d_W_span_46 : decode b_W_span 46 = .ok (.new 207, 3) := by decide +kernel
theorem d_W_span_49 : decode b_W_span 49 = .ok (.dup, 1) := by decide +kernel
theorem d_W_span_50 : decode b_W_span 50 = .ok (.ldc 223, 2) := by decide +kernel
theorem d_W_span_52 : decode b_W_span 52 = .ok (.invokespecial 211, 3) := by decide +kernel
theorem d_W_span_55 : decode b_W_span 55 = .ok (.athrow, 1) := by decide +kernel
theorem d_W_span_56 : decode b_W_span 56 = .ok (.aload_n 0, 1) := by decide +kernel
theorem d_W_span_57 : decode b_W_span 57 = .ok (.getfield 49, 3) := by decide +kernel
theorem d_W_span_60 : decode b_W_span 60 = .ok (.lload_n 1, 1) := by decide +kernel
theorem d_W_span_61 : decode b_W_span 61 = .ok (.lload_n 3, 1) := by decide +kernel
theorem d_W_span_62 : decode b_W_span 62 = .ok (.invokevirtual 225, 3) := by decide +kernel
theorem d_W_span_65 : decode b_W_span 65 = .ok (.return_, 1) := by decide +kernel
theorem zy_W_cut : zy y_W_cut b_W_cut 8 (some .int) 2 := ⟨zmem 859 (by decide +kernel) (by decide +kernel), zmem 62 (by decide +kernel) (by decide +kernel), by decide +kernel⟩
theorem zv_W_cut : Cond.instanceMethod y_W_cut ∈ ztb ∧ Cond.selects y_W_cut.cls y_W_cut y_W_cut ∈ ztb := ⟨zmem 857 (by decide +kernel) (by decide +kernel), zmem 858 (by decide +kernel) (by decide +kernel)⟩
theorem d_W_cut_0 : decode b_W_cut 0 = .ok (.lload_n 1, 1) := by decide +kernel
theorem d_W_cut_1 : decode b_W_cut 1 = .ok (.invokestatic 78, 3) := by decide +kernel
theorem d_W_cut_4 : decode b_W_cut 4 = .ok (.ifCond .eq 16, 3) := by decide +kernel
theorem d_W_cut_7 : decode b_W_cut 7 = .ok (.lload_n 3, 1) := by decide +kernel
theorem d_W_cut_8 : decode b_W_cut 8 = .ok (.invokestatic 273, 3) := by decide +kernel
theorem d_W_cut_11 : decode b_W_cut 11 = .ok (.ifCond .eq 9, 3) := by decide +kernel
theorem d_W_cut_14 : decode b_W_cut 14 = .ok (.lload_n 1, 1) := by decide +kernel
theorem d_W_cut_15 : decode b_W_cut 15 = .ok (.lload_n 3, 1) := by decide +kernel
theorem d_W_cut_16 : decode b_W_cut 16 = .ok (.lcmp, 1) := by decide +kernel
theorem d_W_cut_17 : decode b_W_cut 17 = .ok (.ifCond .gt 14, 3) := by decide +kernel
theorem d_W_cut_20 : decode b_W_cut 20 = .ok (.new 60, 3) := by decide +kernel
theorem d_W_cut_23 : decode b_W_cut 23 = .ok (.dup, 1) := by decide +kernel
theorem d_W_cut_24 : decode b_W_cut 24 = .ok (.ldc_w 276, 3) := by decide +kernel
theorem d_W_cut_27 : decode b_W_cut 27 = .ok (.invokespecial 64, 3) := by decide +kernel
theorem d_W_cut_30 : decode b_W_cut 30 = .ok (.athrow, 1) := by decide +kernel
theorem d_W_cut_31 : decode b_W_cut 31 = .ok (.lload_n 1, 1) := by decide +kernel
theorem d_W_cut_32 : decode b_W_cut 32 = .ok (.lload_n 3, 1) := by decide +kernel
theorem d_W_cut_33 : decode b_W_cut 33 = .ok (.lsub, 1) := by decide +kernel
theorem d_W_cut_34 : decode b_W_cut 34 = .ok (.lstore 5, 2) := by decide +kernel
theorem d_W_cut_36 : decode b_W_cut 36 = .ok (.iconst 1, 1) := by decide +kernel
theorem d_W_cut_37 : decode b_W_cut 37 = .ok (.istore 7, 2) := by decide +kernel
theorem d_W_cut_39 : decode b_W_cut 39 = .ok (.iload 7, 2) := by decide +kernel
theorem d_W_cut_41 : decode b_W_cut 41 = .ok (.iconst 4, 1) := by decide +kernel
theorem d_W_cut_42 : decode b_W_cut 42 = .ok (.if_icmp .gt 27, 3) := by decide +kernel
theorem d_W_cut_45 : decode b_W_cut 45 = .ok (.lload 5, 2) := by decide +kernel
theorem d_W_cut_47 : decode b_W_cut 47 = .ok (.lconst 1, 1) := by decide +kernel
theorem d_W_cut_48 : decode b_W_cut 48 = .ok (.bipush 8, 2) := by decide +kernel
theorem d_W_cut_50 : decode b_W_cut 50 = .ok (.iload 7, 2) := by decide +kernel
theorem d_W_cut_52 : decode b_W_cut 52 = .ok (.imul, 1) := by decide +kernel
theorem d_W_cut_53 : decode b_W_cut 53 = .ok (.iconst 1, 1) := by decide +kernel
theorem d_W_cut_54 : decode b_W_cut 54 = .ok (.isub, 1) := by decide +kernel
theorem d_W_cut_55 : decode b_W_cut 55 = .ok (.lshl, 1) := by decide +kernel
theorem d_W_cut_56 : decode b_W_cut 56 = .ok (.lcmp, 1) := by decide +kernel
theorem d_W_cut_57 : decode b_W_cut 57 = .ok (.ifCond .gt 6, 3) := by decide +kernel
theorem d_W_cut_60 : decode b_W_cut 60 = .ok (.iload 7, 2) := by decide +kernel
theorem d_W_cut_62 : decode b_W_cut 62 = .ok (.ireturn, 1) := by decide +kernel
theorem d_W_cut_63 : decode b_W_cut 63 = .ok (.iinc 7 1, 3) := by decide +kernel
theorem d_W_cut_66 : decode b_W_cut 66 = .ok (.goto (-27), 3) := by decide +kernel
theorem d_W_cut_69 : decode b_W_cut 69 = .ok (.iconst 0, 1) := by decide +kernel
theorem d_W_cut_70 : decode b_W_cut 70 = .ok (.ireturn, 1) := by decide +kernel
theorem zini_2 : Cond.initialized (zE 2) ∈ ztb := zmem 78 (by decide +kernel) (by decide +kernel)
theorem zfit_2 : Bundle.fit (zE 2) = true ∧ zCdec (zIx 2) (zBx 2) := ⟨by decide +kernel, by decide +kernel, by decide +kernel, by decide +kernel, by decide +kernel⟩
theorem zat_W_211 : (zown R_W 211 (zE 2) (zIx 2) (zBx 2)).all zhas = true := by decide +kernel
theorem zin_T_15 : Cond.methodLink R_T 15 y_T_byteAt ∈ ztb := zmem 531 (by decide +kernel) (by decide +kernel)
theorem zin_T_23 : Cond.fieldLink R_T 23 "WireCodec$Tape" "length" "I" ∈ ztb := zmem 98 (by decide +kernel) (by decide +kernel)
theorem zin_T_27 : Cond.fieldLink R_T 27 "WireCodec$Tape" "cursor" "I" ∈ ztb := zmem 96 (by decide +kernel) (by decide +kernel)
theorem zin_T_30 : Cond.constant R_T 30 (65536 : Int32) ∈ ztb := zmem 419 (by decide +kernel) (by decide +kernel)
theorem zin_In_265 : Cond.constant R_In 265 (1431655765 : Int32) ∈ ztb := zmem 903 (by decide +kernel) (by decide +kernel)
theorem zin_In_266 : Cond.constant R_In 266 (858993459 : Int32) ∈ ztb := zmem 904 (by decide +kernel) (by decide +kernel)
theorem zin_In_267 : Cond.constant R_In 267 (252645135 : Int32) ∈ ztb := zmem 905 (by decide +kernel) (by decide +kernel)
theorem zin_Ar_304 : Cond.methodLink R_Ar 304 Lib.Math.min.name ∈ ztb := zmem 262 (by decide +kernel) (by decide +kernel)
theorem zin_Ar_150 : Cond.methodLink R_Ar 150 arraycopyName ∈ ztb := zmem 265 (by decide +kernel) (by decide +kernel)
theorem zin_W_99 : Cond.methodLink R_W 99 y_G_restart ∈ ztb := zmem 303 (by decide +kernel) (by decide +kernel)
theorem zin_W_103 : Cond.methodLink R_W 103 y_P_forget ∈ ztb := zmem 307 (by decide +kernel) (by decide +kernel)
theorem zin_W_106 : Cond.methodLink R_W 106 y_W_requireByte ∈ ztb := zmem 488 (by decide +kernel) (by decide +kernel)
theorem zin_W_110 : Cond.methodLink R_W 110 y_T_byteAt ∈ ztb := zmem 508 (by decide +kernel) (by decide +kernel)
theorem zin_W_206 : Cond.fieldLink R_W 206 "WireCodec$Draft" "length" "I" ∈ ztb := zmem 228 (by decide +kernel) (by decide +kernel)
theorem zin_W_212 : Cond.methodLink R_W 212 y_D_append ∈ ztb := zmem 695 (by decide +kernel) (by decide +kernel)
theorem zin_W_207 : Cond.classLink R_W 207 (zE 2) ∈ ztb := zmem 436 (by decide +kernel) (by decide +kernel)
theorem zin_W_215 : Cond.methodLink R_W 215 y_D_isBelowRanges ∈ ztb := zmem 706 (by decide +kernel) (by decide +kernel)
theorem zin_W_220 : Cond.fieldLink R_W 220 "WireCodec$Draft" "ranges" "I" ∈ ztb := zmem 230 (by decide +kernel) (by decide +kernel)
theorem zin_W_225 : Cond.methodLink R_W 225 y_D_appendRange ∈ ztb := zmem 713 (by decide +kernel) (by decide +kernel)
theorem zin_W_273 : Cond.methodLink R_W 273 y_W_isNumberOrNone ∈ ztb := zmem 860 (by decide +kernel) (by decide +kernel)
noncomputable def g_T_numberBytesAt_c3 (r_3 : Int32) : Option (Int32) := some ((1 : Int32) <<< ((r_3 >>> ((6 : Int32) &&& 31)) &&& 31))
noncomputable def g_T_numberBytesAt (sT : zT) (v1 : Int32) : Option (Int32) := (g_T_byteAt sT v1).bind (fun a => g_T_numberBytesAt_c3 a)
def q_T_numberBytesAt (dC : Nat → ClassId) (dI : Nat → Nat → Nat) (cB cI cL : ClassId) (A : Nat → Prop) (adT : Nat) (adT_bytes : Nat) (sT : zT) (a : Int32) : Array Value → State → Outcome → State → Prop := va_Qi (fun (r : Int32) (u : Unit) => (r) = a) (fun u U => va_P (dC, dI) zcl (zwT adT adT_bytes cB cI cL sT) U.heap ∧ va_D A (zwT adT adT_bytes cB cI cL sT)) A
set_option maxRecDepth 100000 in
set_option maxHeartbeats 4000000 in
theorem k_T_numberBytesAt_0 {p : Program} {l : Launch} {e : Env} {R : Room} {s : State} {m : MethodId} {args : Array Value} {below : List Frame} {meth : Method} {c : Code} {dC : Nat → ClassId} {dI : Nat → Nat → Nat} {cB cI cL : ClassId} {A : Nat → Prop} (X : zx p s m args meth c R R_T b_T_numberBytesAt (some .int) 2 1 21) (hA : ∀ q, s.heap.size ≤ q → A q) (zz : zk dC dI cB cI cL A s)  (sT : zT) (v1 : Int32) (a : Int32) (hG : g_T_numberBytesAt sT v1 = some a) (adT adT_bytes : Nat) (H : Heap) (locs : List Loc) (hP : va_P (dC, dI) zcl (zwT adT adT_bytes cB cI cL sT) H) (hD : va_D A (zwT adT adT_bytes cB cI cL sT)) (hS : va_S A s.heap H locs) (ls : Array Slot) (hl : lv_has ls 2 [(0, .ref adT), (1, .int v1)]) : W p l e R s m args below meth c H locs 0 0 (MQ below (q_T_numberBytesAt dC dI cB cI cL A adT adT_bytes sT a) args s 0 0 A) (F0 m 0 ls []) := by
  obtain ⟨hx, hb, hr, hml, hown, hts, hlocks, hRf, hRl⟩ := id X
  unfold g_T_numberBytesAt at hG
  refine lv_iconst (v := (1 : Int32)) hx hb d_T_numberBytesAt_0 (by decide) ?_
  refine lv_aload_n hx hb d_T_numberBytesAt_1 rfl (lv_at hl 0 rfl) ?_
  refine lv_iload_n hx hb d_T_numberBytesAt_2 rfl (lv_at hl 1 rfl) ?_
  obtain ⟨a_3, hx_3, hG⟩ := zb hG
  have hr_3 := zrunV (p := p) (e := e) (below := below) (meth := meth) (As := [.int v1]) (rest := [.int (1 : Int32)]) (st0 := [.int v1, .ref adT, .int (1 : Int32)]) (cells := 0) (slots := 0) X zz hP hD hS hA [0, 1] (by decide) rfl (c_T_byteAt l dC dI cB cI cL H.size adT adT_bytes sT v1 _ hx_3) zy_T_byteAt zv_T_byteAt (hts (.methodLink R_T 15 y_T_byteAt) zin_T_15) hl rfl rfl d_T_numberBytesAt_3 (lv_room (Nat.le_of_ble_eq_true rfl)) rfl rfl ⟨Nat.le_trans (Nat.le_of_ble_eq_true rfl) hRf, Nat.le_trans (Nat.le_of_ble_eq_true rfl) hRl⟩ ⟨Nat.zero_le _, Nat.zero_le _⟩ 0 1 rfl rfl
  refine zcalli (wr := ([] : va_W)) hr_3 hP hD hS hA [0, 1] [] rfl rfl (by decide) (by decide) (fun r_3 u_3 H locs hw_3 hP hD hS => ?_)
  subst hw_3
  have hP : va_P (dC, dI) zcl (zwT adT adT_bytes cB cI cL sT) H := hP
  have hD : va_D A (zwT adT adT_bytes cB cI cL sT) := hD
  have hG : g_T_numberBytesAt_c3 r_3 = some a := hG
  unfold g_T_numberBytesAt_c3 at hG
  refine lv_bipush (v := (6 : Int32)) hx hb d_T_numberBytesAt_6 (by decide) ?_
  refine lv_ishr hx hb d_T_numberBytesAt_8 ?_
  refine lv_ishl hx hb d_T_numberBytesAt_9 ?_
  exact W.iret (v := (1 : Int32) <<< ((r_3 >>> ((6 : Int32) &&& 31)) &&& 31)) hx hb hr (fun t9 ht9 hW9 => ⟨⟨(1 : Int32) <<< ((r_3 >>> ((6 : Int32) &&& 31)) &&& 31), (), rfl, Option.some.inj hG, by rw [ht9]; exact hP, hD⟩, hS.F ht9⟩) hS.2.2 d_T_numberBytesAt_10
set_option maxRecDepth 100000 in
set_option maxHeartbeats 4000000 in
theorem c_T_numberBytesAt (l : Launch) (dC : Nat → ClassId) (dI : Nat → Nat → Nat) (cB cI cL : ClassId) (sz : Nat) (adT adT_bytes : Nat) (sT : zT) (v1 : Int32) (a : Int32) (hG : g_T_numberBytesAt sT v1 = some a) : Met l y_T_numberBytesAt (zw y_T_numberBytesAt b_T_numberBytesAt 2 (some .int)) ({ frames := 1, cells := 0, slots := 0, locals := 21 }) (va_Pc [.ref adT, .int v1] (zpre dC dI cB cI cL sz (zwT adT adT_bytes cB cI cL sT))) (q_T_numberBytesAt dC dI cB cI cL (va_A (zwT adT adT_bytes cB cI cL sT) sz) adT adT_bytes sT a) 0 0 (va_A (zwT adT adT_bytes cB cI cL sT) sz) := by
  refine Met.ofW (cc := b_T_numberBytesAt) (maxL := 2) (ret := (some .int)) (by decide) rfl ?_
  intro p e s m args below meth c s₁ B hml hv
  obtain ⟨rfl, hsz, hP, zz, hD0⟩ := hv
  subst hsz
  have X := zx_of (F := 1) (L := 21) B hml (Nat.le_refl _) (Nat.le_refl _)
  have hD := hD0.self (sz := s.heap.size)
  have hA : ∀ q : Nat, s.heap.size ≤ q → va_A (zwT adT adT_bytes cB cI cL sT) s.heap.size q := fun q h => Or.inr h
  have hl := lv_entry ([.ref adT, .int v1]) (n := 2) (Nat.le_of_ble_eq_true rfl)
  rw [lg_entry_eq]
  generalize (lg_sl ([.ref adT, .int v1]) ++ List.replicate (2 - (lg_sl ([.ref adT, .int v1])).length) Slot.unset).toArray = ls at hl ⊢
  exact k_T_numberBytesAt_0 X hA zz sT v1 a hG adT adT_bytes _ _ hP hD va_S.rf ls hl
noncomputable def g_T_wordAt_47 (N : Nat) (kr : zT → Int32 → Int32 → Int64 → Int32 → Option (Int64)) (sT : zT) (v1 : Int32) (v2 : Int32) (v5 : Int32) (s0 : Int32) (s1 : Int64) : Option (Int64) := kr sT v1 v2 (s1 ||| s0.toInt64) (v5 + 1)
noncomputable def g_T_wordAt_46 (N : Nat) (kr : zT → Int32 → Int32 → Int64 → Int32 → Option (Int64)) (sT : zT) (v1 : Int32) (v2 : Int32) (v5 : Int32) (s0 : Int64) : Option (Int64) := g_T_wordAt_47 N kr sT v1 v2 v5 (0 : Int32) s0
noncomputable def g_T_wordAt_5_b (N : Nat) (kr : zT → Int32 → Int32 → Int64 → Int32 → Option (Int64)) (sT : zT) (v1 : Int32) (v2 : Int32) (v3 : Int64) (v5 : Int32) : Option (Int64) := if (v1 + v2) ≤ v5 then (some (v3)) else (if v5 < (0 : Int32) then (g_T_wordAt_46 N kr sT v1 v2 v5 (v3 <<< ((8 : Int32).toInt64 &&& 63))) else (if (nI (zT_bytesN sT)) ≤ v5 then (g_T_wordAt_46 N kr sT v1 v2 v5 (v3 <<< ((8 : Int32).toInt64 &&& 63))) else (zg (vp_in v5 (zT_bytesN sT)) (g_T_wordAt_47 N kr sT v1 v2 v5 (((zT_bytes sT) v5.toNatClampNeg) &&& (255 : Int32)) (v3 <<< ((8 : Int32).toInt64 &&& 63))))))
noncomputable def g_T_wordAt_5 (N : Nat) : Nat → zT → Int32 → Int32 → Int64 → Int32 → Option (Int64)
  | 0 => fun _ _ _ _ _ => none
  | k + 1 => fun sT v1 v2 v3 v5 => g_T_wordAt_5_b N (g_T_wordAt_5 N k) sT v1 v2 v3 v5
noncomputable def g_T_wordAt (N : Nat) (sT : zT) (v1 : Int32) (v2 : Int32) : Option (Int64) := g_T_wordAt_5 N N sT v1 v2 (0 : Int64) v1
def q_T_wordAt (dC : Nat → ClassId) (dI : Nat → Nat → Nat) (cB cI cL : ClassId) (A : Nat → Prop) (adT : Nat) (adT_bytes : Nat) (sT : zT) (a : Int64) : Array Value → State → Outcome → State → Prop := va_Ql (fun (r : Int64) (u : Unit) => (r) = a) (fun u U => va_P (dC, dI) zcl (zwT adT adT_bytes cB cI cL sT) U.heap ∧ va_D A (zwT adT adT_bytes cB cI cL sT)) A
set_option maxRecDepth 100000 in
set_option maxHeartbeats 4000000 in
theorem k_T_wordAt_47 {p : Program} {l : Launch} {e : Env} {R : Room} {s : State} {m : MethodId} {args : Array Value} {below : List Frame} {meth : Method} {c : Code} {dC : Nat → ClassId} {dI : Nat → Nat → Nat} {cB cI cL : ClassId} {A : Nat → Prop} (kr : zT → Int32 → Int32 → Int64 → Int32 → Option (Int64)) (hrec : ∀ (sT : zT) (v1 : Int32) (v2 : Int32) (v3 : Int64) (v5 : Int32) (a : Int64), kr sT v1 v2 v3 v5 = some a → ∀ (adT adT_bytes : Nat) (H : Heap) (locs : List Loc), va_P (dC, dI) zcl (zwT adT adT_bytes cB cI cL sT) H → va_D A (zwT adT adT_bytes cB cI cL sT) → va_S A s.heap H locs → ∀ ls : Array Slot, lv_has ls 6 [(0, .ref adT), (1, .int v1), (2, .int v2), (3, .long v3), (5, .int v5)] → W p l e R s m args below meth c H locs 0 0 (MQ below (q_T_wordAt dC dI cB cI cL A adT adT_bytes sT a) args s 0 0 A) (F0 m 5 ls [])) (X : zx p s m args meth c R R_T b_T_wordAt (some .long) 6 0 0) (hA : ∀ q, s.heap.size ≤ q → A q) (zz : zk dC dI cB cI cL A s)  (N : Nat) (sT : zT) (v1 : Int32) (v2 : Int32) (v5 : Int32) (s0 : Int32) (s1 : Int64) (a : Int64) (hG : g_T_wordAt_47 N kr sT v1 v2 v5 s0 s1 = some a) (adT adT_bytes : Nat) (H : Heap) (locs : List Loc) (hP : va_P (dC, dI) zcl (zwT adT adT_bytes cB cI cL sT) H) (hD : va_D A (zwT adT adT_bytes cB cI cL sT)) (hS : va_S A s.heap H locs) (ls : Array Slot) (hl : lv_has ls 6 [(0, .ref adT), (1, .int v1), (2, .int v2), (5, .int v5)]) : W p l e R s m args below meth c H locs 0 0 (MQ below (q_T_wordAt dC dI cB cI cL A adT adT_bytes sT a) args s 0 0 A) (F0 m 47 ls [.int s0, .long s1]) := by
  obtain ⟨hx, hb, hr, hml, hown, hts, hlocks, hRf, hRl⟩ := id X
  unfold g_T_wordAt_47 at hG
  refine lv_i2l hx hb d_T_wordAt_47 rfl ?_
  refine lv_lor hx hb d_T_wordAt_48 ?_
  refine lv_lstore_n (lv' := [(3, .long (s1 ||| s0.toInt64)), (0, .ref adT), (1, .int v1), (2, .int v2), (5, .int v5)]) hx hb d_T_wordAt_49 rfl hl (by decide) rfl (fun ls hl => ?_)
  refine lv_iinc (v := v5 + 1) (lv' := [(5, .int (v5 + 1)), (3, .long (s1 ||| s0.toInt64)), (0, .ref adT), (1, .int v1), (2, .int v2)]) hx hb d_T_wordAt_50 hl (k := 4) rfl rfl (by decide) rfl (fun ls hl => ?_)
  refine lv_goto (tgt := 5) hx hb d_T_wordAt_53 (by decide) ?_
  exact hrec sT v1 v2 (s1 ||| s0.toInt64) (v5 + 1) _ hG adT adT_bytes _ _ hP hD hS _ (lv_sub hl [2, 3, 4, 1, 0] rfl)
set_option maxRecDepth 100000 in
set_option maxHeartbeats 4000000 in
theorem k_T_wordAt_46 {p : Program} {l : Launch} {e : Env} {R : Room} {s : State} {m : MethodId} {args : Array Value} {below : List Frame} {meth : Method} {c : Code} {dC : Nat → ClassId} {dI : Nat → Nat → Nat} {cB cI cL : ClassId} {A : Nat → Prop} (kr : zT → Int32 → Int32 → Int64 → Int32 → Option (Int64)) (hrec : ∀ (sT : zT) (v1 : Int32) (v2 : Int32) (v3 : Int64) (v5 : Int32) (a : Int64), kr sT v1 v2 v3 v5 = some a → ∀ (adT adT_bytes : Nat) (H : Heap) (locs : List Loc), va_P (dC, dI) zcl (zwT adT adT_bytes cB cI cL sT) H → va_D A (zwT adT adT_bytes cB cI cL sT) → va_S A s.heap H locs → ∀ ls : Array Slot, lv_has ls 6 [(0, .ref adT), (1, .int v1), (2, .int v2), (3, .long v3), (5, .int v5)] → W p l e R s m args below meth c H locs 0 0 (MQ below (q_T_wordAt dC dI cB cI cL A adT adT_bytes sT a) args s 0 0 A) (F0 m 5 ls [])) (X : zx p s m args meth c R R_T b_T_wordAt (some .long) 6 0 0) (hA : ∀ q, s.heap.size ≤ q → A q) (zz : zk dC dI cB cI cL A s)  (N : Nat) (sT : zT) (v1 : Int32) (v2 : Int32) (v5 : Int32) (s0 : Int64) (a : Int64) (hG : g_T_wordAt_46 N kr sT v1 v2 v5 s0 = some a) (adT adT_bytes : Nat) (H : Heap) (locs : List Loc) (hP : va_P (dC, dI) zcl (zwT adT adT_bytes cB cI cL sT) H) (hD : va_D A (zwT adT adT_bytes cB cI cL sT)) (hS : va_S A s.heap H locs) (ls : Array Slot) (hl : lv_has ls 6 [(0, .ref adT), (1, .int v1), (2, .int v2), (5, .int v5)]) : W p l e R s m args below meth c H locs 0 0 (MQ below (q_T_wordAt dC dI cB cI cL A adT adT_bytes sT a) args s 0 0 A) (F0 m 46 ls [.long s0]) := by
  obtain ⟨hx, hb, hr, hml, hown, hts, hlocks, hRf, hRl⟩ := id X
  unfold g_T_wordAt_46 at hG
  refine lv_iconst (v := (0 : Int32)) hx hb d_T_wordAt_46 (by decide) ?_
  exact k_T_wordAt_47 kr hrec X hA zz N sT v1 v2 v5 (0 : Int32) s0 _ hG adT adT_bytes _ _ hP hD hS _ (lv_sub hl [0, 1, 2, 3] rfl)
set_option maxRecDepth 100000 in
set_option maxHeartbeats 4000000 in
theorem k_T_wordAt_5_b {p : Program} {l : Launch} {e : Env} {R : Room} {s : State} {m : MethodId} {args : Array Value} {below : List Frame} {meth : Method} {c : Code} {dC : Nat → ClassId} {dI : Nat → Nat → Nat} {cB cI cL : ClassId} {A : Nat → Prop} (kr : zT → Int32 → Int32 → Int64 → Int32 → Option (Int64)) (hrec : ∀ (sT : zT) (v1 : Int32) (v2 : Int32) (v3 : Int64) (v5 : Int32) (a : Int64), kr sT v1 v2 v3 v5 = some a → ∀ (adT adT_bytes : Nat) (H : Heap) (locs : List Loc), va_P (dC, dI) zcl (zwT adT adT_bytes cB cI cL sT) H → va_D A (zwT adT adT_bytes cB cI cL sT) → va_S A s.heap H locs → ∀ ls : Array Slot, lv_has ls 6 [(0, .ref adT), (1, .int v1), (2, .int v2), (3, .long v3), (5, .int v5)] → W p l e R s m args below meth c H locs 0 0 (MQ below (q_T_wordAt dC dI cB cI cL A adT adT_bytes sT a) args s 0 0 A) (F0 m 5 ls [])) (X : zx p s m args meth c R R_T b_T_wordAt (some .long) 6 0 0) (hA : ∀ q, s.heap.size ≤ q → A q) (zz : zk dC dI cB cI cL A s)  (N : Nat) (sT : zT) (v1 : Int32) (v2 : Int32) (v3 : Int64) (v5 : Int32) (a : Int64) (hG : g_T_wordAt_5_b N kr sT v1 v2 v3 v5 = some a) (adT adT_bytes : Nat) (H : Heap) (locs : List Loc) (hP : va_P (dC, dI) zcl (zwT adT adT_bytes cB cI cL sT) H) (hD : va_D A (zwT adT adT_bytes cB cI cL sT)) (hS : va_S A s.heap H locs) (ls : Array Slot) (hl : lv_has ls 6 [(0, .ref adT), (1, .int v1), (2, .int v2), (3, .long v3), (5, .int v5)]) : W p l e R s m args below meth c H locs 0 0 (MQ below (q_T_wordAt dC dI cB cI cL A adT adT_bytes sT a) args s 0 0 A) (F0 m 5 ls []) := by
  obtain ⟨hx, hb, hr, hml, hown, hts, hlocks, hRf, hRl⟩ := id X
  unfold g_T_wordAt_5_b at hG
  refine lv_iload hx hb d_T_wordAt_5 (lv_at hl 4 rfl) ?_
  refine lv_iload_n hx hb d_T_wordAt_7 rfl (lv_at hl 1 rfl) ?_
  refine lv_iload_n hx hb d_T_wordAt_8 rfl (lv_at hl 2 rfl) ?_
  refine lv_iadd hx hb d_T_wordAt_9 ?_
  refine lv_icmp_ge (tgt := 56) hx hb d_T_wordAt_10 (by decide) (fun hc => ?_) (fun hc => ?_)
  · have hG := zt hG hc
    refine lv_lload_n hx hb d_T_wordAt_56 rfl (lv_at hl 3 rfl) ?_
    exact W.lret (v := v3) hx hb hr (fun t9 ht9 hW9 => ⟨⟨v3, (), rfl, Option.some.inj hG, by rw [ht9]; exact hP, hD⟩, hS.F ht9⟩) hS.2.2 d_T_wordAt_57
  · have hG := zf hG hc
    refine lv_lload_n hx hb d_T_wordAt_13 rfl (lv_at hl 3 rfl) ?_
    refine lv_bipush (v := (8 : Int32)) hx hb d_T_wordAt_14 (by decide) ?_
    refine lv_lshl hx hb d_T_wordAt_16 rfl ?_
    refine lv_iload hx hb d_T_wordAt_17 (lv_at hl 4 rfl) ?_
    refine lv_if_lt (tgt := 46) hx hb d_T_wordAt_19 (by decide) (fun hc => ?_) (fun hc => ?_)
    · have hG := zt hG hc
      exact k_T_wordAt_46 kr hrec X hA zz N sT v1 v2 v5 (v3 <<< ((8 : Int32).toInt64 &&& 63)) _ hG adT adT_bytes _ _ hP hD hS _ (lv_sub hl [0, 1, 2, 4] rfl)
    · have hG := zf hG hc
      refine lv_iload hx hb d_T_wordAt_22 (lv_at hl 4 rfl) ?_
      refine lv_aload_n hx hb d_T_wordAt_24 rfl (lv_at hl 0 rfl) ?_
      refine va_get (D := (dC, dI)) (ci := 1) (v := .ref adT_bytes) (C := R_T) (T := F_T) (N := 3) hx hb hts zi_T hown zz.1 hP 0 rfl rfl 0 (by decide) (hts (.fieldLink R_T 9 "WireCodec$Tape" "bytes" "[B") zin_T_9) (fun _ h9 => h9) rfl d_T_wordAt_25 ?_
      refine va_alen (v := nI (zT_bytesN sT)) hx hb zz.1 hP 1 0 rfl rfl rfl d_T_wordAt_28 ?_
      refine lv_icmp_ge (tgt := 46) hx hb d_T_wordAt_29 (by decide) (fun hc => ?_) (fun hc => ?_)
      · have hG := zt hG hc
        exact k_T_wordAt_46 kr hrec X hA zz N sT v1 v2 v5 (v3 <<< ((8 : Int32).toInt64 &&& 63)) _ hG adT adT_bytes _ _ hP hD hS _ (lv_sub hl [0, 1, 2, 4] rfl)
      · have hG := zf hG hc
        refine lv_aload_n hx hb d_T_wordAt_32 rfl (lv_at hl 0 rfl) ?_
        refine va_get (D := (dC, dI)) (ci := 1) (v := .ref adT_bytes) (C := R_T) (T := F_T) (N := 3) hx hb hts zi_T hown zz.1 hP 0 rfl rfl 0 (by decide) (hts (.fieldLink R_T 9 "WireCodec$Tape" "bytes" "[B") zin_T_9) (fun _ h9 => h9) rfl d_T_wordAt_33 ?_
        refine lv_iload hx hb d_T_wordAt_36 (lv_at hl 4 rfl) ?_
        obtain ⟨hin, hG⟩ := zgd hG
        refine va_bald hx hb zz.1 hP 1 0 rfl rfl hin d_T_wordAt_38 ?_
        refine lv_sipush (v := (255 : Int32)) hx hb d_T_wordAt_39 (by decide) ?_
        refine lv_iand hx hb d_T_wordAt_42 ?_
        refine lv_goto (tgt := 47) hx hb d_T_wordAt_43 (by decide) ?_
        exact k_T_wordAt_47 kr hrec X hA zz N sT v1 v2 v5 (((zT_bytes sT) v5.toNatClampNeg) &&& (255 : Int32)) (v3 <<< ((8 : Int32).toInt64 &&& 63)) _ hG adT adT_bytes _ _ hP hD hS _ (lv_sub hl [0, 1, 2, 4] rfl)
theorem k_T_wordAt_5 {p : Program} {l : Launch} {e : Env} {R : Room} {s : State} {m : MethodId} {args : Array Value} {below : List Frame} {meth : Method} {c : Code} {dC : Nat → ClassId} {dI : Nat → Nat → Nat} {cB cI cL : ClassId} {A : Nat → Prop} (X : zx p s m args meth c R R_T b_T_wordAt (some .long) 6 0 0) (hA : ∀ q, s.heap.size ≤ q → A q) (zz : zk dC dI cB cI cL A s)  (N : Nat) : ∀ (k : Nat) (sT : zT) (v1 : Int32) (v2 : Int32) (v3 : Int64) (v5 : Int32) (a : Int64) (hG : g_T_wordAt_5 N k sT v1 v2 v3 v5 = some a) (adT adT_bytes : Nat) (H : Heap) (locs : List Loc) (hP : va_P (dC, dI) zcl (zwT adT adT_bytes cB cI cL sT) H) (hD : va_D A (zwT adT adT_bytes cB cI cL sT)) (hS : va_S A s.heap H locs) (ls : Array Slot) (hl : lv_has ls 6 [(0, .ref adT), (1, .int v1), (2, .int v2), (3, .long v3), (5, .int v5)]), W p l e R s m args below meth c H locs 0 0 (MQ below (q_T_wordAt dC dI cB cI cL A adT adT_bytes sT a) args s 0 0 A) (F0 m 5 ls []) := by
  intro k
  induction k with
  | zero => intro sT v1 v2 v3 v5 a hG; exact absurd hG (by unfold g_T_wordAt_5; simp)
  | succ k ih => intro sT v1 v2 v3 v5 a hG adT adT_bytes H locs hP hD hS ls hl; exact k_T_wordAt_5_b _ ih X hA zz N sT v1 v2 v3 v5 a hG adT adT_bytes H locs hP hD hS ls hl
set_option maxRecDepth 100000 in
set_option maxHeartbeats 4000000 in
theorem k_T_wordAt_0 {p : Program} {l : Launch} {e : Env} {R : Room} {s : State} {m : MethodId} {args : Array Value} {below : List Frame} {meth : Method} {c : Code} {dC : Nat → ClassId} {dI : Nat → Nat → Nat} {cB cI cL : ClassId} {A : Nat → Prop} (X : zx p s m args meth c R R_T b_T_wordAt (some .long) 6 0 0) (hA : ∀ q, s.heap.size ≤ q → A q) (zz : zk dC dI cB cI cL A s)  (N : Nat) (sT : zT) (v1 : Int32) (v2 : Int32) (a : Int64) (hG : g_T_wordAt N sT v1 v2 = some a) (adT adT_bytes : Nat) (H : Heap) (locs : List Loc) (hP : va_P (dC, dI) zcl (zwT adT adT_bytes cB cI cL sT) H) (hD : va_D A (zwT adT adT_bytes cB cI cL sT)) (hS : va_S A s.heap H locs) (ls : Array Slot) (hl : lv_has ls 6 [(0, .ref adT), (1, .int v1), (2, .int v2)]) : W p l e R s m args below meth c H locs 0 0 (MQ below (q_T_wordAt dC dI cB cI cL A adT adT_bytes sT a) args s 0 0 A) (F0 m 0 ls []) := by
  obtain ⟨hx, hb, hr, hml, hown, hts, hlocks, hRf, hRl⟩ := id X
  unfold g_T_wordAt at hG
  refine lv_lconst (v := (0 : Int64)) hx hb d_T_wordAt_0 (by decide) ?_
  refine lv_lstore_n (lv' := [(3, .long (0 : Int64)), (0, .ref adT), (1, .int v1), (2, .int v2)]) hx hb d_T_wordAt_1 rfl hl (by decide) rfl (fun ls hl => ?_)
  refine lv_iload_n hx hb d_T_wordAt_2 rfl (lv_at hl 2 rfl) ?_
  refine lv_istore (lv' := [(5, .int v1), (3, .long (0 : Int64)), (0, .ref adT), (1, .int v1), (2, .int v2)]) hx hb d_T_wordAt_3 hl (by decide) rfl (fun ls hl => ?_)
  exact k_T_wordAt_5 X hA zz N N sT v1 v2 (0 : Int64) v1 _ hG adT adT_bytes _ _ hP hD hS _ (lv_sub hl [2, 3, 4, 1, 0] rfl)
set_option maxRecDepth 100000 in
set_option maxHeartbeats 4000000 in
theorem c_T_wordAt (l : Launch) (dC : Nat → ClassId) (dI : Nat → Nat → Nat) (cB cI cL : ClassId) (sz : Nat) (adT adT_bytes : Nat) (N : Nat) (sT : zT) (v1 : Int32) (v2 : Int32) (a : Int64) (hG : g_T_wordAt N sT v1 v2 = some a) : Met l y_T_wordAt (zw y_T_wordAt b_T_wordAt 6 (some .long)) ({ frames := 0, cells := 0, slots := 0, locals := 0 }) (va_Pc [.ref adT, .int v1, .int v2] (zpre dC dI cB cI cL sz (zwT adT adT_bytes cB cI cL sT))) (q_T_wordAt dC dI cB cI cL (va_A (zwT adT adT_bytes cB cI cL sT) sz) adT adT_bytes sT a) 0 0 (va_A (zwT adT adT_bytes cB cI cL sT) sz) := by
  refine Met.ofW (cc := b_T_wordAt) (maxL := 6) (ret := (some .long)) (by decide) rfl ?_
  intro p e s m args below meth c s₁ B hml hv
  obtain ⟨rfl, hsz, hP, zz, hD0⟩ := hv
  subst hsz
  have X := zx_of (F := 0) (L := 0) B hml (Nat.le_refl _) (Nat.le_refl _)
  have hD := hD0.self (sz := s.heap.size)
  have hA : ∀ q : Nat, s.heap.size ≤ q → va_A (zwT adT adT_bytes cB cI cL sT) s.heap.size q := fun q h => Or.inr h
  have hl := lv_entry ([.ref adT, .int v1, .int v2]) (n := 6) (Nat.le_of_ble_eq_true rfl)
  rw [lg_entry_eq]
  generalize (lg_sl ([.ref adT, .int v1, .int v2]) ++ List.replicate (6 - (lg_sl ([.ref adT, .int v1, .int v2])).length) Slot.unset).toArray = ls at hl ⊢
  exact k_T_wordAt_0 X hA zz N sT v1 v2 a hG adT adT_bytes _ _ hP hD va_S.rf ls hl
noncomputable def g_T_startWriting_w5 (sT_5 : zT) : Option (zT) := some (sT_5)
noncomputable def g_T_startWriting (sT : zT) : Option (zT) := g_T_startWriting_w5 (zT_cursor' sT (zT_length sT))
def q_T_startWriting (dC : Nat → ClassId) (dI : Nat → Nat → Nat) (cB cI cL : ClassId) (A : Nat → Prop) (adT : Nat) (adT_bytes : Nat) (a : zT) : Array Value → State → Outcome → State → Prop := va_Qv (fun (u : zT) => (u) = a) (fun u U => va_P (dC, dI) zcl (zwT adT adT_bytes cB cI cL u) U.heap ∧ va_D A (zwT adT adT_bytes cB cI cL u)) A
set_option maxRecDepth 100000 in
set_option maxHeartbeats 4000000 in
theorem k_T_startWriting_0 {p : Program} {l : Launch} {e : Env} {R : Room} {s : State} {m : MethodId} {args : Array Value} {below : List Frame} {meth : Method} {c : Code} {dC : Nat → ClassId} {dI : Nat → Nat → Nat} {cB cI cL : ClassId} {A : Nat → Prop} (X : zx p s m args meth c R R_T b_T_startWriting none 1 0 0) (hA : ∀ q, s.heap.size ≤ q → A q) (zz : zk dC dI cB cI cL A s)  (sT : zT) (a : zT) (hG : g_T_startWriting sT = some a) (adT adT_bytes : Nat) (H : Heap) (locs : List Loc) (hP : va_P (dC, dI) zcl (zwT adT adT_bytes cB cI cL sT) H) (hD : va_D A (zwT adT adT_bytes cB cI cL sT)) (hS : va_S A s.heap H locs) (ls : Array Slot) (hl : lv_has ls 1 [(0, .ref adT)]) : W p l e R s m args below meth c H locs 0 0 (MQ below (q_T_startWriting dC dI cB cI cL A adT adT_bytes a) args s 0 0 A) (F0 m 0 ls []) := by
  obtain ⟨hx, hb, hr, hml, hown, hts, hlocks, hRf, hRl⟩ := id X
  unfold g_T_startWriting at hG
  refine lv_aload_n hx hb d_T_startWriting_0 rfl (lv_at hl 0 rfl) ?_
  refine lv_aload_n hx hb d_T_startWriting_1 rfl (lv_at hl 0 rfl) ?_
  refine va_get (D := (dC, dI)) (ci := 1) (v := .int (zT_length sT)) (C := R_T) (T := F_T) (N := 3) hx hb hts zi_T hown zz.1 hP 0 rfl rfl 2 (by decide) (hts (.fieldLink R_T 23 "WireCodec$Tape" "length" "I") zin_T_23) (fun _ h9 => h9) rfl d_T_startWriting_2 ?_
  refine va_put (D := (dC, dI)) (ci := 1) (v := .int (zT_length sT)) (ty := .int) (C := R_T) (T := F_T) (N := 3) hx hb hts zi_T zty_T zty_T_ok znm_T hown zz.1 hP hD hS 0 rfl rfl 1 (by decide) (hts (.fieldLink R_T 27 "WireCodec$Tape" "cursor" "I") zin_T_27) (fun _ h9 => h9) rfl (by decide +kernel) rfl rfl (Nat.le_of_ble_eq_true rfl) d_T_startWriting_5 (fun H locs hP hD hS => ?_)
  have hP : va_P (dC, dI) zcl (zwT adT adT_bytes cB cI cL (zT_cursor' sT (zT_length sT))) H := hP
  have hD : va_D A (zwT adT adT_bytes cB cI cL (zT_cursor' sT (zT_length sT))) := hD
  have hG : g_T_startWriting_w5 (zT_cursor' sT (zT_length sT)) = some a := hG
  generalize zT_cursor' sT (zT_length sT) = sT_5 at hP hD hG
  unfold g_T_startWriting_w5 at hG
  exact W.vret hx hb hr (fun t9 ht9 hW9 => ⟨⟨(sT_5), rfl, Option.some.inj hG, by rw [ht9]; exact hP, hD⟩, hS.F ht9⟩) hS.2.2 d_T_startWriting_8
set_option maxRecDepth 100000 in
set_option maxHeartbeats 4000000 in
theorem c_T_startWriting (l : Launch) (dC : Nat → ClassId) (dI : Nat → Nat → Nat) (cB cI cL : ClassId) (sz : Nat) (adT adT_bytes : Nat) (sT : zT) (a : zT) (hG : g_T_startWriting sT = some a) : Met l y_T_startWriting (zw y_T_startWriting b_T_startWriting 1 none) ({ frames := 0, cells := 0, slots := 0, locals := 0 }) (va_Pc [.ref adT] (zpre dC dI cB cI cL sz (zwT adT adT_bytes cB cI cL sT))) (q_T_startWriting dC dI cB cI cL (va_A (zwT adT adT_bytes cB cI cL sT) sz) adT adT_bytes a) 0 0 (va_A (zwT adT adT_bytes cB cI cL sT) sz) := by
  refine Met.ofW (cc := b_T_startWriting) (maxL := 1) (ret := none) (by decide) rfl ?_
  intro p e s m args below meth c s₁ B hml hv
  obtain ⟨rfl, hsz, hP, zz, hD0⟩ := hv
  subst hsz
  have X := zx_of (F := 0) (L := 0) B hml (Nat.le_refl _) (Nat.le_refl _)
  have hD := hD0.self (sz := s.heap.size)
  have hA : ∀ q : Nat, s.heap.size ≤ q → va_A (zwT adT adT_bytes cB cI cL sT) s.heap.size q := fun q h => Or.inr h
  have hl := lv_entry ([.ref adT]) (n := 1) (Nat.le_of_ble_eq_true rfl)
  rw [lg_entry_eq]
  generalize (lg_sl ([.ref adT]) ++ List.replicate (1 - (lg_sl ([.ref adT])).length) Slot.unset).toArray = ls at hl ⊢
  exact k_T_startWriting_0 X hA zz sT a hG adT adT_bytes _ _ hP hD va_S.rf ls hl
noncomputable def g_T_endWriting_w16 (sT_16 : zT) : Option (Int32 × zT) := some ((1 : Int32), sT_16)
noncomputable def g_T_endWriting (sT : zT) : Option (Int32 × zT) := if (zT_cursor sT) ≤ (65536 : Int32) then (g_T_endWriting_w16 (zT_length' sT (zT_cursor sT))) else (some ((0 : Int32), sT))
def q_T_endWriting (dC : Nat → ClassId) (dI : Nat → Nat → Nat) (cB cI cL : ClassId) (A : Nat → Prop) (adT : Nat) (adT_bytes : Nat) (a : Int32 × zT) : Array Value → State → Outcome → State → Prop := va_Qi (fun (r : Int32) (u : zT) => (r, u) = a) (fun u U => va_P (dC, dI) zcl (zwT adT adT_bytes cB cI cL u) U.heap ∧ va_D A (zwT adT adT_bytes cB cI cL u)) A
set_option maxRecDepth 100000 in
set_option maxHeartbeats 4000000 in
theorem k_T_endWriting_0 {p : Program} {l : Launch} {e : Env} {R : Room} {s : State} {m : MethodId} {args : Array Value} {below : List Frame} {meth : Method} {c : Code} {dC : Nat → ClassId} {dI : Nat → Nat → Nat} {cB cI cL : ClassId} {A : Nat → Prop} (X : zx p s m args meth c R R_T b_T_endWriting (some .boolean) 1 0 0) (hA : ∀ q, s.heap.size ≤ q → A q) (zz : zk dC dI cB cI cL A s)  (sT : zT) (a : Int32 × zT) (hG : g_T_endWriting sT = some a) (adT adT_bytes : Nat) (H : Heap) (locs : List Loc) (hP : va_P (dC, dI) zcl (zwT adT adT_bytes cB cI cL sT) H) (hD : va_D A (zwT adT adT_bytes cB cI cL sT)) (hS : va_S A s.heap H locs) (ls : Array Slot) (hl : lv_has ls 1 [(0, .ref adT)]) : W p l e R s m args below meth c H locs 0 0 (MQ below (q_T_endWriting dC dI cB cI cL A adT adT_bytes a) args s 0 0 A) (F0 m 0 ls []) := by
  obtain ⟨hx, hb, hr, hml, hown, hts, hlocks, hRf, hRl⟩ := id X
  unfold g_T_endWriting at hG
  refine lv_aload_n hx hb d_T_endWriting_0 rfl (lv_at hl 0 rfl) ?_
  refine va_get (D := (dC, dI)) (ci := 1) (v := .int (zT_cursor sT)) (C := R_T) (T := F_T) (N := 3) hx hb hts zi_T hown zz.1 hP 0 rfl rfl 1 (by decide) (hts (.fieldLink R_T 27 "WireCodec$Tape" "cursor" "I") zin_T_27) (fun _ h9 => h9) rfl d_T_endWriting_1 ?_
  refine lv_ldc (v := (65536 : Int32)) hx hb hown (hts (.constant R_T 30 (65536 : Int32)) zin_T_30) d_T_endWriting_4 ?_
  refine lv_icmp_le (tgt := 11) hx hb d_T_endWriting_6 (by decide) (fun hc => ?_) (fun hc => ?_)
  · have hG := zt hG hc
    refine lv_aload_n hx hb d_T_endWriting_11 rfl (lv_at hl 0 rfl) ?_
    refine lv_aload_n hx hb d_T_endWriting_12 rfl (lv_at hl 0 rfl) ?_
    refine va_get (D := (dC, dI)) (ci := 1) (v := .int (zT_cursor sT)) (C := R_T) (T := F_T) (N := 3) hx hb hts zi_T hown zz.1 hP 0 rfl rfl 1 (by decide) (hts (.fieldLink R_T 27 "WireCodec$Tape" "cursor" "I") zin_T_27) (fun _ h9 => h9) rfl d_T_endWriting_13 ?_
    refine va_put (D := (dC, dI)) (ci := 1) (v := .int (zT_cursor sT)) (ty := .int) (C := R_T) (T := F_T) (N := 3) hx hb hts zi_T zty_T zty_T_ok znm_T hown zz.1 hP hD hS 0 rfl rfl 2 (by decide) (hts (.fieldLink R_T 23 "WireCodec$Tape" "length" "I") zin_T_23) (fun _ h9 => h9) rfl (by decide +kernel) rfl rfl (Nat.le_of_ble_eq_true rfl) d_T_endWriting_16 (fun H locs hP hD hS => ?_)
    have hP : va_P (dC, dI) zcl (zwT adT adT_bytes cB cI cL (zT_length' sT (zT_cursor sT))) H := hP
    have hD : va_D A (zwT adT adT_bytes cB cI cL (zT_length' sT (zT_cursor sT))) := hD
    have hG : g_T_endWriting_w16 (zT_length' sT (zT_cursor sT)) = some a := hG
    generalize zT_length' sT (zT_cursor sT) = sT_16 at hP hD hG
    unfold g_T_endWriting_w16 at hG
    refine lv_iconst (v := (1 : Int32)) hx hb d_T_endWriting_19 (by decide) ?_
    exact W.zret (v := (1 : Int32)) hx hb hr (by decide) (fun t9 ht9 hW9 => ⟨⟨(1 : Int32), (sT_16), rfl, Option.some.inj hG, by rw [ht9]; exact hP, hD⟩, hS.F ht9⟩) hS.2.2 d_T_endWriting_20
  · have hG := zf hG hc
    refine lv_iconst (v := (0 : Int32)) hx hb d_T_endWriting_9 (by decide) ?_
    exact W.zret (v := (0 : Int32)) hx hb hr (by decide) (fun t9 ht9 hW9 => ⟨⟨(0 : Int32), (sT), rfl, Option.some.inj hG, by rw [ht9]; exact hP, hD⟩, hS.F ht9⟩) hS.2.2 d_T_endWriting_10
set_option maxRecDepth 100000 in
set_option maxHeartbeats 4000000 in
theorem c_T_endWriting (l : Launch) (dC : Nat → ClassId) (dI : Nat → Nat → Nat) (cB cI cL : ClassId) (sz : Nat) (adT adT_bytes : Nat) (sT : zT) (a : Int32 × zT) (hG : g_T_endWriting sT = some a) : Met l y_T_endWriting (zw y_T_endWriting b_T_endWriting 1 (some .boolean)) ({ frames := 0, cells := 0, slots := 0, locals := 0 }) (va_Pc [.ref adT] (zpre dC dI cB cI cL sz (zwT adT adT_bytes cB cI cL sT))) (q_T_endWriting dC dI cB cI cL (va_A (zwT adT adT_bytes cB cI cL sT) sz) adT adT_bytes a) 0 0 (va_A (zwT adT adT_bytes cB cI cL sT) sz) := by
  refine Met.ofW (cc := b_T_endWriting) (maxL := 1) (ret := (some .boolean)) (by decide) rfl ?_
  intro p e s m args below meth c s₁ B hml hv
  obtain ⟨rfl, hsz, hP, zz, hD0⟩ := hv
  subst hsz
  have X := zx_of (F := 0) (L := 0) B hml (Nat.le_refl _) (Nat.le_refl _)
  have hD := hD0.self (sz := s.heap.size)
  have hA : ∀ q : Nat, s.heap.size ≤ q → va_A (zwT adT adT_bytes cB cI cL sT) s.heap.size q := fun q h => Or.inr h
  have hl := lv_entry ([.ref adT]) (n := 1) (Nat.le_of_ble_eq_true rfl)
  rw [lg_entry_eq]
  generalize (lg_sl ([.ref adT]) ++ List.replicate (1 - (lg_sl ([.ref adT])).length) Slot.unset).toArray = ls at hl ⊢
  exact k_T_endWriting_0 X hA zz sT a hG adT adT_bytes _ _ hP hD va_S.rf ls hl
noncomputable def g_In_bitCount_l47 (v0_47 : Int32) : Option (Int32) := some (v0_47 &&& (63 : Int32))
noncomputable def g_In_bitCount_l40 (v0_40 : Int32) : Option (Int32) := g_In_bitCount_l47 (v0_40 + ((v0_40.toUInt32 >>> ((16 : Int32).toUInt32 &&& Int32.toUInt32 31)).toInt32))
noncomputable def g_In_bitCount_l33 (v0_33 : Int32) : Option (Int32) := g_In_bitCount_l40 (v0_33 + ((v0_33.toUInt32 >>> ((8 : Int32).toUInt32 &&& Int32.toUInt32 31)).toInt32))
noncomputable def g_In_bitCount_l23 (v0_23 : Int32) : Option (Int32) := g_In_bitCount_l33 ((v0_23 + ((v0_23.toUInt32 >>> ((4 : Int32).toUInt32 &&& Int32.toUInt32 31)).toInt32)) &&& (252645135 : Int32))
noncomputable def g_In_bitCount_l9 (v0_9 : Int32) : Option (Int32) := g_In_bitCount_l23 ((v0_9 &&& (858993459 : Int32)) + (((v0_9.toUInt32 >>> ((2 : Int32).toUInt32 &&& Int32.toUInt32 31)).toInt32) &&& (858993459 : Int32)))
noncomputable def g_In_bitCount (v0 : Int32) : Option (Int32) := g_In_bitCount_l9 (v0 - (((v0.toUInt32 >>> ((1 : Int32).toUInt32 &&& Int32.toUInt32 31)).toInt32) &&& (1431655765 : Int32)))
def q_In_bitCount (dC : Nat → ClassId) (dI : Nat → Nat → Nat) (cB cI cL : ClassId) (A : Nat → Prop) (a : Int32) : Array Value → State → Outcome → State → Prop := va_Qi (fun (r : Int32) (u : Unit) => (r) = a) (fun u U => va_P (dC, dI) zcl ([] : va_W) U.heap ∧ va_D A ([] : va_W)) A
set_option maxRecDepth 100000 in
set_option maxHeartbeats 4000000 in
theorem k_In_bitCount_0 {p : Program} {l : Launch} {e : Env} {R : Room} {s : State} {m : MethodId} {args : Array Value} {below : List Frame} {meth : Method} {c : Code} {dC : Nat → ClassId} {dI : Nat → Nat → Nat} {cB cI cL : ClassId} {A : Nat → Prop} (X : zx p s m args meth c R R_In b_In_bitCount (some .int) 1 0 0) (hA : ∀ q, s.heap.size ≤ q → A q) (zz : zk dC dI cB cI cL A s)  (v0 : Int32) (a : Int32) (hG : g_In_bitCount v0 = some a) (H : Heap) (locs : List Loc) (hP : va_P (dC, dI) zcl ([] : va_W) H) (hD : va_D A ([] : va_W)) (hS : va_S A s.heap H locs) (ls : Array Slot) (hl : lv_has ls 1 [(0, .int v0)]) : W p l e R s m args below meth c H locs 0 0 (MQ below (q_In_bitCount dC dI cB cI cL A a) args s 0 0 A) (F0 m 0 ls []) := by
  obtain ⟨hx, hb, hr, hml, hown, hts, hlocks, hRf, hRl⟩ := id X
  unfold g_In_bitCount at hG
  refine lv_iload_n hx hb d_In_bitCount_0 rfl (lv_at hl 0 rfl) ?_
  refine lv_iload_n hx hb d_In_bitCount_1 rfl (lv_at hl 0 rfl) ?_
  refine lv_iconst (v := (1 : Int32)) hx hb d_In_bitCount_2 (by decide) ?_
  refine lv_iushr hx hb d_In_bitCount_3 rfl ?_
  refine lv_ldcw (v := (1431655765 : Int32)) hx hb hown (hts (.constant R_In 265 (1431655765 : Int32)) zin_In_265) d_In_bitCount_4 ?_
  refine lv_iand hx hb d_In_bitCount_7 ?_
  refine lv_isub hx hb d_In_bitCount_8 ?_
  refine lv_istore_n (lv' := [(0, .int (v0 - (((v0.toUInt32 >>> ((1 : Int32).toUInt32 &&& Int32.toUInt32 31)).toInt32) &&& (1431655765 : Int32))))]) hx hb d_In_bitCount_9 rfl hl (by decide) rfl (fun ls hl => ?_)
  have hG : g_In_bitCount_l9 (v0 - (((v0.toUInt32 >>> ((1 : Int32).toUInt32 &&& Int32.toUInt32 31)).toInt32) &&& (1431655765 : Int32))) = some a := hG
  generalize v0 - (((v0.toUInt32 >>> ((1 : Int32).toUInt32 &&& Int32.toUInt32 31)).toInt32) &&& (1431655765 : Int32)) = v0_9 at hl hG
  unfold g_In_bitCount_l9 at hG
  refine lv_iload_n hx hb d_In_bitCount_10 rfl (lv_at hl 0 rfl) ?_
  refine lv_ldcw (v := (858993459 : Int32)) hx hb hown (hts (.constant R_In 266 (858993459 : Int32)) zin_In_266) d_In_bitCount_11 ?_
  refine lv_iand hx hb d_In_bitCount_14 ?_
  refine lv_iload_n hx hb d_In_bitCount_15 rfl (lv_at hl 0 rfl) ?_
  refine lv_iconst (v := (2 : Int32)) hx hb d_In_bitCount_16 (by decide) ?_
  refine lv_iushr hx hb d_In_bitCount_17 rfl ?_
  refine lv_ldcw (v := (858993459 : Int32)) hx hb hown (hts (.constant R_In 266 (858993459 : Int32)) zin_In_266) d_In_bitCount_18 ?_
  refine lv_iand hx hb d_In_bitCount_21 ?_
  refine lv_iadd hx hb d_In_bitCount_22 ?_
  refine lv_istore_n (lv' := [(0, .int ((v0_9 &&& (858993459 : Int32)) + (((v0_9.toUInt32 >>> ((2 : Int32).toUInt32 &&& Int32.toUInt32 31)).toInt32) &&& (858993459 : Int32))))]) hx hb d_In_bitCount_23 rfl hl (by decide) rfl (fun ls hl => ?_)
  have hG : g_In_bitCount_l23 ((v0_9 &&& (858993459 : Int32)) + (((v0_9.toUInt32 >>> ((2 : Int32).toUInt32 &&& Int32.toUInt32 31)).toInt32) &&& (858993459 : Int32))) = some a := hG
  generalize (v0_9 &&& (858993459 : Int32)) + (((v0_9.toUInt32 >>> ((2 : Int32).toUInt32 &&& Int32.toUInt32 31)).toInt32) &&& (858993459 : Int32)) = v0_23 at hl hG
  unfold g_In_bitCount_l23 at hG
  refine lv_iload_n hx hb d_In_bitCount_24 rfl (lv_at hl 0 rfl) ?_
  refine lv_iload_n hx hb d_In_bitCount_25 rfl (lv_at hl 0 rfl) ?_
  refine lv_iconst (v := (4 : Int32)) hx hb d_In_bitCount_26 (by decide) ?_
  refine lv_iushr hx hb d_In_bitCount_27 rfl ?_
  refine lv_iadd hx hb d_In_bitCount_28 ?_
  refine lv_ldcw (v := (252645135 : Int32)) hx hb hown (hts (.constant R_In 267 (252645135 : Int32)) zin_In_267) d_In_bitCount_29 ?_
  refine lv_iand hx hb d_In_bitCount_32 ?_
  refine lv_istore_n (lv' := [(0, .int ((v0_23 + ((v0_23.toUInt32 >>> ((4 : Int32).toUInt32 &&& Int32.toUInt32 31)).toInt32)) &&& (252645135 : Int32)))]) hx hb d_In_bitCount_33 rfl hl (by decide) rfl (fun ls hl => ?_)
  have hG : g_In_bitCount_l33 ((v0_23 + ((v0_23.toUInt32 >>> ((4 : Int32).toUInt32 &&& Int32.toUInt32 31)).toInt32)) &&& (252645135 : Int32)) = some a := hG
  generalize (v0_23 + ((v0_23.toUInt32 >>> ((4 : Int32).toUInt32 &&& Int32.toUInt32 31)).toInt32)) &&& (252645135 : Int32) = v0_33 at hl hG
  unfold g_In_bitCount_l33 at hG
  refine lv_iload_n hx hb d_In_bitCount_34 rfl (lv_at hl 0 rfl) ?_
  refine lv_iload_n hx hb d_In_bitCount_35 rfl (lv_at hl 0 rfl) ?_
  refine lv_bipush (v := (8 : Int32)) hx hb d_In_bitCount_36 (by decide) ?_
  refine lv_iushr hx hb d_In_bitCount_38 rfl ?_
  refine lv_iadd hx hb d_In_bitCount_39 ?_
  refine lv_istore_n (lv' := [(0, .int (v0_33 + ((v0_33.toUInt32 >>> ((8 : Int32).toUInt32 &&& Int32.toUInt32 31)).toInt32)))]) hx hb d_In_bitCount_40 rfl hl (by decide) rfl (fun ls hl => ?_)
  have hG : g_In_bitCount_l40 (v0_33 + ((v0_33.toUInt32 >>> ((8 : Int32).toUInt32 &&& Int32.toUInt32 31)).toInt32)) = some a := hG
  generalize v0_33 + ((v0_33.toUInt32 >>> ((8 : Int32).toUInt32 &&& Int32.toUInt32 31)).toInt32) = v0_40 at hl hG
  unfold g_In_bitCount_l40 at hG
  refine lv_iload_n hx hb d_In_bitCount_41 rfl (lv_at hl 0 rfl) ?_
  refine lv_iload_n hx hb d_In_bitCount_42 rfl (lv_at hl 0 rfl) ?_
  refine lv_bipush (v := (16 : Int32)) hx hb d_In_bitCount_43 (by decide) ?_
  refine lv_iushr hx hb d_In_bitCount_45 rfl ?_
  refine lv_iadd hx hb d_In_bitCount_46 ?_
  refine lv_istore_n (lv' := [(0, .int (v0_40 + ((v0_40.toUInt32 >>> ((16 : Int32).toUInt32 &&& Int32.toUInt32 31)).toInt32)))]) hx hb d_In_bitCount_47 rfl hl (by decide) rfl (fun ls hl => ?_)
  have hG : g_In_bitCount_l47 (v0_40 + ((v0_40.toUInt32 >>> ((16 : Int32).toUInt32 &&& Int32.toUInt32 31)).toInt32)) = some a := hG
  generalize v0_40 + ((v0_40.toUInt32 >>> ((16 : Int32).toUInt32 &&& Int32.toUInt32 31)).toInt32) = v0_47 at hl hG
  unfold g_In_bitCount_l47 at hG
  refine lv_iload_n hx hb d_In_bitCount_48 rfl (lv_at hl 0 rfl) ?_
  refine lv_bipush (v := (63 : Int32)) hx hb d_In_bitCount_49 (by decide) ?_
  refine lv_iand hx hb d_In_bitCount_51 ?_
  exact W.iret (v := v0_47 &&& (63 : Int32)) hx hb hr (fun t9 ht9 hW9 => ⟨⟨v0_47 &&& (63 : Int32), (), rfl, Option.some.inj hG, by rw [ht9]; exact hP, hD⟩, hS.F ht9⟩) hS.2.2 d_In_bitCount_52
set_option maxRecDepth 100000 in
set_option maxHeartbeats 4000000 in
theorem c_In_bitCount (l : Launch) (dC : Nat → ClassId) (dI : Nat → Nat → Nat) (cB cI cL : ClassId) (sz : Nat) (v0 : Int32) (a : Int32) (hG : g_In_bitCount v0 = some a) : Met l y_In_bitCount (zw y_In_bitCount b_In_bitCount 1 (some .int)) ({ frames := 0, cells := 0, slots := 0, locals := 0 }) (va_Pc [.int v0] (zpre dC dI cB cI cL sz ([] : va_W))) (q_In_bitCount dC dI cB cI cL (va_A ([] : va_W) sz) a) 0 0 (va_A ([] : va_W) sz) := by
  refine Met.ofW (cc := b_In_bitCount) (maxL := 1) (ret := (some .int)) (by decide) rfl ?_
  intro p e s m args below meth c s₁ B hml hv
  obtain ⟨rfl, hsz, hP, zz, hD0⟩ := hv
  subst hsz
  have X := zx_of (F := 0) (L := 0) B hml (Nat.le_refl _) (Nat.le_refl _)
  have hD := hD0.self (sz := s.heap.size)
  have hA : ∀ q : Nat, s.heap.size ≤ q → va_A ([] : va_W) s.heap.size q := fun q h => Or.inr h
  have hl := lv_entry ([.int v0]) (n := 1) (Nat.le_of_ble_eq_true rfl)
  rw [lg_entry_eq]
  generalize (lg_sl ([.int v0]) ++ List.replicate (1 - (lg_sl ([.int v0])).length) Slot.unset).toArray = ls at hl ⊢
  exact k_In_bitCount_0 X hA zz v0 a hG _ _ hP hD va_S.rf ls hl
noncomputable def g_Ar_copyOf_aBI (x0 : (Nat → Int32)) (x0n : Nat) (v1 : Int32) : Option (((Nat → Int32) × Nat) × Nat × Nat) := if v1 = (nI x0n) then none else (zg (¬ v1 < 0 ∧ v1.toNatClampNeg * componentBytes .byte ≤ 536870912) (zca 1 (v1.toNatClampNeg) (zg ((¬ (0 : Int32) < 0) ∧ (¬ (0 : Int32) < 0) ∧ (¬ (if v1 < (nI x0n) then v1 else (nI x0n)) < 0) ∧ (0 : Int32).toNatClampNeg + (if v1 < (nI x0n) then v1 else (nI x0n)).toNatClampNeg ≤ x0n ∧ (0 : Int32).toNatClampNeg + (if v1 < (nI x0n) then v1 else (nI x0n)).toNatClampNeg ≤ v1.toNatClampNeg ∧ ∀ i, i < (if v1 < (nI x0n) then v1 else (nI x0n)).toNatClampNeg → fits .byte (.int (x0 ((0 : Int32).toNatClampNeg + i))) = true) (some ((va_cpy x0 (fun _ => (0 : Int32)) ((0 : Int32).toNatClampNeg) ((0 : Int32).toNatClampNeg) ((if v1 < (nI x0n) then v1 else (nI x0n)).toNatClampNeg), v1.toNatClampNeg), 0, 0)))))
def q_Ar_copyOf_aBI (dC : Nat → ClassId) (dI : Nat → Nat → Nat) (cB cI cL : ClassId) (A : Nat → Prop) (adx0 : Nat) (x0 : (Nat → Int32)) (x0n : Nat) (a : (Nat → Int32) × Nat) : Array Value → State → Outcome → State → Prop := va_Qr (fun (u : (Nat → Int32) × Nat) => u = a) (fun u a9 U => va_P (dC, dI) zcl ([(adx0, .inl (cB, x0n, .inl x0))] ++ [(a9, .inl (cB, u.2, .inl u.1))]) U.heap ∧ va_D A ([(adx0, .inl (cB, x0n, .inl x0))] ++ [(a9, .inl (cB, u.2, .inl u.1))])) A
set_option maxRecDepth 100000 in
set_option maxHeartbeats 4000000 in
theorem k_Ar_copyOf_aBI_0 {p : Program} {l : Launch} {e : Env} {R : Room} {s : State} {m : MethodId} {args : Array Value} {below : List Frame} {meth : Method} {c : Code} {dC : Nat → ClassId} {dI : Nat → Nat → Nat} {cB cI cL : ClassId} {A : Nat → Prop} (X : zx p s m args meth c R R_Ar b_Ar_copyOf_aBI (some (.array .byte)) 3 1 60) (hA : ∀ q, s.heap.size ≤ q → A q) (zz : zk dC dI cB cI cL A s)  (x0 : (Nat → Int32)) (x0n : Nat) (v1 : Int32) (a : (Nat → Int32) × Nat) (c9 z9 cells slots tc tz : Nat) (hG : g_Ar_copyOf_aBI x0 x0n v1 = some (a, c9, z9)) (kc : cells + c9 = tc) (kz : slots + z9 = tz) (hRc : tc ≤ R.cells) (hRz : tz ≤ R.slots) (adx0 : Nat) (H : Heap) (locs : List Loc) (hP : va_P (dC, dI) zcl ([(adx0, .inl (cB, x0n, .inl x0))]) H) (hD : va_D A ([(adx0, .inl (cB, x0n, .inl x0))])) (hS : va_S A s.heap H locs) (ls : Array Slot) (hl : lv_has ls 3 [(0, .ref adx0), (1, .int v1)]) : W p l e R s m args below meth c H locs cells slots (MQ below (q_Ar_copyOf_aBI dC dI cB cI cL A adx0 x0 x0n a) args s tc tz A) (F0 m 0 ls []) := by
  obtain ⟨hx, hb, hr, hml, hown, hts, hlocks, hRf, hRl⟩ := id X
  unfold g_Ar_copyOf_aBI at hG
  refine lv_iload_n hx hb d_Ar_copyOf_aBI_0 rfl (lv_at hl 1 rfl) ?_
  refine lv_aload_n hx hb d_Ar_copyOf_aBI_1 rfl (lv_at hl 0 rfl) ?_
  refine va_alen (v := nI x0n) hx hb zz.1 hP 0 0 rfl rfl rfl d_Ar_copyOf_aBI_2 ?_
  refine lv_icmp_ne (tgt := 14) hx hb d_Ar_copyOf_aBI_3 (by decide) (fun hc => ?_) (fun hc => ?_)
  · have hG := zf hG hc
    refine lv_iload_n hx hb d_Ar_copyOf_aBI_14 rfl (lv_at hl 1 rfl) ?_
    obtain ⟨hng, hG⟩ := zgd hG
    obtain ⟨c9, z9, hG, kc, kz⟩ := zcae hG kc kz
    refine va_newa (atype := .byte) (ty := .byte) (N' := v1.toNatClampNeg) (a0 := (v1.toNatClampNeg, .inl (fun _ => (0 : Int32)))) hx hb (hts (.arrayClass .byte) zin_arrB) rfl zz.1 hP hD hS hA (fun _ => rfl) hng.1 rfl hng.2 (zle kc hRc) (zle kz hRz) d_Ar_copyOf_aBI_15 (fun q15 cA9 H hK9 hP hD hS => ?_)
    obtain rfl := zarrB hK9
    have hP : va_P (dC, dI) zcl ([(adx0, .inl (cB, x0n, .inl x0)), (q15, .inl (cB, v1.toNatClampNeg, .inl (fun _ => (0 : Int32))))]) H := hP
    have hD : va_D A ([(adx0, .inl (cB, x0n, .inl x0)), (q15, .inl (cB, v1.toNatClampNeg, .inl (fun _ => (0 : Int32))))]) := hD
    generalize cells + 1 = cells at kc ⊢
    generalize slots + v1.toNatClampNeg = slots at kz ⊢
    refine lv_astore_n (lv' := [(2, .ref q15), (0, .ref adx0), (1, .int v1)]) hx hb d_Ar_copyOf_aBI_17 rfl hl (by decide) rfl (fun ls hl => ?_)
    refine lv_aload_n hx hb d_Ar_copyOf_aBI_18 rfl (lv_at hl 1 rfl) ?_
    refine lv_iconst (v := (0 : Int32)) hx hb d_Ar_copyOf_aBI_19 (by decide) ?_
    refine lv_aload_n hx hb d_Ar_copyOf_aBI_20 rfl (lv_at hl 0 rfl) ?_
    refine lv_iconst (v := (0 : Int32)) hx hb d_Ar_copyOf_aBI_21 (by decide) ?_
    refine lv_aload_n hx hb d_Ar_copyOf_aBI_22 rfl (lv_at hl 1 rfl) ?_
    refine va_alen (v := nI x0n) hx hb zz.1 hP 0 0 rfl rfl rfl d_Ar_copyOf_aBI_23 ?_
    refine lv_iload_n hx hb d_Ar_copyOf_aBI_24 rfl (lv_at hl 2 rfl) ?_
    refine va_mmin (rest := [.int (0 : Int32), .ref q15, .int (0 : Int32), .ref adx0]) hx hb (hml.trans hl.1.symm) hown (hts (.methodLink R_Ar 304 Lib.Math.min.name) zin_Ar_304) (hts _ zin_min1) (hts _ zin_math) (hts _ zin_min2) (Nat.le_trans (Nat.le_of_ble_eq_true rfl) hRf) (Nat.le_trans (Nat.le_of_ble_eq_true rfl) hRl) (zle kc hRc) (zle kz hRz) d_Ar_copyOf_aBI_25 ?_
    obtain ⟨⟨h91, h92, h93, h94, h95, h96⟩, hG⟩ := zgd hG
    refine va_copyi (rest := []) hx hb (hml.trans hl.1.symm) hown (hts (.methodLink R_Ar 150 arraycopyName) zin_Ar_150) (hts _ zin_acp1) (hts _ zin_acp2) (hts _ zin_sys) zz.1 hP hD hS 0 1 0 0 rfl rfl rfl rfl rfl h91 h92 h93 h94 h95 h96 (Nat.le_trans (Nat.le_of_ble_eq_true rfl) hRf) (Nat.le_trans (by decide) hRl) d_Ar_copyOf_aBI_28 (fun H locs hP hD hS => ?_)
    have hP : va_P (dC, dI) zcl ([(adx0, .inl (cB, x0n, .inl x0)), (q15, .inl (cB, v1.toNatClampNeg, .inl (va_cpy x0 (fun _ => (0 : Int32)) ((0 : Int32).toNatClampNeg) ((0 : Int32).toNatClampNeg) ((if v1 < (nI x0n) then v1 else (nI x0n)).toNatClampNeg))))]) H := hP
    have hD : va_D A ([(adx0, .inl (cB, x0n, .inl x0)), (q15, .inl (cB, v1.toNatClampNeg, .inl (va_cpy x0 (fun _ => (0 : Int32)) ((0 : Int32).toNatClampNeg) ((0 : Int32).toNatClampNeg) ((if v1 < (nI x0n) then v1 else (nI x0n)).toNatClampNeg))))]) := hD
    refine lv_aload_n hx hb d_Ar_copyOf_aBI_31 rfl (lv_at hl 0 rfl) ?_
    obtain ⟨hG, e91, e92⟩ := zc0 hG
    refine W.widen (k := tc) (n := tz) (Nat.le.intro kc) (Nat.le.intro kz) ?_
    exact W.aret (v := .ref q15) hx hb hr (Or.inr ⟨_, rfl⟩) (Or.inr ⟨_, rfl⟩) (fun t9 ht9 hW9 => ⟨⟨(va_cpy x0 (fun _ => (0 : Int32)) ((0 : Int32).toNatClampNeg) ((0 : Int32).toNatClampNeg) ((if v1 < (nI x0n) then v1 else (nI x0n)).toNatClampNeg), v1.toNatClampNeg), q15, rfl, hG, by rw [ht9]; exact hP, hD⟩, hS.F ht9⟩) hS.2.2 d_Ar_copyOf_aBI_32
  · have hG := zt hG hc
    refine lv_aload_n hx hb d_Ar_copyOf_aBI_6 rfl (lv_at hl 0 rfl) ?_
    exact absurd hG (by simp)
set_option maxRecDepth 100000 in
set_option maxHeartbeats 4000000 in
theorem c_Ar_copyOf_aBI (l : Launch) (dC : Nat → ClassId) (dI : Nat → Nat → Nat) (cB cI cL : ClassId) (sz : Nat) (adx0 : Nat) (x0 : (Nat → Int32)) (x0n : Nat) (v1 : Int32) (a : (Nat → Int32) × Nat) (c9 z9 : Nat) (hG : g_Ar_copyOf_aBI x0 x0n v1 = some (a, c9, z9)) : Met l y_Ar_copyOf_aBI (zw y_Ar_copyOf_aBI b_Ar_copyOf_aBI 3 (some (.array .byte))) ({ frames := 1, cells := c9, slots := z9, locals := 60 }) (va_Pc [.ref adx0, .int v1] (zpre dC dI cB cI cL sz ([(adx0, .inl (cB, x0n, .inl x0))]))) (q_Ar_copyOf_aBI dC dI cB cI cL (va_A ([(adx0, .inl (cB, x0n, .inl x0))]) sz) adx0 x0 x0n a) c9 z9 (va_A ([(adx0, .inl (cB, x0n, .inl x0))]) sz) := by
  refine Met.ofW (cc := b_Ar_copyOf_aBI) (maxL := 3) (ret := (some (.array .byte))) (by decide) rfl ?_
  intro p e s m args below meth c s₁ B hml hv
  obtain ⟨rfl, hsz, hP, zz, hD0⟩ := hv
  subst hsz
  have X := zx_of (F := 1) (L := 60) B hml (Nat.le_refl _) (Nat.le_refl _)
  have hD := hD0.self (sz := s.heap.size)
  have hA : ∀ q : Nat, s.heap.size ≤ q → va_A ([(adx0, .inl (cB, x0n, .inl x0))]) s.heap.size q := fun q h => Or.inr h
  have hl := lv_entry ([.ref adx0, .int v1]) (n := 3) (Nat.le_of_ble_eq_true rfl)
  rw [lg_entry_eq]
  generalize (lg_sl ([.ref adx0, .int v1]) ++ List.replicate (3 - (lg_sl ([.ref adx0, .int v1])).length) Slot.unset).toArray = ls at hl ⊢
  exact k_Ar_copyOf_aBI_0 X hA zz x0 x0n v1 a c9 z9 0 0 c9 z9 hG (Nat.zero_add _) (Nat.zero_add _) (Nat.le_refl _) (Nat.le_refl _) adx0 _ _ hP hD va_S.rf ls hl
noncomputable def g_Ar_copyOf_aII (x0 : (Nat → Int32)) (x0n : Nat) (v1 : Int32) : Option (((Nat → Int32) × Nat) × Nat × Nat) := if v1 = (nI x0n) then none else (zg (¬ v1 < 0 ∧ v1.toNatClampNeg * componentBytes .int ≤ 536870912) (zca 1 (v1.toNatClampNeg) (zg ((¬ (0 : Int32) < 0) ∧ (¬ (0 : Int32) < 0) ∧ (¬ (if v1 < (nI x0n) then v1 else (nI x0n)) < 0) ∧ (0 : Int32).toNatClampNeg + (if v1 < (nI x0n) then v1 else (nI x0n)).toNatClampNeg ≤ x0n ∧ (0 : Int32).toNatClampNeg + (if v1 < (nI x0n) then v1 else (nI x0n)).toNatClampNeg ≤ v1.toNatClampNeg ∧ ∀ i, i < (if v1 < (nI x0n) then v1 else (nI x0n)).toNatClampNeg → fits .int (.int (x0 ((0 : Int32).toNatClampNeg + i))) = true) (some ((va_cpy x0 (fun _ => (0 : Int32)) ((0 : Int32).toNatClampNeg) ((0 : Int32).toNatClampNeg) ((if v1 < (nI x0n) then v1 else (nI x0n)).toNatClampNeg), v1.toNatClampNeg), 0, 0)))))
def q_Ar_copyOf_aII (dC : Nat → ClassId) (dI : Nat → Nat → Nat) (cB cI cL : ClassId) (A : Nat → Prop) (adx0 : Nat) (x0 : (Nat → Int32)) (x0n : Nat) (a : (Nat → Int32) × Nat) : Array Value → State → Outcome → State → Prop := va_Qr (fun (u : (Nat → Int32) × Nat) => u = a) (fun u a9 U => va_P (dC, dI) zcl ([(adx0, .inl (cI, x0n, .inl x0))] ++ [(a9, .inl (cI, u.2, .inl u.1))]) U.heap ∧ va_D A ([(adx0, .inl (cI, x0n, .inl x0))] ++ [(a9, .inl (cI, u.2, .inl u.1))])) A
set_option maxRecDepth 100000 in
set_option maxHeartbeats 4000000 in
theorem k_Ar_copyOf_aII_0 {p : Program} {l : Launch} {e : Env} {R : Room} {s : State} {m : MethodId} {args : Array Value} {below : List Frame} {meth : Method} {c : Code} {dC : Nat → ClassId} {dI : Nat → Nat → Nat} {cB cI cL : ClassId} {A : Nat → Prop} (X : zx p s m args meth c R R_Ar b_Ar_copyOf_aII (some (.array .int)) 3 1 60) (hA : ∀ q, s.heap.size ≤ q → A q) (zz : zk dC dI cB cI cL A s)  (x0 : (Nat → Int32)) (x0n : Nat) (v1 : Int32) (a : (Nat → Int32) × Nat) (c9 z9 cells slots tc tz : Nat) (hG : g_Ar_copyOf_aII x0 x0n v1 = some (a, c9, z9)) (kc : cells + c9 = tc) (kz : slots + z9 = tz) (hRc : tc ≤ R.cells) (hRz : tz ≤ R.slots) (adx0 : Nat) (H : Heap) (locs : List Loc) (hP : va_P (dC, dI) zcl ([(adx0, .inl (cI, x0n, .inl x0))]) H) (hD : va_D A ([(adx0, .inl (cI, x0n, .inl x0))])) (hS : va_S A s.heap H locs) (ls : Array Slot) (hl : lv_has ls 3 [(0, .ref adx0), (1, .int v1)]) : W p l e R s m args below meth c H locs cells slots (MQ below (q_Ar_copyOf_aII dC dI cB cI cL A adx0 x0 x0n a) args s tc tz A) (F0 m 0 ls []) := by
  obtain ⟨hx, hb, hr, hml, hown, hts, hlocks, hRf, hRl⟩ := id X
  unfold g_Ar_copyOf_aII at hG
  refine lv_iload_n hx hb d_Ar_copyOf_aII_0 rfl (lv_at hl 1 rfl) ?_
  refine lv_aload_n hx hb d_Ar_copyOf_aII_1 rfl (lv_at hl 0 rfl) ?_
  refine va_alen (v := nI x0n) hx hb zz.1 hP 0 1 rfl rfl rfl d_Ar_copyOf_aII_2 ?_
  refine lv_icmp_ne (tgt := 14) hx hb d_Ar_copyOf_aII_3 (by decide) (fun hc => ?_) (fun hc => ?_)
  · have hG := zf hG hc
    refine lv_iload_n hx hb d_Ar_copyOf_aII_14 rfl (lv_at hl 1 rfl) ?_
    obtain ⟨hng, hG⟩ := zgd hG
    obtain ⟨c9, z9, hG, kc, kz⟩ := zcae hG kc kz
    refine va_newa (atype := .int) (ty := .int) (N' := v1.toNatClampNeg) (a0 := (v1.toNatClampNeg, .inl (fun _ => (0 : Int32)))) hx hb (hts (.arrayClass .int) zin_arrI) rfl zz.1 hP hD hS hA (fun _ => rfl) hng.1 rfl hng.2 (zle kc hRc) (zle kz hRz) d_Ar_copyOf_aII_15 (fun q15 cA9 H hK9 hP hD hS => ?_)
    obtain rfl := zarrI hK9
    have hP : va_P (dC, dI) zcl ([(adx0, .inl (cI, x0n, .inl x0)), (q15, .inl (cI, v1.toNatClampNeg, .inl (fun _ => (0 : Int32))))]) H := hP
    have hD : va_D A ([(adx0, .inl (cI, x0n, .inl x0)), (q15, .inl (cI, v1.toNatClampNeg, .inl (fun _ => (0 : Int32))))]) := hD
    generalize cells + 1 = cells at kc ⊢
    generalize slots + v1.toNatClampNeg = slots at kz ⊢
    refine lv_astore_n (lv' := [(2, .ref q15), (0, .ref adx0), (1, .int v1)]) hx hb d_Ar_copyOf_aII_17 rfl hl (by decide) rfl (fun ls hl => ?_)
    refine lv_aload_n hx hb d_Ar_copyOf_aII_18 rfl (lv_at hl 1 rfl) ?_
    refine lv_iconst (v := (0 : Int32)) hx hb d_Ar_copyOf_aII_19 (by decide) ?_
    refine lv_aload_n hx hb d_Ar_copyOf_aII_20 rfl (lv_at hl 0 rfl) ?_
    refine lv_iconst (v := (0 : Int32)) hx hb d_Ar_copyOf_aII_21 (by decide) ?_
    refine lv_aload_n hx hb d_Ar_copyOf_aII_22 rfl (lv_at hl 1 rfl) ?_
    refine va_alen (v := nI x0n) hx hb zz.1 hP 0 1 rfl rfl rfl d_Ar_copyOf_aII_23 ?_
    refine lv_iload_n hx hb d_Ar_copyOf_aII_24 rfl (lv_at hl 2 rfl) ?_
    refine va_mmin (rest := [.int (0 : Int32), .ref q15, .int (0 : Int32), .ref adx0]) hx hb (hml.trans hl.1.symm) hown (hts (.methodLink R_Ar 304 Lib.Math.min.name) zin_Ar_304) (hts _ zin_min1) (hts _ zin_math) (hts _ zin_min2) (Nat.le_trans (Nat.le_of_ble_eq_true rfl) hRf) (Nat.le_trans (Nat.le_of_ble_eq_true rfl) hRl) (zle kc hRc) (zle kz hRz) d_Ar_copyOf_aII_25 ?_
    obtain ⟨⟨h91, h92, h93, h94, h95, h96⟩, hG⟩ := zgd hG
    refine va_copyi (rest := []) hx hb (hml.trans hl.1.symm) hown (hts (.methodLink R_Ar 150 arraycopyName) zin_Ar_150) (hts _ zin_acp1) (hts _ zin_acp2) (hts _ zin_sys) zz.1 hP hD hS 0 1 1 1 rfl rfl rfl rfl rfl h91 h92 h93 h94 h95 h96 (Nat.le_trans (Nat.le_of_ble_eq_true rfl) hRf) (Nat.le_trans (by decide) hRl) d_Ar_copyOf_aII_28 (fun H locs hP hD hS => ?_)
    have hP : va_P (dC, dI) zcl ([(adx0, .inl (cI, x0n, .inl x0)), (q15, .inl (cI, v1.toNatClampNeg, .inl (va_cpy x0 (fun _ => (0 : Int32)) ((0 : Int32).toNatClampNeg) ((0 : Int32).toNatClampNeg) ((if v1 < (nI x0n) then v1 else (nI x0n)).toNatClampNeg))))]) H := hP
    have hD : va_D A ([(adx0, .inl (cI, x0n, .inl x0)), (q15, .inl (cI, v1.toNatClampNeg, .inl (va_cpy x0 (fun _ => (0 : Int32)) ((0 : Int32).toNatClampNeg) ((0 : Int32).toNatClampNeg) ((if v1 < (nI x0n) then v1 else (nI x0n)).toNatClampNeg))))]) := hD
    refine lv_aload_n hx hb d_Ar_copyOf_aII_31 rfl (lv_at hl 0 rfl) ?_
    obtain ⟨hG, e91, e92⟩ := zc0 hG
    refine W.widen (k := tc) (n := tz) (Nat.le.intro kc) (Nat.le.intro kz) ?_
    exact W.aret (v := .ref q15) hx hb hr (Or.inr ⟨_, rfl⟩) (Or.inr ⟨_, rfl⟩) (fun t9 ht9 hW9 => ⟨⟨(va_cpy x0 (fun _ => (0 : Int32)) ((0 : Int32).toNatClampNeg) ((0 : Int32).toNatClampNeg) ((if v1 < (nI x0n) then v1 else (nI x0n)).toNatClampNeg), v1.toNatClampNeg), q15, rfl, hG, by rw [ht9]; exact hP, hD⟩, hS.F ht9⟩) hS.2.2 d_Ar_copyOf_aII_32
  · have hG := zt hG hc
    refine lv_aload_n hx hb d_Ar_copyOf_aII_6 rfl (lv_at hl 0 rfl) ?_
    exact absurd hG (by simp)
set_option maxRecDepth 100000 in
set_option maxHeartbeats 4000000 in
theorem c_Ar_copyOf_aII (l : Launch) (dC : Nat → ClassId) (dI : Nat → Nat → Nat) (cB cI cL : ClassId) (sz : Nat) (adx0 : Nat) (x0 : (Nat → Int32)) (x0n : Nat) (v1 : Int32) (a : (Nat → Int32) × Nat) (c9 z9 : Nat) (hG : g_Ar_copyOf_aII x0 x0n v1 = some (a, c9, z9)) : Met l y_Ar_copyOf_aII (zw y_Ar_copyOf_aII b_Ar_copyOf_aII 3 (some (.array .int))) ({ frames := 1, cells := c9, slots := z9, locals := 60 }) (va_Pc [.ref adx0, .int v1] (zpre dC dI cB cI cL sz ([(adx0, .inl (cI, x0n, .inl x0))]))) (q_Ar_copyOf_aII dC dI cB cI cL (va_A ([(adx0, .inl (cI, x0n, .inl x0))]) sz) adx0 x0 x0n a) c9 z9 (va_A ([(adx0, .inl (cI, x0n, .inl x0))]) sz) := by
  refine Met.ofW (cc := b_Ar_copyOf_aII) (maxL := 3) (ret := (some (.array .int))) (by decide) rfl ?_
  intro p e s m args below meth c s₁ B hml hv
  obtain ⟨rfl, hsz, hP, zz, hD0⟩ := hv
  subst hsz
  have X := zx_of (F := 1) (L := 60) B hml (Nat.le_refl _) (Nat.le_refl _)
  have hD := hD0.self (sz := s.heap.size)
  have hA : ∀ q : Nat, s.heap.size ≤ q → va_A ([(adx0, .inl (cI, x0n, .inl x0))]) s.heap.size q := fun q h => Or.inr h
  have hl := lv_entry ([.ref adx0, .int v1]) (n := 3) (Nat.le_of_ble_eq_true rfl)
  rw [lg_entry_eq]
  generalize (lg_sl ([.ref adx0, .int v1]) ++ List.replicate (3 - (lg_sl ([.ref adx0, .int v1])).length) Slot.unset).toArray = ls at hl ⊢
  exact k_Ar_copyOf_aII_0 X hA zz x0 x0n v1 a c9 z9 0 0 c9 z9 hG (Nat.zero_add _) (Nat.zero_add _) (Nat.le_refl _) (Nat.le_refl _) adx0 _ _ hP hD va_S.rf ls hl
noncomputable def g_Ar_copyOf_aJI (x0 : (Nat → Int64)) (x0n : Nat) (v1 : Int32) : Option (((Nat → Int64) × Nat) × Nat × Nat) := if v1 = (nI x0n) then none else (zg (¬ v1 < 0 ∧ v1.toNatClampNeg * componentBytes .long ≤ 536870912) (zca 1 (v1.toNatClampNeg) (zg ((¬ (0 : Int32) < 0) ∧ (¬ (0 : Int32) < 0) ∧ (¬ (if v1 < (nI x0n) then v1 else (nI x0n)) < 0) ∧ (0 : Int32).toNatClampNeg + (if v1 < (nI x0n) then v1 else (nI x0n)).toNatClampNeg ≤ x0n ∧ (0 : Int32).toNatClampNeg + (if v1 < (nI x0n) then v1 else (nI x0n)).toNatClampNeg ≤ v1.toNatClampNeg ∧ ∀ i, i < (if v1 < (nI x0n) then v1 else (nI x0n)).toNatClampNeg → fits .long (.long (x0 ((0 : Int32).toNatClampNeg + i))) = true) (some ((va_cpy x0 (fun _ => (0 : Int64)) ((0 : Int32).toNatClampNeg) ((0 : Int32).toNatClampNeg) ((if v1 < (nI x0n) then v1 else (nI x0n)).toNatClampNeg), v1.toNatClampNeg), 0, 0)))))
def q_Ar_copyOf_aJI (dC : Nat → ClassId) (dI : Nat → Nat → Nat) (cB cI cL : ClassId) (A : Nat → Prop) (adx0 : Nat) (x0 : (Nat → Int64)) (x0n : Nat) (a : (Nat → Int64) × Nat) : Array Value → State → Outcome → State → Prop := va_Qr (fun (u : (Nat → Int64) × Nat) => u = a) (fun u a9 U => va_P (dC, dI) zcl ([(adx0, .inl (cL, x0n, .inr (.inl x0)))] ++ [(a9, .inl (cL, u.2, .inr (.inl u.1)))]) U.heap ∧ va_D A ([(adx0, .inl (cL, x0n, .inr (.inl x0)))] ++ [(a9, .inl (cL, u.2, .inr (.inl u.1)))])) A
set_option maxRecDepth 100000 in
set_option maxHeartbeats 4000000 in
theorem k_Ar_copyOf_aJI_0 {p : Program} {l : Launch} {e : Env} {R : Room} {s : State} {m : MethodId} {args : Array Value} {below : List Frame} {meth : Method} {c : Code} {dC : Nat → ClassId} {dI : Nat → Nat → Nat} {cB cI cL : ClassId} {A : Nat → Prop} (X : zx p s m args meth c R R_Ar b_Ar_copyOf_aJI (some (.array .long)) 3 1 60) (hA : ∀ q, s.heap.size ≤ q → A q) (zz : zk dC dI cB cI cL A s)  (x0 : (Nat → Int64)) (x0n : Nat) (v1 : Int32) (a : (Nat → Int64) × Nat) (c9 z9 cells slots tc tz : Nat) (hG : g_Ar_copyOf_aJI x0 x0n v1 = some (a, c9, z9)) (kc : cells + c9 = tc) (kz : slots + z9 = tz) (hRc : tc ≤ R.cells) (hRz : tz ≤ R.slots) (adx0 : Nat) (H : Heap) (locs : List Loc) (hP : va_P (dC, dI) zcl ([(adx0, .inl (cL, x0n, .inr (.inl x0)))]) H) (hD : va_D A ([(adx0, .inl (cL, x0n, .inr (.inl x0)))])) (hS : va_S A s.heap H locs) (ls : Array Slot) (hl : lv_has ls 3 [(0, .ref adx0), (1, .int v1)]) : W p l e R s m args below meth c H locs cells slots (MQ below (q_Ar_copyOf_aJI dC dI cB cI cL A adx0 x0 x0n a) args s tc tz A) (F0 m 0 ls []) := by
  obtain ⟨hx, hb, hr, hml, hown, hts, hlocks, hRf, hRl⟩ := id X
  unfold g_Ar_copyOf_aJI at hG
  refine lv_iload_n hx hb d_Ar_copyOf_aJI_0 rfl (lv_at hl 1 rfl) ?_
  refine lv_aload_n hx hb d_Ar_copyOf_aJI_1 rfl (lv_at hl 0 rfl) ?_
  refine va_alen (v := nI x0n) hx hb zz.1 hP 0 2 rfl rfl rfl d_Ar_copyOf_aJI_2 ?_
  refine lv_icmp_ne (tgt := 14) hx hb d_Ar_copyOf_aJI_3 (by decide) (fun hc => ?_) (fun hc => ?_)
  · have hG := zf hG hc
    refine lv_iload_n hx hb d_Ar_copyOf_aJI_14 rfl (lv_at hl 1 rfl) ?_
    obtain ⟨hng, hG⟩ := zgd hG
    obtain ⟨c9, z9, hG, kc, kz⟩ := zcae hG kc kz
    refine va_newa (atype := .long) (ty := .long) (N' := v1.toNatClampNeg) (a0 := (v1.toNatClampNeg, .inr (.inl (fun _ => (0 : Int64))))) hx hb (hts (.arrayClass .long) zin_arrJ) rfl zz.1 hP hD hS hA (fun _ => rfl) hng.1 rfl hng.2 (zle kc hRc) (zle kz hRz) d_Ar_copyOf_aJI_15 (fun q15 cA9 H hK9 hP hD hS => ?_)
    obtain rfl := zarrJ hK9
    have hP : va_P (dC, dI) zcl ([(adx0, .inl (cL, x0n, .inr (.inl x0))), (q15, .inl (cL, v1.toNatClampNeg, .inr (.inl (fun _ => (0 : Int64)))))]) H := hP
    have hD : va_D A ([(adx0, .inl (cL, x0n, .inr (.inl x0))), (q15, .inl (cL, v1.toNatClampNeg, .inr (.inl (fun _ => (0 : Int64)))))]) := hD
    generalize cells + 1 = cells at kc ⊢
    generalize slots + v1.toNatClampNeg = slots at kz ⊢
    refine lv_astore_n (lv' := [(2, .ref q15), (0, .ref adx0), (1, .int v1)]) hx hb d_Ar_copyOf_aJI_17 rfl hl (by decide) rfl (fun ls hl => ?_)
    refine lv_aload_n hx hb d_Ar_copyOf_aJI_18 rfl (lv_at hl 1 rfl) ?_
    refine lv_iconst (v := (0 : Int32)) hx hb d_Ar_copyOf_aJI_19 (by decide) ?_
    refine lv_aload_n hx hb d_Ar_copyOf_aJI_20 rfl (lv_at hl 0 rfl) ?_
    refine lv_iconst (v := (0 : Int32)) hx hb d_Ar_copyOf_aJI_21 (by decide) ?_
    refine lv_aload_n hx hb d_Ar_copyOf_aJI_22 rfl (lv_at hl 1 rfl) ?_
    refine va_alen (v := nI x0n) hx hb zz.1 hP 0 2 rfl rfl rfl d_Ar_copyOf_aJI_23 ?_
    refine lv_iload_n hx hb d_Ar_copyOf_aJI_24 rfl (lv_at hl 2 rfl) ?_
    refine va_mmin (rest := [.int (0 : Int32), .ref q15, .int (0 : Int32), .ref adx0]) hx hb (hml.trans hl.1.symm) hown (hts (.methodLink R_Ar 304 Lib.Math.min.name) zin_Ar_304) (hts _ zin_min1) (hts _ zin_math) (hts _ zin_min2) (Nat.le_trans (Nat.le_of_ble_eq_true rfl) hRf) (Nat.le_trans (Nat.le_of_ble_eq_true rfl) hRl) (zle kc hRc) (zle kz hRz) d_Ar_copyOf_aJI_25 ?_
    obtain ⟨⟨h91, h92, h93, h94, h95, h96⟩, hG⟩ := zgd hG
    refine va_copyl (rest := []) hx hb (hml.trans hl.1.symm) hown (hts (.methodLink R_Ar 150 arraycopyName) zin_Ar_150) (hts _ zin_acp1) (hts _ zin_acp2) (hts _ zin_sys) zz.1 hP hD hS 0 1 2 2 rfl rfl rfl rfl rfl h91 h92 h93 h94 h95 h96 (Nat.le_trans (Nat.le_of_ble_eq_true rfl) hRf) (Nat.le_trans (by decide) hRl) d_Ar_copyOf_aJI_28 (fun H locs hP hD hS => ?_)
    have hP : va_P (dC, dI) zcl ([(adx0, .inl (cL, x0n, .inr (.inl x0))), (q15, .inl (cL, v1.toNatClampNeg, .inr (.inl (va_cpy x0 (fun _ => (0 : Int64)) ((0 : Int32).toNatClampNeg) ((0 : Int32).toNatClampNeg) ((if v1 < (nI x0n) then v1 else (nI x0n)).toNatClampNeg)))))]) H := hP
    have hD : va_D A ([(adx0, .inl (cL, x0n, .inr (.inl x0))), (q15, .inl (cL, v1.toNatClampNeg, .inr (.inl (va_cpy x0 (fun _ => (0 : Int64)) ((0 : Int32).toNatClampNeg) ((0 : Int32).toNatClampNeg) ((if v1 < (nI x0n) then v1 else (nI x0n)).toNatClampNeg)))))]) := hD
    refine lv_aload_n hx hb d_Ar_copyOf_aJI_31 rfl (lv_at hl 0 rfl) ?_
    obtain ⟨hG, e91, e92⟩ := zc0 hG
    refine W.widen (k := tc) (n := tz) (Nat.le.intro kc) (Nat.le.intro kz) ?_
    exact W.aret (v := .ref q15) hx hb hr (Or.inr ⟨_, rfl⟩) (Or.inr ⟨_, rfl⟩) (fun t9 ht9 hW9 => ⟨⟨(va_cpy x0 (fun _ => (0 : Int64)) ((0 : Int32).toNatClampNeg) ((0 : Int32).toNatClampNeg) ((if v1 < (nI x0n) then v1 else (nI x0n)).toNatClampNeg), v1.toNatClampNeg), q15, rfl, hG, by rw [ht9]; exact hP, hD⟩, hS.F ht9⟩) hS.2.2 d_Ar_copyOf_aJI_32
  · have hG := zt hG hc
    refine lv_aload_n hx hb d_Ar_copyOf_aJI_6 rfl (lv_at hl 0 rfl) ?_
    exact absurd hG (by simp)
set_option maxRecDepth 100000 in
set_option maxHeartbeats 4000000 in
theorem c_Ar_copyOf_aJI (l : Launch) (dC : Nat → ClassId) (dI : Nat → Nat → Nat) (cB cI cL : ClassId) (sz : Nat) (adx0 : Nat) (x0 : (Nat → Int64)) (x0n : Nat) (v1 : Int32) (a : (Nat → Int64) × Nat) (c9 z9 : Nat) (hG : g_Ar_copyOf_aJI x0 x0n v1 = some (a, c9, z9)) : Met l y_Ar_copyOf_aJI (zw y_Ar_copyOf_aJI b_Ar_copyOf_aJI 3 (some (.array .long))) ({ frames := 1, cells := c9, slots := z9, locals := 60 }) (va_Pc [.ref adx0, .int v1] (zpre dC dI cB cI cL sz ([(adx0, .inl (cL, x0n, .inr (.inl x0)))]))) (q_Ar_copyOf_aJI dC dI cB cI cL (va_A ([(adx0, .inl (cL, x0n, .inr (.inl x0)))]) sz) adx0 x0 x0n a) c9 z9 (va_A ([(adx0, .inl (cL, x0n, .inr (.inl x0)))]) sz) := by
  refine Met.ofW (cc := b_Ar_copyOf_aJI) (maxL := 3) (ret := (some (.array .long))) (by decide) rfl ?_
  intro p e s m args below meth c s₁ B hml hv
  obtain ⟨rfl, hsz, hP, zz, hD0⟩ := hv
  subst hsz
  have X := zx_of (F := 1) (L := 60) B hml (Nat.le_refl _) (Nat.le_refl _)
  have hD := hD0.self (sz := s.heap.size)
  have hA : ∀ q : Nat, s.heap.size ≤ q → va_A ([(adx0, .inl (cL, x0n, .inr (.inl x0)))]) s.heap.size q := fun q h => Or.inr h
  have hl := lv_entry ([.ref adx0, .int v1]) (n := 3) (Nat.le_of_ble_eq_true rfl)
  rw [lg_entry_eq]
  generalize (lg_sl ([.ref adx0, .int v1]) ++ List.replicate (3 - (lg_sl ([.ref adx0, .int v1])).length) Slot.unset).toArray = ls at hl ⊢
  exact k_Ar_copyOf_aJI_0 X hA zz x0 x0n v1 a c9 z9 0 0 c9 z9 hG (Nat.zero_add _) (Nat.zero_add _) (Nat.le_refl _) (Nat.le_refl _) adx0 _ _ hP hD va_S.rf ls hl
noncomputable def g_Ar_fill_aII_5_b (N : Nat) (kr : (Nat → Int32) → Nat → Int32 → Int32 → Int32 → Option ((Nat → Int32))) (x0 : (Nat → Int32)) (x0n : Nat) (v1 : Int32) (v2 : Int32) (v3 : Int32) : Option ((Nat → Int32)) := if v3 ≤ v2 then (some (x0)) else (zg (vp_in v2 x0n) (kr (upd x0 v2.toNatClampNeg v1) x0n v1 (v2 + 1) v3))
noncomputable def g_Ar_fill_aII_5 (N : Nat) : Nat → (Nat → Int32) → Nat → Int32 → Int32 → Int32 → Option ((Nat → Int32))
  | 0 => fun _ _ _ _ _ => none
  | k + 1 => fun x0 x0n v1 v2 v3 => g_Ar_fill_aII_5_b N (g_Ar_fill_aII_5 N k) x0 x0n v1 v2 v3
noncomputable def g_Ar_fill_aII (N : Nat) (x0 : (Nat → Int32)) (x0n : Nat) (v1 : Int32) : Option ((Nat → Int32)) := g_Ar_fill_aII_5 N N x0 x0n v1 (0 : Int32) (nI x0n)
def q_Ar_fill_aII (dC : Nat → ClassId) (dI : Nat → Nat → Nat) (cB cI cL : ClassId) (A : Nat → Prop) (adx0 : Nat) (x0n : Nat) (a : (Nat → Int32)) : Array Value → State → Outcome → State → Prop := va_Qv (fun (u : (Nat → Int32)) => (u) = a) (fun u U => va_P (dC, dI) zcl ([(adx0, .inl (cI, x0n, .inl u))]) U.heap ∧ va_D A ([(adx0, .inl (cI, x0n, .inl u))])) A
set_option maxRecDepth 100000 in
set_option maxHeartbeats 4000000 in
theorem k_Ar_fill_aII_5_b {p : Program} {l : Launch} {e : Env} {R : Room} {s : State} {m : MethodId} {args : Array Value} {below : List Frame} {meth : Method} {c : Code} {dC : Nat → ClassId} {dI : Nat → Nat → Nat} {cB cI cL : ClassId} {A : Nat → Prop} (kr : (Nat → Int32) → Nat → Int32 → Int32 → Int32 → Option ((Nat → Int32))) (hrec : ∀ (x0 : (Nat → Int32)) (x0n : Nat) (v1 : Int32) (v2 : Int32) (v3 : Int32) (a : (Nat → Int32)), kr x0 x0n v1 v2 v3 = some a → ∀ (adx0 : Nat) (H : Heap) (locs : List Loc), va_P (dC, dI) zcl ([(adx0, .inl (cI, x0n, .inl x0))]) H → va_D A ([(adx0, .inl (cI, x0n, .inl x0))]) → va_S A s.heap H locs → ∀ ls : Array Slot, lv_has ls 4 [(0, .ref adx0), (1, .int v1), (2, .int v2), (3, .int v3)] → W p l e R s m args below meth c H locs 0 0 (MQ below (q_Ar_fill_aII dC dI cB cI cL A adx0 x0n a) args s 0 0 A) (F0 m 5 ls [])) (X : zx p s m args meth c R R_Ar b_Ar_fill_aII none 4 0 0) (hA : ∀ q, s.heap.size ≤ q → A q) (zz : zk dC dI cB cI cL A s)  (N : Nat) (x0 : (Nat → Int32)) (x0n : Nat) (v1 : Int32) (v2 : Int32) (v3 : Int32) (a : (Nat → Int32)) (hG : g_Ar_fill_aII_5_b N kr x0 x0n v1 v2 v3 = some a) (adx0 : Nat) (H : Heap) (locs : List Loc) (hP : va_P (dC, dI) zcl ([(adx0, .inl (cI, x0n, .inl x0))]) H) (hD : va_D A ([(adx0, .inl (cI, x0n, .inl x0))])) (hS : va_S A s.heap H locs) (ls : Array Slot) (hl : lv_has ls 4 [(0, .ref adx0), (1, .int v1), (2, .int v2), (3, .int v3)]) : W p l e R s m args below meth c H locs 0 0 (MQ below (q_Ar_fill_aII dC dI cB cI cL A adx0 x0n a) args s 0 0 A) (F0 m 5 ls []) := by
  obtain ⟨hx, hb, hr, hml, hown, hts, hlocks, hRf, hRl⟩ := id X
  unfold g_Ar_fill_aII_5_b at hG
  refine lv_iload_n hx hb d_Ar_fill_aII_5 rfl (lv_at hl 2 rfl) ?_
  refine lv_iload_n hx hb d_Ar_fill_aII_6 rfl (lv_at hl 3 rfl) ?_
  refine lv_icmp_ge (tgt := 20) hx hb d_Ar_fill_aII_7 (by decide) (fun hc => ?_) (fun hc => ?_)
  · have hG := zt hG hc
    exact W.vret hx hb hr (fun t9 ht9 hW9 => ⟨⟨(x0), rfl, Option.some.inj hG, by rw [ht9]; exact hP, hD⟩, hS.F ht9⟩) hS.2.2 d_Ar_fill_aII_20
  · have hG := zf hG hc
    refine lv_aload_n hx hb d_Ar_fill_aII_10 rfl (lv_at hl 0 rfl) ?_
    refine lv_iload_n hx hb d_Ar_fill_aII_11 rfl (lv_at hl 2 rfl) ?_
    refine lv_iload_n hx hb d_Ar_fill_aII_12 rfl (lv_at hl 1 rfl) ?_
    obtain ⟨hin, hG⟩ := zgd hG
    refine va_iast hx hb zz.1 hP hD hS 0 1 rfl rfl hin d_Ar_fill_aII_13 (fun H locs hP hD hS => ?_)
    have hP : va_P (dC, dI) zcl ([(adx0, .inl (cI, x0n, .inl (upd x0 v2.toNatClampNeg v1)))]) H := hP
    have hD : va_D A ([(adx0, .inl (cI, x0n, .inl (upd x0 v2.toNatClampNeg v1)))]) := hD
    refine lv_iinc (v := v2 + 1) (lv' := [(2, .int (v2 + 1)), (0, .ref adx0), (1, .int v1), (3, .int v3)]) hx hb d_Ar_fill_aII_14 hl (k := 2) rfl rfl (by decide) rfl (fun ls hl => ?_)
    refine lv_goto (tgt := 5) hx hb d_Ar_fill_aII_17 (by decide) ?_
    exact hrec (upd x0 v2.toNatClampNeg v1) x0n v1 (v2 + 1) v3 _ hG adx0 _ _ hP hD hS _ (lv_sub hl [1, 2, 0, 3] rfl)
theorem k_Ar_fill_aII_5 {p : Program} {l : Launch} {e : Env} {R : Room} {s : State} {m : MethodId} {args : Array Value} {below : List Frame} {meth : Method} {c : Code} {dC : Nat → ClassId} {dI : Nat → Nat → Nat} {cB cI cL : ClassId} {A : Nat → Prop} (X : zx p s m args meth c R R_Ar b_Ar_fill_aII none 4 0 0) (hA : ∀ q, s.heap.size ≤ q → A q) (zz : zk dC dI cB cI cL A s)  (N : Nat) : ∀ (k : Nat) (x0 : (Nat → Int32)) (x0n : Nat) (v1 : Int32) (v2 : Int32) (v3 : Int32) (a : (Nat → Int32)) (hG : g_Ar_fill_aII_5 N k x0 x0n v1 v2 v3 = some a) (adx0 : Nat) (H : Heap) (locs : List Loc) (hP : va_P (dC, dI) zcl ([(adx0, .inl (cI, x0n, .inl x0))]) H) (hD : va_D A ([(adx0, .inl (cI, x0n, .inl x0))])) (hS : va_S A s.heap H locs) (ls : Array Slot) (hl : lv_has ls 4 [(0, .ref adx0), (1, .int v1), (2, .int v2), (3, .int v3)]), W p l e R s m args below meth c H locs 0 0 (MQ below (q_Ar_fill_aII dC dI cB cI cL A adx0 x0n a) args s 0 0 A) (F0 m 5 ls []) := by
  intro k
  induction k with
  | zero => intro x0 x0n v1 v2 v3 a hG; exact absurd hG (by unfold g_Ar_fill_aII_5; simp)
  | succ k ih => intro x0 x0n v1 v2 v3 a hG adx0 H locs hP hD hS ls hl; exact k_Ar_fill_aII_5_b _ ih X hA zz N x0 x0n v1 v2 v3 a hG adx0 H locs hP hD hS ls hl
set_option maxRecDepth 100000 in
set_option maxHeartbeats 4000000 in
theorem k_Ar_fill_aII_0 {p : Program} {l : Launch} {e : Env} {R : Room} {s : State} {m : MethodId} {args : Array Value} {below : List Frame} {meth : Method} {c : Code} {dC : Nat → ClassId} {dI : Nat → Nat → Nat} {cB cI cL : ClassId} {A : Nat → Prop} (X : zx p s m args meth c R R_Ar b_Ar_fill_aII none 4 0 0) (hA : ∀ q, s.heap.size ≤ q → A q) (zz : zk dC dI cB cI cL A s)  (N : Nat) (x0 : (Nat → Int32)) (x0n : Nat) (v1 : Int32) (a : (Nat → Int32)) (hG : g_Ar_fill_aII N x0 x0n v1 = some a) (adx0 : Nat) (H : Heap) (locs : List Loc) (hP : va_P (dC, dI) zcl ([(adx0, .inl (cI, x0n, .inl x0))]) H) (hD : va_D A ([(adx0, .inl (cI, x0n, .inl x0))])) (hS : va_S A s.heap H locs) (ls : Array Slot) (hl : lv_has ls 4 [(0, .ref adx0), (1, .int v1)]) : W p l e R s m args below meth c H locs 0 0 (MQ below (q_Ar_fill_aII dC dI cB cI cL A adx0 x0n a) args s 0 0 A) (F0 m 0 ls []) := by
  obtain ⟨hx, hb, hr, hml, hown, hts, hlocks, hRf, hRl⟩ := id X
  unfold g_Ar_fill_aII at hG
  refine lv_iconst (v := (0 : Int32)) hx hb d_Ar_fill_aII_0 (by decide) ?_
  refine lv_istore_n (lv' := [(2, .int (0 : Int32)), (0, .ref adx0), (1, .int v1)]) hx hb d_Ar_fill_aII_1 rfl hl (by decide) rfl (fun ls hl => ?_)
  refine lv_aload_n hx hb d_Ar_fill_aII_2 rfl (lv_at hl 1 rfl) ?_
  refine va_alen (v := nI x0n) hx hb zz.1 hP 0 1 rfl rfl rfl d_Ar_fill_aII_3 ?_
  refine lv_istore_n (lv' := [(3, .int (nI x0n)), (2, .int (0 : Int32)), (0, .ref adx0), (1, .int v1)]) hx hb d_Ar_fill_aII_4 rfl hl (by decide) rfl (fun ls hl => ?_)
  exact k_Ar_fill_aII_5 X hA zz N N x0 x0n v1 (0 : Int32) (nI x0n) _ hG adx0 _ _ hP hD hS _ (lv_sub hl [2, 3, 1, 0] rfl)
set_option maxRecDepth 100000 in
set_option maxHeartbeats 4000000 in
theorem c_Ar_fill_aII (l : Launch) (dC : Nat → ClassId) (dI : Nat → Nat → Nat) (cB cI cL : ClassId) (sz : Nat) (adx0 : Nat) (N : Nat) (x0 : (Nat → Int32)) (x0n : Nat) (v1 : Int32) (a : (Nat → Int32)) (hG : g_Ar_fill_aII N x0 x0n v1 = some a) : Met l y_Ar_fill_aII (zw y_Ar_fill_aII b_Ar_fill_aII 4 none) ({ frames := 0, cells := 0, slots := 0, locals := 0 }) (va_Pc [.ref adx0, .int v1] (zpre dC dI cB cI cL sz ([(adx0, .inl (cI, x0n, .inl x0))]))) (q_Ar_fill_aII dC dI cB cI cL (va_A ([(adx0, .inl (cI, x0n, .inl x0))]) sz) adx0 x0n a) 0 0 (va_A ([(adx0, .inl (cI, x0n, .inl x0))]) sz) := by
  refine Met.ofW (cc := b_Ar_fill_aII) (maxL := 4) (ret := none) (by decide) rfl ?_
  intro p e s m args below meth c s₁ B hml hv
  obtain ⟨rfl, hsz, hP, zz, hD0⟩ := hv
  subst hsz
  have X := zx_of (F := 0) (L := 0) B hml (Nat.le_refl _) (Nat.le_refl _)
  have hD := hD0.self (sz := s.heap.size)
  have hA : ∀ q : Nat, s.heap.size ≤ q → va_A ([(adx0, .inl (cI, x0n, .inl x0))]) s.heap.size q := fun q h => Or.inr h
  have hl := lv_entry ([.ref adx0, .int v1]) (n := 4) (Nat.le_of_ble_eq_true rfl)
  rw [lg_entry_eq]
  generalize (lg_sl ([.ref adx0, .int v1]) ++ List.replicate (4 - (lg_sl ([.ref adx0, .int v1])).length) Slot.unset).toArray = ls at hl ⊢
  exact k_Ar_fill_aII_0 X hA zz N x0 x0n v1 a hG adx0 _ _ hP hD va_S.rf ls hl
noncomputable def g_Ar_fill_aJJ_6_b (N : Nat) (kr : (Nat → Int64) → Nat → Int64 → Int32 → Int32 → Option ((Nat → Int64))) (x0 : (Nat → Int64)) (x0n : Nat) (v1 : Int64) (v3 : Int32) (v4 : Int32) : Option ((Nat → Int64)) := if v4 ≤ v3 then (some (x0)) else (zg (vp_in v3 x0n) (kr (vp_updL x0 v3.toNatClampNeg v1) x0n v1 (v3 + 1) v4))
noncomputable def g_Ar_fill_aJJ_6 (N : Nat) : Nat → (Nat → Int64) → Nat → Int64 → Int32 → Int32 → Option ((Nat → Int64))
  | 0 => fun _ _ _ _ _ => none
  | k + 1 => fun x0 x0n v1 v3 v4 => g_Ar_fill_aJJ_6_b N (g_Ar_fill_aJJ_6 N k) x0 x0n v1 v3 v4
noncomputable def g_Ar_fill_aJJ (N : Nat) (x0 : (Nat → Int64)) (x0n : Nat) (v1 : Int64) : Option ((Nat → Int64)) := g_Ar_fill_aJJ_6 N N x0 x0n v1 (0 : Int32) (nI x0n)
def q_Ar_fill_aJJ (dC : Nat → ClassId) (dI : Nat → Nat → Nat) (cB cI cL : ClassId) (A : Nat → Prop) (adx0 : Nat) (x0n : Nat) (a : (Nat → Int64)) : Array Value → State → Outcome → State → Prop := va_Qv (fun (u : (Nat → Int64)) => (u) = a) (fun u U => va_P (dC, dI) zcl ([(adx0, .inl (cL, x0n, .inr (.inl u)))]) U.heap ∧ va_D A ([(adx0, .inl (cL, x0n, .inr (.inl u)))])) A
set_option maxRecDepth 100000 in
set_option maxHeartbeats 4000000 in
theorem k_Ar_fill_aJJ_6_b {p : Program} {l : Launch} {e : Env} {R : Room} {s : State} {m : MethodId} {args : Array Value} {below : List Frame} {meth : Method} {c : Code} {dC : Nat → ClassId} {dI : Nat → Nat → Nat} {cB cI cL : ClassId} {A : Nat → Prop} (kr : (Nat → Int64) → Nat → Int64 → Int32 → Int32 → Option ((Nat → Int64))) (hrec : ∀ (x0 : (Nat → Int64)) (x0n : Nat) (v1 : Int64) (v3 : Int32) (v4 : Int32) (a : (Nat → Int64)), kr x0 x0n v1 v3 v4 = some a → ∀ (adx0 : Nat) (H : Heap) (locs : List Loc), va_P (dC, dI) zcl ([(adx0, .inl (cL, x0n, .inr (.inl x0)))]) H → va_D A ([(adx0, .inl (cL, x0n, .inr (.inl x0)))]) → va_S A s.heap H locs → ∀ ls : Array Slot, lv_has ls 5 [(0, .ref adx0), (1, .long v1), (3, .int v3), (4, .int v4)] → W p l e R s m args below meth c H locs 0 0 (MQ below (q_Ar_fill_aJJ dC dI cB cI cL A adx0 x0n a) args s 0 0 A) (F0 m 6 ls [])) (X : zx p s m args meth c R R_Ar b_Ar_fill_aJJ none 5 0 0) (hA : ∀ q, s.heap.size ≤ q → A q) (zz : zk dC dI cB cI cL A s)  (N : Nat) (x0 : (Nat → Int64)) (x0n : Nat) (v1 : Int64) (v3 : Int32) (v4 : Int32) (a : (Nat → Int64)) (hG : g_Ar_fill_aJJ_6_b N kr x0 x0n v1 v3 v4 = some a) (adx0 : Nat) (H : Heap) (locs : List Loc) (hP : va_P (dC, dI) zcl ([(adx0, .inl (cL, x0n, .inr (.inl x0)))]) H) (hD : va_D A ([(adx0, .inl (cL, x0n, .inr (.inl x0)))])) (hS : va_S A s.heap H locs) (ls : Array Slot) (hl : lv_has ls 5 [(0, .ref adx0), (1, .long v1), (3, .int v3), (4, .int v4)]) : W p l e R s m args below meth c H locs 0 0 (MQ below (q_Ar_fill_aJJ dC dI cB cI cL A adx0 x0n a) args s 0 0 A) (F0 m 6 ls []) := by
  obtain ⟨hx, hb, hr, hml, hown, hts, hlocks, hRf, hRl⟩ := id X
  unfold g_Ar_fill_aJJ_6_b at hG
  refine lv_iload_n hx hb d_Ar_fill_aJJ_6 rfl (lv_at hl 2 rfl) ?_
  refine lv_iload hx hb d_Ar_fill_aJJ_7 (lv_at hl 3 rfl) ?_
  refine lv_icmp_ge (tgt := 22) hx hb d_Ar_fill_aJJ_9 (by decide) (fun hc => ?_) (fun hc => ?_)
  · have hG := zt hG hc
    exact W.vret hx hb hr (fun t9 ht9 hW9 => ⟨⟨(x0), rfl, Option.some.inj hG, by rw [ht9]; exact hP, hD⟩, hS.F ht9⟩) hS.2.2 d_Ar_fill_aJJ_22
  · have hG := zf hG hc
    refine lv_aload_n hx hb d_Ar_fill_aJJ_12 rfl (lv_at hl 0 rfl) ?_
    refine lv_iload_n hx hb d_Ar_fill_aJJ_13 rfl (lv_at hl 2 rfl) ?_
    refine lv_lload_n hx hb d_Ar_fill_aJJ_14 rfl (lv_at hl 1 rfl) ?_
    obtain ⟨hin, hG⟩ := zgd hG
    refine va_last hx hb zz.1 hP hD hS 0 2 rfl rfl hin d_Ar_fill_aJJ_15 (fun H locs hP hD hS => ?_)
    have hP : va_P (dC, dI) zcl ([(adx0, .inl (cL, x0n, .inr (.inl (vp_updL x0 v3.toNatClampNeg v1))))]) H := hP
    have hD : va_D A ([(adx0, .inl (cL, x0n, .inr (.inl (vp_updL x0 v3.toNatClampNeg v1))))]) := hD
    refine lv_iinc (v := v3 + 1) (lv' := [(3, .int (v3 + 1)), (0, .ref adx0), (1, .long v1), (4, .int v4)]) hx hb d_Ar_fill_aJJ_16 hl (k := 2) rfl rfl (by decide) rfl (fun ls hl => ?_)
    refine lv_goto (tgt := 6) hx hb d_Ar_fill_aJJ_19 (by decide) ?_
    exact hrec (vp_updL x0 v3.toNatClampNeg v1) x0n v1 (v3 + 1) v4 _ hG adx0 _ _ hP hD hS _ (lv_sub hl [1, 2, 0, 3] rfl)
theorem k_Ar_fill_aJJ_6 {p : Program} {l : Launch} {e : Env} {R : Room} {s : State} {m : MethodId} {args : Array Value} {below : List Frame} {meth : Method} {c : Code} {dC : Nat → ClassId} {dI : Nat → Nat → Nat} {cB cI cL : ClassId} {A : Nat → Prop} (X : zx p s m args meth c R R_Ar b_Ar_fill_aJJ none 5 0 0) (hA : ∀ q, s.heap.size ≤ q → A q) (zz : zk dC dI cB cI cL A s)  (N : Nat) : ∀ (k : Nat) (x0 : (Nat → Int64)) (x0n : Nat) (v1 : Int64) (v3 : Int32) (v4 : Int32) (a : (Nat → Int64)) (hG : g_Ar_fill_aJJ_6 N k x0 x0n v1 v3 v4 = some a) (adx0 : Nat) (H : Heap) (locs : List Loc) (hP : va_P (dC, dI) zcl ([(adx0, .inl (cL, x0n, .inr (.inl x0)))]) H) (hD : va_D A ([(adx0, .inl (cL, x0n, .inr (.inl x0)))])) (hS : va_S A s.heap H locs) (ls : Array Slot) (hl : lv_has ls 5 [(0, .ref adx0), (1, .long v1), (3, .int v3), (4, .int v4)]), W p l e R s m args below meth c H locs 0 0 (MQ below (q_Ar_fill_aJJ dC dI cB cI cL A adx0 x0n a) args s 0 0 A) (F0 m 6 ls []) := by
  intro k
  induction k with
  | zero => intro x0 x0n v1 v3 v4 a hG; exact absurd hG (by unfold g_Ar_fill_aJJ_6; simp)
  | succ k ih => intro x0 x0n v1 v3 v4 a hG adx0 H locs hP hD hS ls hl; exact k_Ar_fill_aJJ_6_b _ ih X hA zz N x0 x0n v1 v3 v4 a hG adx0 H locs hP hD hS ls hl
set_option maxRecDepth 100000 in
set_option maxHeartbeats 4000000 in
theorem k_Ar_fill_aJJ_0 {p : Program} {l : Launch} {e : Env} {R : Room} {s : State} {m : MethodId} {args : Array Value} {below : List Frame} {meth : Method} {c : Code} {dC : Nat → ClassId} {dI : Nat → Nat → Nat} {cB cI cL : ClassId} {A : Nat → Prop} (X : zx p s m args meth c R R_Ar b_Ar_fill_aJJ none 5 0 0) (hA : ∀ q, s.heap.size ≤ q → A q) (zz : zk dC dI cB cI cL A s)  (N : Nat) (x0 : (Nat → Int64)) (x0n : Nat) (v1 : Int64) (a : (Nat → Int64)) (hG : g_Ar_fill_aJJ N x0 x0n v1 = some a) (adx0 : Nat) (H : Heap) (locs : List Loc) (hP : va_P (dC, dI) zcl ([(adx0, .inl (cL, x0n, .inr (.inl x0)))]) H) (hD : va_D A ([(adx0, .inl (cL, x0n, .inr (.inl x0)))])) (hS : va_S A s.heap H locs) (ls : Array Slot) (hl : lv_has ls 5 [(0, .ref adx0), (1, .long v1)]) : W p l e R s m args below meth c H locs 0 0 (MQ below (q_Ar_fill_aJJ dC dI cB cI cL A adx0 x0n a) args s 0 0 A) (F0 m 0 ls []) := by
  obtain ⟨hx, hb, hr, hml, hown, hts, hlocks, hRf, hRl⟩ := id X
  unfold g_Ar_fill_aJJ at hG
  refine lv_iconst (v := (0 : Int32)) hx hb d_Ar_fill_aJJ_0 (by decide) ?_
  refine lv_istore_n (lv' := [(3, .int (0 : Int32)), (0, .ref adx0), (1, .long v1)]) hx hb d_Ar_fill_aJJ_1 rfl hl (by decide) rfl (fun ls hl => ?_)
  refine lv_aload_n hx hb d_Ar_fill_aJJ_2 rfl (lv_at hl 1 rfl) ?_
  refine va_alen (v := nI x0n) hx hb zz.1 hP 0 2 rfl rfl rfl d_Ar_fill_aJJ_3 ?_
  refine lv_istore (lv' := [(4, .int (nI x0n)), (3, .int (0 : Int32)), (0, .ref adx0), (1, .long v1)]) hx hb d_Ar_fill_aJJ_4 hl (by decide) rfl (fun ls hl => ?_)
  exact k_Ar_fill_aJJ_6 X hA zz N N x0 x0n v1 (0 : Int32) (nI x0n) _ hG adx0 _ _ hP hD hS _ (lv_sub hl [2, 3, 1, 0] rfl)
set_option maxRecDepth 100000 in
set_option maxHeartbeats 4000000 in
theorem c_Ar_fill_aJJ (l : Launch) (dC : Nat → ClassId) (dI : Nat → Nat → Nat) (cB cI cL : ClassId) (sz : Nat) (adx0 : Nat) (N : Nat) (x0 : (Nat → Int64)) (x0n : Nat) (v1 : Int64) (a : (Nat → Int64)) (hG : g_Ar_fill_aJJ N x0 x0n v1 = some a) : Met l y_Ar_fill_aJJ (zw y_Ar_fill_aJJ b_Ar_fill_aJJ 5 none) ({ frames := 0, cells := 0, slots := 0, locals := 0 }) (va_Pc [.ref adx0, .long v1] (zpre dC dI cB cI cL sz ([(adx0, .inl (cL, x0n, .inr (.inl x0)))]))) (q_Ar_fill_aJJ dC dI cB cI cL (va_A ([(adx0, .inl (cL, x0n, .inr (.inl x0)))]) sz) adx0 x0n a) 0 0 (va_A ([(adx0, .inl (cL, x0n, .inr (.inl x0)))]) sz) := by
  refine Met.ofW (cc := b_Ar_fill_aJJ) (maxL := 5) (ret := none) (by decide) rfl ?_
  intro p e s m args below meth c s₁ B hml hv
  obtain ⟨rfl, hsz, hP, zz, hD0⟩ := hv
  subst hsz
  have X := zx_of (F := 0) (L := 0) B hml (Nat.le_refl _) (Nat.le_refl _)
  have hD := hD0.self (sz := s.heap.size)
  have hA : ∀ q : Nat, s.heap.size ≤ q → va_A ([(adx0, .inl (cL, x0n, .inr (.inl x0)))]) s.heap.size q := fun q h => Or.inr h
  have hl := lv_entry ([.ref adx0, .long v1]) (n := 5) (Nat.le_of_ble_eq_true rfl)
  rw [lg_entry_eq]
  generalize (lg_sl ([.ref adx0, .long v1]) ++ List.replicate (5 - (lg_sl ([.ref adx0, .long v1])).length) Slot.unset).toArray = ls at hl ⊢
  exact k_Ar_fill_aJJ_0 X hA zz N x0 x0n v1 a hG adx0 _ _ hP hD va_S.rf ls hl
noncomputable def g_W_clear_c29 (sT : zT) (sT_13 : zT) (sG_22 : zG) (sP_29 : zP) : Option (Int32 × zT × zG × zP) := some (zT_length sT, sT_13, sG_22, sP_29)
noncomputable def g_W_clear_c22 (sT : zT) (sP : zP) (sT_13 : zT) (sG_22 : zG) : Option (Int32 × zT × zG × zP) := (g_P_forget sP).bind (fun a => g_W_clear_c29 sT sT_13 sG_22 a)
noncomputable def g_W_clear_w13 (sT : zT) (sG : zG) (sP : zP) (sT_13 : zT) : Option (Int32 × zT × zG × zP) := (g_G_restart sG (0 : Int32) (0 : Int32)).bind (fun a => g_W_clear_c22 sT sP sT_13 a)
noncomputable def g_W_clear (sT : zT) (sG : zG) (sP : zP) : Option (Int32 × zT × zG × zP) := g_W_clear_w13 sT sG sP (zT_length' sT (0 : Int32))
def q_W_clear (dC : Nat → ClassId) (dI : Nat → Nat → Nat) (cB cI cL : ClassId) (A : Nat → Prop) (adW : Nat) (adT : Nat) (adT_bytes : Nat) (adG : Nat) (adG_places : Nat) (adP : Nat) (adP_values : Nat) (adR : Nat) (adF : Nat) (adH : Nat) (adD : Nat) (a : Int32 × zT × zG × zP) : Array Value → State → Outcome → State → Prop := va_Qi (fun (r : Int32) (u : zT × zG × zP) => (r, u.1, u.2.1, u.2.2) = a) (fun u U => va_P (dC, dI) zcl (zwW adW adT adR adG adF adH adD adP ++ zwT adT adT_bytes cB cI cL u.1 ++ zwG adG adG_places cB cI cL u.2.1 ++ zwP adP adP_values cB cI cL u.2.2) U.heap ∧ va_D A (zwW adW adT adR adG adF adH adD adP ++ zwT adT adT_bytes cB cI cL u.1 ++ zwG adG adG_places cB cI cL u.2.1 ++ zwP adP adP_values cB cI cL u.2.2)) A
set_option maxRecDepth 100000 in
set_option maxHeartbeats 4000000 in
theorem k_W_clear_0 {p : Program} {l : Launch} {e : Env} {R : Room} {s : State} {m : MethodId} {args : Array Value} {below : List Frame} {meth : Method} {c : Code} {dC : Nat → ClassId} {dI : Nat → Nat → Nat} {cB cI cL : ClassId} {A : Nat → Prop} {adR adF adH adD : Nat} (X : zx p s m args meth c R R_W b_W_clear (some .int) 2 2 80) (hA : ∀ q, s.heap.size ≤ q → A q) (zz : zk dC dI cB cI cL A s)  (sT : zT) (sG : zG) (sP : zP) (a : Int32 × zT × zG × zP) (hG : g_W_clear sT sG sP = some a) (adW adT adT_bytes adG adG_places adP adP_values : Nat) (H : Heap) (locs : List Loc) (hP : va_P (dC, dI) zcl (zwW adW adT adR adG adF adH adD adP ++ zwT adT adT_bytes cB cI cL sT ++ zwG adG adG_places cB cI cL sG ++ zwP adP adP_values cB cI cL sP) H) (hD : va_D A (zwW adW adT adR adG adF adH adD adP ++ zwT adT adT_bytes cB cI cL sT ++ zwG adG adG_places cB cI cL sG ++ zwP adP adP_values cB cI cL sP)) (hS : va_S A s.heap H locs) (ls : Array Slot) (hl : lv_has ls 2 [(0, .ref adW)]) : W p l e R s m args below meth c H locs 0 0 (MQ below (q_W_clear dC dI cB cI cL A adW adT adT_bytes adG adG_places adP adP_values adR adF adH adD a) args s 0 0 A) (F0 m 0 ls []) := by
  obtain ⟨hx, hb, hr, hml, hown, hts, hlocks, hRf, hRl⟩ := id X
  unfold g_W_clear at hG
  refine lv_aload_n hx hb d_W_clear_0 rfl (lv_at hl 0 rfl) ?_
  refine va_get (D := (dC, dI)) (ci := 0) (v := .ref adT) (C := R_W) (T := F_W) (N := 7) hx hb hts zi_W hown zz.1 hP 0 rfl rfl 0 (by decide) (hts (.fieldLink R_W 12 "WireCodec" "tape" "LWireCodec$Tape;") zin_W_12) (fun _ h9 => h9) rfl d_W_clear_1 ?_
  refine va_get (D := (dC, dI)) (ci := 1) (v := .int (zT_length sT)) (C := R_T) (T := F_T) (N := 3) hx hb hts zi_T hown zz.1 hP 1 rfl rfl 2 (by decide) (hts (.fieldLink R_W 95 "WireCodec$Tape" "length" "I") zin_W_95) (fun _ h9 => h9) rfl d_W_clear_4 ?_
  refine lv_istore_n (lv' := [(1, .int (zT_length sT)), (0, .ref adW)]) hx hb d_W_clear_7 rfl hl (by decide) rfl (fun ls hl => ?_)
  refine lv_aload_n hx hb d_W_clear_8 rfl (lv_at hl 1 rfl) ?_
  refine va_get (D := (dC, dI)) (ci := 0) (v := .ref adT) (C := R_W) (T := F_W) (N := 7) hx hb hts zi_W hown zz.1 hP 0 rfl rfl 0 (by decide) (hts (.fieldLink R_W 12 "WireCodec" "tape" "LWireCodec$Tape;") zin_W_12) (fun _ h9 => h9) rfl d_W_clear_9 ?_
  refine lv_iconst (v := (0 : Int32)) hx hb d_W_clear_12 (by decide) ?_
  refine va_put (D := (dC, dI)) (ci := 1) (v := .int (0 : Int32)) (ty := .int) (C := R_T) (T := F_T) (N := 3) hx hb hts zi_T zty_T zty_T_ok znm_T hown zz.1 hP hD hS 1 rfl rfl 2 (by decide) (hts (.fieldLink R_W 95 "WireCodec$Tape" "length" "I") zin_W_95) (fun _ h9 => h9) rfl (by decide +kernel) rfl rfl (Nat.le_of_ble_eq_true rfl) d_W_clear_13 (fun H locs hP hD hS => ?_)
  have hP : va_P (dC, dI) zcl (zwW adW adT adR adG adF adH adD adP ++ zwT adT adT_bytes cB cI cL (zT_length' sT (0 : Int32)) ++ zwG adG adG_places cB cI cL sG ++ zwP adP adP_values cB cI cL sP) H := hP
  have hD : va_D A (zwW adW adT adR adG adF adH adD adP ++ zwT adT adT_bytes cB cI cL (zT_length' sT (0 : Int32)) ++ zwG adG adG_places cB cI cL sG ++ zwP adP adP_values cB cI cL sP) := hD
  have hG : g_W_clear_w13 sT sG sP (zT_length' sT (0 : Int32)) = some a := hG
  generalize zT_length' sT (0 : Int32) = sT_13 at hP hD hG
  unfold g_W_clear_w13 at hG
  refine lv_aload_n hx hb d_W_clear_16 rfl (lv_at hl 1 rfl) ?_
  refine va_get (D := (dC, dI)) (ci := 0) (v := .ref adG) (C := R_W) (T := F_W) (N := 7) hx hb hts zi_W hown zz.1 hP 0 rfl rfl 2 (by decide) (hts (.fieldLink R_W 28 "WireCodec" "reading" "LWireCodec$Reading;") zin_W_28) (fun _ h9 => h9) rfl d_W_clear_17 ?_
  refine lv_iconst (v := (0 : Int32)) hx hb d_W_clear_20 (by decide) ?_
  refine lv_iconst (v := (0 : Int32)) hx hb d_W_clear_21 (by decide) ?_
  obtain ⟨a_22, hx_22, hG⟩ := zb hG
  have hr_22 := zrunV (p := p) (e := e) (below := below) (meth := meth) (As := [.int (0 : Int32), .int (0 : Int32)]) (rest := []) (st0 := [.int (0 : Int32), .int (0 : Int32), .ref adG]) (cells := 0) (slots := 0) X zz hP hD hS hA [3, 4] (by decide) rfl (c_G_restart l dC dI cB cI cL H.size adG adG_places sG (0 : Int32) (0 : Int32) _ hx_22) zy_G_restart zv_G_restart (hts (.methodLink R_W 99 y_G_restart) zin_W_99) hl rfl rfl d_W_clear_22 (lv_room (Nat.le_of_ble_eq_true rfl)) rfl rfl ⟨Nat.le_trans (Nat.le_of_ble_eq_true rfl) hRf, Nat.le_trans (Nat.le_of_ble_eq_true rfl) hRl⟩ ⟨Nat.zero_le _, Nat.zero_le _⟩ 0 3 rfl rfl
  refine zcallv (wr := (zwW adW adT adR adG adF adH adD adP ++ zwT adT adT_bytes cB cI cL sT_13 ++ zwP adP adP_values cB cI cL sP)) hr_22 hP hD hS hA [3, 4] [0, 1, 2, 5, 6] rfl rfl (by decide) (by decide) (fun u_22 H locs hw_22 hP hD hS => ?_)
  obtain ⟨sG_22, rfl⟩ : ∃ z, z = u_22 := ⟨_, rfl⟩
  subst hw_22
  have hP : va_P (dC, dI) zcl (zwW adW adT adR adG adF adH adD adP ++ zwT adT adT_bytes cB cI cL sT_13 ++ zwP adP adP_values cB cI cL sP ++ zwG adG adG_places cB cI cL sG_22) H := hP
  have hD : va_D A (zwW adW adT adR adG adF adH adD adP ++ zwT adT adT_bytes cB cI cL sT_13 ++ zwP adP adP_values cB cI cL sP ++ zwG adG adG_places cB cI cL sG_22) := hD
  have hG : g_W_clear_c22 sT sP sT_13 sG_22 = some a := hG
  unfold g_W_clear_c22 at hG
  refine lv_aload_n hx hb d_W_clear_25 rfl (lv_at hl 1 rfl) ?_
  refine va_get (D := (dC, dI)) (ci := 0) (v := .ref adP) (C := R_W) (T := F_W) (N := 7) hx hb hts zi_W hown zz.1 hP 0 rfl rfl 6 (by decide) (hts (.fieldLink R_W 56 "WireCodec" "told" "LWireCodec$Parameters;") zin_W_56) (fun _ h9 => h9) rfl d_W_clear_26 ?_
  obtain ⟨a_29, hx_29, hG⟩ := zb hG
  have hr_29 := zrunV (p := p) (e := e) (below := below) (meth := meth) (As := []) (rest := []) (st0 := [.ref adP]) (cells := 0) (slots := 0) X zz hP hD hS hA [3, 4] (by decide) rfl (c_P_forget l dC dI cB cI cL H.size adP adP_values sP _ hx_29) zy_P_forget zv_P_forget (hts (.methodLink R_W 103 y_P_forget) zin_W_103) hl rfl rfl d_W_clear_29 (lv_room (Nat.le_of_ble_eq_true rfl)) rfl rfl ⟨Nat.le_trans (Nat.le_of_ble_eq_true rfl) hRf, Nat.le_trans (Nat.le_of_ble_eq_true rfl) hRl⟩ ⟨Nat.zero_le _, Nat.zero_le _⟩ 0 7 rfl rfl
  refine zcallv (wr := (zwW adW adT adR adG adF adH adD adP ++ zwT adT adT_bytes cB cI cL sT_13 ++ zwG adG adG_places cB cI cL sG_22)) hr_29 hP hD hS hA [3, 4] [0, 1, 2, 5, 6] rfl rfl (by decide) (by decide) (fun u_29 H locs hw_29 hP hD hS => ?_)
  obtain ⟨sP_29, rfl⟩ : ∃ z, z = u_29 := ⟨_, rfl⟩
  subst hw_29
  have hP : va_P (dC, dI) zcl (zwW adW adT adR adG adF adH adD adP ++ zwT adT adT_bytes cB cI cL sT_13 ++ zwG adG adG_places cB cI cL sG_22 ++ zwP adP adP_values cB cI cL sP_29) H := hP
  have hD : va_D A (zwW adW adT adR adG adF adH adD adP ++ zwT adT adT_bytes cB cI cL sT_13 ++ zwG adG adG_places cB cI cL sG_22 ++ zwP adP adP_values cB cI cL sP_29) := hD
  have hG : g_W_clear_c29 sT sT_13 sG_22 sP_29 = some a := hG
  unfold g_W_clear_c29 at hG
  refine lv_iload_n hx hb d_W_clear_32 rfl (lv_at hl 0 rfl) ?_
  exact W.iret (v := zT_length sT) hx hb hr (fun t9 ht9 hW9 => ⟨⟨zT_length sT, (sT_13, sG_22, sP_29), rfl, Option.some.inj hG, by rw [ht9]; exact hP, hD⟩, hS.F ht9⟩) hS.2.2 d_W_clear_33
set_option maxRecDepth 100000 in
set_option maxHeartbeats 4000000 in
theorem c_W_clear (l : Launch) (dC : Nat → ClassId) (dI : Nat → Nat → Nat) (cB cI cL : ClassId) (sz : Nat) (adW adT adT_bytes adG adG_places adP adP_values adR adF adH adD : Nat) (sT : zT) (sG : zG) (sP : zP) (a : Int32 × zT × zG × zP) (hG : g_W_clear sT sG sP = some a) : Met l y_W_clear (zw y_W_clear b_W_clear 2 (some .int)) ({ frames := 2, cells := 0, slots := 0, locals := 80 }) (va_Pc [.ref adW] (zpre dC dI cB cI cL sz (zwW adW adT adR adG adF adH adD adP ++ zwT adT adT_bytes cB cI cL sT ++ zwG adG adG_places cB cI cL sG ++ zwP adP adP_values cB cI cL sP))) (q_W_clear dC dI cB cI cL (va_A (zwW adW adT adR adG adF adH adD adP ++ zwT adT adT_bytes cB cI cL sT ++ zwG adG adG_places cB cI cL sG ++ zwP adP adP_values cB cI cL sP) sz) adW adT adT_bytes adG adG_places adP adP_values adR adF adH adD a) 0 0 (va_A (zwW adW adT adR adG adF adH adD adP ++ zwT adT adT_bytes cB cI cL sT ++ zwG adG adG_places cB cI cL sG ++ zwP adP adP_values cB cI cL sP) sz) := by
  refine Met.ofW (cc := b_W_clear) (maxL := 2) (ret := (some .int)) (by decide) rfl ?_
  intro p e s m args below meth c s₁ B hml hv
  obtain ⟨rfl, hsz, hP, zz, hD0⟩ := hv
  subst hsz
  have X := zx_of (F := 2) (L := 80) B hml (Nat.le_refl _) (Nat.le_refl _)
  have hD := hD0.self (sz := s.heap.size)
  have hA : ∀ q : Nat, s.heap.size ≤ q → va_A (zwW adW adT adR adG adF adH adD adP ++ zwT adT adT_bytes cB cI cL sT ++ zwG adG adG_places cB cI cL sG ++ zwP adP adP_values cB cI cL sP) s.heap.size q := fun q h => Or.inr h
  have hl := lv_entry ([.ref adW]) (n := 2) (Nat.le_of_ble_eq_true rfl)
  rw [lg_entry_eq]
  generalize (lg_sl ([.ref adW]) ++ List.replicate (2 - (lg_sl ([.ref adW])).length) Slot.unset).toArray = ls at hl ⊢
  exact k_W_clear_0 X hA zz sT sG sP a hG adW adT adT_bytes adG adG_places adP adP_values _ _ hP hD va_S.rf ls hl
noncomputable def g_W_at_c10 (r_10 : Int32) : Option ((Int32 ⊕ Nat)) := some (.inl r_10)
noncomputable def g_W_at_c2 (sT : zT) (v1 : Int32) : Option ((Int32 ⊕ Nat)) := (g_T_byteAt sT v1).bind (fun a => g_W_at_c10 a)
noncomputable def g_W_at (sT : zT) (v1 : Int32) : Option ((Int32 ⊕ Nat)) := (g_W_requireByte sT v1).bind (fun a => zmx (a) (fun r9 => g_W_at_c2 sT v1) (fun k9 => some (.inr k9)))
def q_W_at (dC : Nat → ClassId) (dI : Nat → Nat → Nat) (cB cI cL : ClassId) (A : Nat → Prop) (adW : Nat) (adT : Nat) (adT_bytes : Nat) (adR : Nat) (adG : Nat) (adF : Nat) (adH : Nat) (adD : Nat) (adP : Nat) (sT : zT) (a : (Int32 ⊕ Nat)) : Array Value → State → Outcome → State → Prop := zQx (α := Int32) (fun r => some (.int r)) (fun r (u : Unit) => (r) = a) (dC, dI) (fun u => (zwW adW adT adR adG adF adH adD adP ++ zwT adT adT_bytes cB cI cL sT)) A
set_option maxRecDepth 100000 in
set_option maxHeartbeats 4000000 in
theorem k_W_at_0 {p : Program} {l : Launch} {e : Env} {R : Room} {s : State} {m : MethodId} {args : Array Value} {below : List Frame} {meth : Method} {c : Code} {dC : Nat → ClassId} {dI : Nat → Nat → Nat} {cB cI cL : ClassId} {A : Nat → Prop} {adR adG adF adH adD adP : Nat} (X : zx p s m args meth c R R_W b_W_at (some .int) 2 7 119) (hA : ∀ q, s.heap.size ≤ q → A q) (zz : zk dC dI cB cI cL A s) (htr : l.stackTraces = false) (hnh : c.exceptionTable.isEmpty = true) (hAs : ∀ q, A q → ∀ cell, s.heap[q]? = some cell → cell.vm.isStatics = false) (hRc : 1 ≤ R.cells) (hRz : 6 ≤ R.slots)  (sT : zT) (v1 : Int32) (a : (Int32 ⊕ Nat)) (hG : g_W_at sT v1 = some a) (adW adT adT_bytes : Nat) (H : Heap) (locs : List Loc) (hP : va_P (dC, dI) zcl (zwW adW adT adR adG adF adH adD adP ++ zwT adT adT_bytes cB cI cL sT) H) (hD : va_D A (zwW adW adT adR adG adF adH adD adP ++ zwT adT adT_bytes cB cI cL sT)) (hS : va_S A s.heap H locs) (ls : Array Slot) (hl : lv_has ls 2 [(0, .ref adW), (1, .int v1)]) : W p l e R s m args below meth c H locs 0 0 (zMQ below (q_W_at dC dI cB cI cL A adW adT adT_bytes adR adG adF adH adD adP sT a) args s 1 6 A) (F0 m 0 ls []) := by
  obtain ⟨hx, hb, hr, hml, hown, hts, hlocks, hRf, hRl⟩ := id X
  unfold g_W_at at hG
  refine lv_aload_n hx hb d_W_at_0 rfl (lv_at hl 0 rfl) ?_
  refine lv_iload_n hx hb d_W_at_1 rfl (lv_at hl 1 rfl) ?_
  obtain ⟨a_2, hx_2, hG⟩ := zb hG
  have hr_2 := zrunXV (p := p) (e := e) (below := below) (meth := meth) (As := [.int v1]) (rest := []) (st0 := [.int v1, .ref adW]) (cells := 0) (slots := 0) X zz hP hD hS hA [0, 1, 2] (by decide) rfl (c_W_requireByte l dC dI cB cI cL H.size adW adT adT_bytes adR adG adF adH adD adP sT v1 _ hx_2 htr) zy_W_requireByte zv_W_requireByte (hts (.methodLink R_W 106 y_W_requireByte) zin_W_106) hl rfl rfl d_W_at_2 (lv_room (Nat.le_of_ble_eq_true rfl)) rfl rfl ⟨Nat.le_trans (Nat.le_of_ble_eq_true rfl) hRf, Nat.le_trans (Nat.le_of_ble_eq_true rfl) hRl⟩ ⟨(Nat.le_trans (Nat.le_of_ble_eq_true rfl) hRc), (Nat.le_trans (Nat.le_of_ble_eq_true rfl) hRz)⟩ 0 0 rfl rfl
  refine zcallX (wr := ([] : va_W)) hr_2 hP hD hS hA [0, 1, 2] [] rfl rfl (by decide) (by decide) hnh hlocks (by decide) (by decide) (fun k_2 u_2 t9 q9 hw_2 hP hD hF9 ht9 => ?_) (fun r_2 u_2 H locs hw_2 hP hD hS => ?_)
  · subst hw_2
    have hP : va_P (dC, dI) zcl (zwW adW adT adR adG adF adH adD adP ++ zwT adT adT_bytes cB cI cL sT) t9.heap := hP
    have hD : va_D A (zwW adW adT adR adG adF adH adD adP ++ zwT adT adT_bytes cB cI cL sT) := hD
    exact ⟨(), hP, hD, hF9, Or.inr ⟨k_2, q9, rfl, Option.some.inj hG, ht9⟩⟩
  subst hw_2
  have hP : va_P (dC, dI) zcl (zwW adW adT adR adG adF adH adD adP ++ zwT adT adT_bytes cB cI cL sT) H := hP
  have hD : va_D A (zwW adW adT adR adG adF adH adD adP ++ zwT adT adT_bytes cB cI cL sT) := hD
  have hG : g_W_at_c2 sT v1 = some a := hG
  unfold g_W_at_c2 at hG
  refine lv_aload_n hx hb d_W_at_5 rfl (lv_at hl 0 rfl) ?_
  refine va_get (D := (dC, dI)) (ci := 0) (v := .ref adT) (C := R_W) (T := F_W) (N := 7) hx hb hts zi_W hown zz.1 hP 0 rfl rfl 0 (by decide) (hts (.fieldLink R_W 12 "WireCodec" "tape" "LWireCodec$Tape;") zin_W_12) (fun _ h9 => h9) rfl d_W_at_6 ?_
  refine lv_iload_n hx hb d_W_at_9 rfl (lv_at hl 1 rfl) ?_
  obtain ⟨a_10, hx_10, hG⟩ := zb hG
  have hr_10 := zrunV (p := p) (e := e) (below := below) (meth := meth) (As := [.int v1]) (rest := []) (st0 := [.int v1, .ref adT]) (cells := 1) (slots := 6) X zz hP hD hS hA [1, 2] (by decide) rfl (c_T_byteAt l dC dI cB cI cL H.size adT adT_bytes sT v1 _ hx_10) zy_T_byteAt zv_T_byteAt (hts (.methodLink R_W 110 y_T_byteAt) zin_W_110) hl rfl rfl d_W_at_10 (lv_room (Nat.le_of_ble_eq_true rfl)) rfl rfl ⟨Nat.le_trans (Nat.le_of_ble_eq_true rfl) hRf, Nat.le_trans (Nat.le_of_ble_eq_true rfl) hRl⟩ ⟨(Nat.le_trans (Nat.le_of_ble_eq_true rfl) hRc), (Nat.le_trans (Nat.le_of_ble_eq_true rfl) hRz)⟩ 0 1 rfl rfl
  refine zcalli (wr := (zwW adW adT adR adG adF adH adD adP)) hr_10 hP hD hS hA [1, 2] [0] rfl rfl (by decide) (by decide) (fun r_10 u_10 H locs hw_10 hP hD hS => ?_)
  subst hw_10
  have hP : va_P (dC, dI) zcl (zwW adW adT adR adG adF adH adD adP ++ zwT adT adT_bytes cB cI cL sT) H := hP
  have hD : va_D A (zwW adW adT adR adG adF adH adD adP ++ zwT adT adT_bytes cB cI cL sT) := hD
  have hG : g_W_at_c10 r_10 = some a := hG
  unfold g_W_at_c10 at hG
  exact zxreti (u := ()) (v := r_10) X hlocks (Option.some.inj hG) hP hD hS d_W_at_13
set_option maxRecDepth 100000 in
set_option maxHeartbeats 4000000 in
theorem c_W_at (l : Launch) (dC : Nat → ClassId) (dI : Nat → Nat → Nat) (cB cI cL : ClassId) (sz : Nat) (adW adT adT_bytes adR adG adF adH adD adP : Nat) (sT : zT) (v1 : Int32) (a : (Int32 ⊕ Nat)) (hG : g_W_at sT v1 = some a) (htr : l.stackTraces = false) : zMet l y_W_at (zw y_W_at b_W_at 2 (some .int)) ({ frames := 7, cells := 1, slots := 6, locals := 119 }) (va_Pc [.ref adW, .int v1] (zpre dC dI cB cI cL sz (zwW adW adT adR adG adF adH adD adP ++ zwT adT adT_bytes cB cI cL sT))) (q_W_at dC dI cB cI cL (va_A (zwW adW adT adR adG adF adH adD adP ++ zwT adT adT_bytes cB cI cL sT) sz) adW adT adT_bytes adR adG adF adH adD adP sT a) 1 6 (va_A (zwW adW adT adR adG adF adH adD adP ++ zwT adT adT_bytes cB cI cL sT) sz) := by
  refine zMet.ofW (cc := b_W_at) (maxL := 2) (ret := (some .int)) (by decide) rfl ?_
  intro p e s m args below meth c s₁ B hml hv
  obtain ⟨rfl, hsz, hP, zz, hD0⟩ := hv
  subst hsz
  have X := zx_of (F := 7) (L := 119) B hml (Nat.le_refl _) (Nat.le_refl _)
  have hD := hD0.self (sz := s.heap.size)
  have hA : ∀ q : Nat, s.heap.size ≤ q → va_A (zwW adW adT adR adG adF adH adD adP ++ zwT adT adT_bytes cB cI cL sT) s.heap.size q := fun q h => Or.inr h
  have hl := lv_entry ([.ref adW, .int v1]) (n := 2) (Nat.le_of_ble_eq_true rfl)
  rw [lg_entry_eq]
  generalize (lg_sl ([.ref adW, .int v1]) ++ List.replicate (2 - (lg_sl ([.ref adW, .int v1])).length) Slot.unset).toArray = ls at hl ⊢
  have hnh := BodyLoose.noHandlers B (atoms_spec (ws := zw y_W_at b_W_at 2 (some .int)) B.pre _ List.mem_cons_self)
  have hAs := zstatics hP
  exact k_W_at_0 X hA zz htr hnh hAs (Nat.le_refl _) (Nat.le_refl _) sT v1 a hG adW adT adT_bytes _ _ hP hD va_S.rf ls hl
noncomputable def g_W_add_11 (N : Nat) (sD : zD) : Option ((Int32 ⊕ Nat) × zD) := some (.inr 1, sD)
noncomputable def g_W_add_c52 (sD_52 : zD) : Option ((Int32 ⊕ Nat) × zD) := some (.inl (zD_length sD_52), sD_52)
noncomputable def g_W_add (N : Nat) (sD : zD) (v1 : Int64) (v3 : Int32) : Option ((Int32 ⊕ Nat) × zD) := if v3 < (1 : Int32) then (g_W_add_11 N sD) else (if v3 ≤ (8 : Int32) then (if ((zD_length sD) + v3) ≤ (2000 : Int32) then ((g_D_append N sD v1 v3).bind (fun a => g_W_add_c52 a)) else (some (.inr 2, sD))) else (g_W_add_11 N sD))
def q_W_add (dC : Nat → ClassId) (dI : Nat → Nat → Nat) (cB cI cL : ClassId) (A : Nat → Prop) (adW : Nat) (adD : Nat) (adD_parts : Nat) (adD_bytes : Nat) (adD_lows : Nat) (adD_highs : Nat) (adT : Nat) (adR : Nat) (adG : Nat) (adF : Nat) (adH : Nat) (adP : Nat) (a : (Int32 ⊕ Nat) × zD) : Array Value → State → Outcome → State → Prop := zQx (α := Int32) (fun r => some (.int r)) (fun r (u : zD) => (r, u) = a) (dC, dI) (fun u => (zwW adW adT adR adG adF adH adD adP ++ zwD adD adD_parts adD_bytes adD_lows adD_highs cB cI cL u)) A
set_option maxRecDepth 100000 in
set_option maxHeartbeats 4000000 in
theorem k_W_add_11 {p : Program} {l : Launch} {e : Env} {R : Room} {s : State} {m : MethodId} {args : Array Value} {below : List Frame} {meth : Method} {c : Code} {dC : Nat → ClassId} {dI : Nat → Nat → Nat} {cB cI cL : ClassId} {A : Nat → Prop} {adT adR adG adF adH adP : Nat} (X : zx p s m args meth c R R_W b_W_add (some .int) 4 6 98) (hA : ∀ q, s.heap.size ≤ q → A q) (zz : zk dC dI cB cI cL A s) (htr : l.stackTraces = false) (hnh : c.exceptionTable.isEmpty = true) (hAs : ∀ q, A q → ∀ cell, s.heap[q]? = some cell → cell.vm.isStatics = false) (hRc : 1 ≤ R.cells) (hRz : 6 ≤ R.slots)  (N : Nat) (sD : zD) (a : (Int32 ⊕ Nat) × zD) (hG : g_W_add_11 N sD = some a) (adW adD adD_parts adD_bytes adD_lows adD_highs : Nat) (H : Heap) (locs : List Loc) (hP : va_P (dC, dI) zcl (zwW adW adT adR adG adF adH adD adP ++ zwD adD adD_parts adD_bytes adD_lows adD_highs cB cI cL sD) H) (hD : va_D A (zwW adW adT adR adG adF adH adD adP ++ zwD adD adD_parts adD_bytes adD_lows adD_highs cB cI cL sD)) (hS : va_S A s.heap H locs) (ls : Array Slot) (hl : lv_has ls 4 []) : W p l e R s m args below meth c H locs 0 0 (zMQ below (q_W_add dC dI cB cI cL A adW adD adD_parts adD_bytes adD_lows adD_highs adT adR adG adF adH adP a) args s 1 6 A) (F0 m 11 ls []) := by
  obtain ⟨hx, hb, hr, hml, hown, hts, hlocks, hRf, hRl⟩ := id X
  unfold g_W_add_11 at hG
  exact zthrow htr X zz hnh hAs hA hS 1 (text := "n is not 1 .. 8") zin_W_60 zini_1 (by decide +kernel) zat_W_64 zfit_1 hl d_W_add_11 d_W_add_14 d_W_add_15 d_W_add_17 d_W_add_20 (Nat.le_trans (Nat.le_of_ble_eq_true rfl) hRf) (Nat.le_trans (Nat.le_of_ble_eq_true rfl) hRl) hRc hRz (by decide) (by decide) (fun t9 q9 hz9 ho9 ht9 => ⟨(sD), va_P.kept hP (zold hP ho9), hD, zFr hS hz9 ho9, Or.inr ⟨1, q9, rfl, Option.some.inj hG, ht9⟩⟩)
set_option maxRecDepth 100000 in
set_option maxHeartbeats 4000000 in
theorem k_W_add_0 {p : Program} {l : Launch} {e : Env} {R : Room} {s : State} {m : MethodId} {args : Array Value} {below : List Frame} {meth : Method} {c : Code} {dC : Nat → ClassId} {dI : Nat → Nat → Nat} {cB cI cL : ClassId} {A : Nat → Prop} {adT adR adG adF adH adP : Nat} (X : zx p s m args meth c R R_W b_W_add (some .int) 4 6 98) (hA : ∀ q, s.heap.size ≤ q → A q) (zz : zk dC dI cB cI cL A s) (htr : l.stackTraces = false) (hnh : c.exceptionTable.isEmpty = true) (hAs : ∀ q, A q → ∀ cell, s.heap[q]? = some cell → cell.vm.isStatics = false) (hRc : 1 ≤ R.cells) (hRz : 6 ≤ R.slots)  (N : Nat) (sD : zD) (v1 : Int64) (v3 : Int32) (a : (Int32 ⊕ Nat) × zD) (hG : g_W_add N sD v1 v3 = some a) (adW adD adD_parts adD_bytes adD_lows adD_highs : Nat) (H : Heap) (locs : List Loc) (hP : va_P (dC, dI) zcl (zwW adW adT adR adG adF adH adD adP ++ zwD adD adD_parts adD_bytes adD_lows adD_highs cB cI cL sD) H) (hD : va_D A (zwW adW adT adR adG adF adH adD adP ++ zwD adD adD_parts adD_bytes adD_lows adD_highs cB cI cL sD)) (hS : va_S A s.heap H locs) (ls : Array Slot) (hl : lv_has ls 4 [(0, .ref adW), (1, .long v1), (3, .int v3)]) : W p l e R s m args below meth c H locs 0 0 (zMQ below (q_W_add dC dI cB cI cL A adW adD adD_parts adD_bytes adD_lows adD_highs adT adR adG adF adH adP a) args s 1 6 A) (F0 m 0 ls []) := by
  obtain ⟨hx, hb, hr, hml, hown, hts, hlocks, hRf, hRl⟩ := id X
  unfold g_W_add at hG
  refine lv_iload_n hx hb d_W_add_0 rfl (lv_at hl 2 rfl) ?_
  refine lv_iconst (v := (1 : Int32)) hx hb d_W_add_1 (by decide) ?_
  refine lv_icmp_lt (tgt := 11) hx hb d_W_add_2 (by decide) (fun hc => ?_) (fun hc => ?_)
  · have hG := zt hG hc
    exact k_W_add_11 X hA zz htr hnh hAs hRc hRz N sD _ hG adW adD adD_parts adD_bytes adD_lows adD_highs _ _ hP hD hS _ (lv_sub hl [] rfl)
  · have hG := zf hG hc
    refine lv_iload_n hx hb d_W_add_5 rfl (lv_at hl 2 rfl) ?_
    refine lv_bipush (v := (8 : Int32)) hx hb d_W_add_6 (by decide) ?_
    refine lv_icmp_le (tgt := 21) hx hb d_W_add_8 (by decide) (fun hc => ?_) (fun hc => ?_)
    · have hG := zt hG hc
      refine lv_aload_n hx hb d_W_add_21 rfl (lv_at hl 0 rfl) ?_
      refine va_get (D := (dC, dI)) (ci := 0) (v := .ref adD) (C := R_W) (T := F_W) (N := 7) hx hb hts zi_W hown zz.1 hP 0 rfl rfl 5 (by decide) (hts (.fieldLink R_W 49 "WireCodec" "drafted" "LWireCodec$Draft;") zin_W_49) (fun _ h9 => h9) rfl d_W_add_22 ?_
      refine va_get (D := (dC, dI)) (ci := 6) (v := .int (zD_length sD)) (C := R_D) (T := F_D) (N := 6) hx hb hts zi_D hown zz.1 hP 1 rfl rfl 4 (by decide) (hts (.fieldLink R_W 206 "WireCodec$Draft" "length" "I") zin_W_206) (fun _ h9 => h9) rfl d_W_add_25 ?_
      refine lv_iload_n hx hb d_W_add_28 rfl (lv_at hl 2 rfl) ?_
      refine lv_iadd hx hb d_W_add_29 ?_
      refine lv_sipush (v := (2000 : Int32)) hx hb d_W_add_30 (by decide) ?_
      refine lv_icmp_le (tgt := 46) hx hb d_W_add_33 (by decide) (fun hc => ?_) (fun hc => ?_)
      · have hG := zt hG hc
        refine lv_aload_n hx hb d_W_add_46 rfl (lv_at hl 0 rfl) ?_
        refine va_get (D := (dC, dI)) (ci := 0) (v := .ref adD) (C := R_W) (T := F_W) (N := 7) hx hb hts zi_W hown zz.1 hP 0 rfl rfl 5 (by decide) (hts (.fieldLink R_W 49 "WireCodec" "drafted" "LWireCodec$Draft;") zin_W_49) (fun _ h9 => h9) rfl d_W_add_47 ?_
        refine lv_lload_n hx hb d_W_add_50 rfl (lv_at hl 1 rfl) ?_
        refine lv_iload_n hx hb d_W_add_51 rfl (lv_at hl 2 rfl) ?_
        obtain ⟨a_52, hx_52, hG⟩ := zb hG
        have hr_52 := zrunV (p := p) (e := e) (below := below) (meth := meth) (As := [.long v1, .int v3]) (rest := []) (st0 := [.int v3, .long v1, .ref adD]) (cells := 0) (slots := 0) X zz hP hD hS hA [1, 2, 3, 4, 5] (by decide) rfl (c_D_append l dC dI cB cI cL H.size adD adD_parts adD_bytes adD_lows adD_highs N sD v1 v3 _ hx_52) zy_D_append zv_D_append (hts (.methodLink R_W 212 y_D_append) zin_W_212) hl rfl rfl d_W_add_52 (lv_room (Nat.le_of_ble_eq_true rfl)) rfl rfl ⟨Nat.le_trans (Nat.le_of_ble_eq_true rfl) hRf, Nat.le_trans (Nat.le_of_ble_eq_true rfl) hRl⟩ ⟨Nat.zero_le _, Nat.zero_le _⟩ 0 6 rfl rfl
        refine zcallv (wr := (zwW adW adT adR adG adF adH adD adP)) hr_52 hP hD hS hA [1, 2, 3, 4, 5] [0] rfl rfl (by decide) (by decide) (fun u_52 H locs hw_52 hP hD hS => ?_)
        obtain ⟨sD_52, rfl⟩ : ∃ z, z = u_52 := ⟨_, rfl⟩
        subst hw_52
        have hP : va_P (dC, dI) zcl (zwW adW adT adR adG adF adH adD adP ++ zwD adD adD_parts adD_bytes adD_lows adD_highs cB cI cL sD_52) H := hP
        have hD : va_D A (zwW adW adT adR adG adF adH adD adP ++ zwD adD adD_parts adD_bytes adD_lows adD_highs cB cI cL sD_52) := hD
        have hG : g_W_add_c52 sD_52 = some a := hG
        unfold g_W_add_c52 at hG
        refine lv_aload_n hx hb d_W_add_55 rfl (lv_at hl 0 rfl) ?_
        refine va_get (D := (dC, dI)) (ci := 0) (v := .ref adD) (C := R_W) (T := F_W) (N := 7) hx hb hts zi_W hown zz.1 hP 0 rfl rfl 5 (by decide) (hts (.fieldLink R_W 49 "WireCodec" "drafted" "LWireCodec$Draft;") zin_W_49) (fun _ h9 => h9) rfl d_W_add_56 ?_
        refine va_get (D := (dC, dI)) (ci := 6) (v := .int (zD_length sD_52)) (C := R_D) (T := F_D) (N := 6) hx hb hts zi_D hown zz.1 hP 1 rfl rfl 4 (by decide) (hts (.fieldLink R_W 206 "WireCodec$Draft" "length" "I") zin_W_206) (fun _ h9 => h9) rfl d_W_add_59 ?_
        refine W.widen (k := 1) (n := 6) (by decide) (by decide) ?_
        exact zxreti (u := (sD_52)) (v := zD_length sD_52) X hlocks (Option.some.inj hG) hP hD hS d_W_add_62
      · have hG := zf hG hc
        exact zthrow htr X zz hnh hAs hA hS 2 (text := "the draft\'s data is full") zin_W_207 zini_2 (by decide +kernel) zat_W_211 zfit_2 hl d_W_add_36 d_W_add_39 d_W_add_40 d_W_add_42 d_W_add_45 (Nat.le_trans (Nat.le_of_ble_eq_true rfl) hRf) (Nat.le_trans (Nat.le_of_ble_eq_true rfl) hRl) hRc hRz (by decide) (by decide) (fun t9 q9 hz9 ho9 ht9 => ⟨(sD), va_P.kept hP (zold hP ho9), hD, zFr hS hz9 ho9, Or.inr ⟨2, q9, rfl, Option.some.inj hG, ht9⟩⟩)
    · have hG := zf hG hc
      exact k_W_add_11 X hA zz htr hnh hAs hRc hRz N sD _ hG adW adD adD_parts adD_bytes adD_lows adD_highs _ _ hP hD hS _ (lv_sub hl [] rfl)
set_option maxRecDepth 100000 in
set_option maxHeartbeats 4000000 in
theorem c_W_add (l : Launch) (dC : Nat → ClassId) (dI : Nat → Nat → Nat) (cB cI cL : ClassId) (sz : Nat) (adW adD adD_parts adD_bytes adD_lows adD_highs adT adR adG adF adH adP : Nat) (N : Nat) (sD : zD) (v1 : Int64) (v3 : Int32) (a : (Int32 ⊕ Nat) × zD) (hG : g_W_add N sD v1 v3 = some a) (htr : l.stackTraces = false) : zMet l y_W_add (zw y_W_add b_W_add 4 (some .int)) ({ frames := 6, cells := 1, slots := 6, locals := 98 }) (va_Pc [.ref adW, .long v1, .int v3] (zpre dC dI cB cI cL sz (zwW adW adT adR adG adF adH adD adP ++ zwD adD adD_parts adD_bytes adD_lows adD_highs cB cI cL sD))) (q_W_add dC dI cB cI cL (va_A (zwW adW adT adR adG adF adH adD adP ++ zwD adD adD_parts adD_bytes adD_lows adD_highs cB cI cL sD) sz) adW adD adD_parts adD_bytes adD_lows adD_highs adT adR adG adF adH adP a) 1 6 (va_A (zwW adW adT adR adG adF adH adD adP ++ zwD adD adD_parts adD_bytes adD_lows adD_highs cB cI cL sD) sz) := by
  refine zMet.ofW (cc := b_W_add) (maxL := 4) (ret := (some .int)) (by decide) rfl ?_
  intro p e s m args below meth c s₁ B hml hv
  obtain ⟨rfl, hsz, hP, zz, hD0⟩ := hv
  subst hsz
  have X := zx_of (F := 6) (L := 98) B hml (Nat.le_refl _) (Nat.le_refl _)
  have hD := hD0.self (sz := s.heap.size)
  have hA : ∀ q : Nat, s.heap.size ≤ q → va_A (zwW adW adT adR adG adF adH adD adP ++ zwD adD adD_parts adD_bytes adD_lows adD_highs cB cI cL sD) s.heap.size q := fun q h => Or.inr h
  have hl := lv_entry ([.ref adW, .long v1, .int v3]) (n := 4) (Nat.le_of_ble_eq_true rfl)
  rw [lg_entry_eq]
  generalize (lg_sl ([.ref adW, .long v1, .int v3]) ++ List.replicate (4 - (lg_sl ([.ref adW, .long v1, .int v3])).length) Slot.unset).toArray = ls at hl ⊢
  have hnh := BodyLoose.noHandlers B (atoms_spec (ws := zw y_W_add b_W_add 4 (some .int)) B.pre _ List.mem_cons_self)
  have hAs := zstatics hP
  exact k_W_add_0 X hA zz htr hnh hAs (Nat.le_refl _) (Nat.le_refl _) N sD v1 v3 a hG adW adD adD_parts adD_bytes adD_lows adD_highs _ _ hP hD va_S.rf ls hl
noncomputable def g_W_span_23 (sD : zD) : Option ((Unit ⊕ Nat) × zD) := some (.inr 1, sD)
noncomputable def g_W_span_c62 (sD_62 : zD) : Option ((Unit ⊕ Nat) × zD) := some (.inl (), sD_62)
noncomputable def g_W_span_c17 (sD : zD) (v1 : Int64) (v3 : Int64) (r_17 : Int32) : Option ((Unit ⊕ Nat) × zD) := if r_17 = (0 : Int32) then (g_W_span_23 sD) else (if (zD_ranges sD) < (500 : Int32) then ((g_D_appendRange sD v1 v3).bind (fun a => g_W_span_c62 a)) else (some (.inr 2, sD)))
noncomputable def g_W_span (sD : zD) (v1 : Int64) (v3 : Int64) : Option ((Unit ⊕ Nat) × zD) := if (lg_cmp v1 (0 : Int64)) < (0 : Int32) then (g_W_span_23 sD) else (if (0 : Int32) < (lg_cmp v1 v3) then (g_W_span_23 sD) else ((g_D_isBelowRanges sD v3).bind (fun a => g_W_span_c17 sD v1 v3 a)))
def q_W_span (dC : Nat → ClassId) (dI : Nat → Nat → Nat) (cB cI cL : ClassId) (A : Nat → Prop) (adW : Nat) (adD : Nat) (adD_parts : Nat) (adD_bytes : Nat) (adD_lows : Nat) (adD_highs : Nat) (adT : Nat) (adR : Nat) (adG : Nat) (adF : Nat) (adH : Nat) (adP : Nat) (a : (Unit ⊕ Nat) × zD) : Array Value → State → Outcome → State → Prop := zQx (α := Unit) (fun _ => none) (fun r (u : zD) => (r, u) = a) (dC, dI) (fun u => (zwW adW adT adR adG adF adH adD adP ++ zwD adD adD_parts adD_bytes adD_lows adD_highs cB cI cL u)) A
set_option maxRecDepth 100000 in
set_option maxHeartbeats 4000000 in
theorem k_W_span_23 {p : Program} {l : Launch} {e : Env} {R : Room} {s : State} {m : MethodId} {args : Array Value} {below : List Frame} {meth : Method} {c : Code} {dC : Nat → ClassId} {dI : Nat → Nat → Nat} {cB cI cL : ClassId} {A : Nat → Prop} {adT adR adG adF adH adP : Nat} (X : zx p s m args meth c R R_W b_W_span none 5 6 98) (hA : ∀ q, s.heap.size ≤ q → A q) (zz : zk dC dI cB cI cL A s) (htr : l.stackTraces = false) (hnh : c.exceptionTable.isEmpty = true) (hAs : ∀ q, A q → ∀ cell, s.heap[q]? = some cell → cell.vm.isStatics = false) (hRc : 1 ≤ R.cells) (hRz : 6 ≤ R.slots)  (sD : zD) (a : (Unit ⊕ Nat) × zD) (hG : g_W_span_23 sD = some a) (adW adD adD_parts adD_bytes adD_lows adD_highs : Nat) (H : Heap) (locs : List Loc) (hP : va_P (dC, dI) zcl (zwW adW adT adR adG adF adH adD adP ++ zwD adD adD_parts adD_bytes adD_lows adD_highs cB cI cL sD) H) (hD : va_D A (zwW adW adT adR adG adF adH adD adP ++ zwD adD adD_parts adD_bytes adD_lows adD_highs cB cI cL sD)) (hS : va_S A s.heap H locs) (ls : Array Slot) (hl : lv_has ls 5 []) : W p l e R s m args below meth c H locs 0 0 (zMQ below (q_W_span dC dI cB cI cL A adW adD adD_parts adD_bytes adD_lows adD_highs adT adR adG adF adH adP a) args s 1 6 A) (F0 m 23 ls []) := by
  obtain ⟨hx, hb, hr, hml, hown, hts, hlocks, hRf, hRl⟩ := id X
  unfold g_W_span_23 at hG
  exact zthrow htr X zz hnh hAs hA hS 1 (text := "no range below the last one") zin_W_60 zini_1 (by decide +kernel) zat_W_64 zfit_1 hl d_W_span_23 d_W_span_26 d_W_span_27 d_W_span_29 d_W_span_32 (Nat.le_trans (Nat.le_of_ble_eq_true rfl) hRf) (Nat.le_trans (Nat.le_of_ble_eq_true rfl) hRl) hRc hRz (by decide) (by decide) (fun t9 q9 hz9 ho9 ht9 => ⟨(sD), va_P.kept hP (zold hP ho9), hD, zFr hS hz9 ho9, Or.inr ⟨1, q9, rfl, Option.some.inj hG, ht9⟩⟩)
set_option maxRecDepth 100000 in
set_option maxHeartbeats 4000000 in
theorem k_W_span_0 {p : Program} {l : Launch} {e : Env} {R : Room} {s : State} {m : MethodId} {args : Array Value} {below : List Frame} {meth : Method} {c : Code} {dC : Nat → ClassId} {dI : Nat → Nat → Nat} {cB cI cL : ClassId} {A : Nat → Prop} {adT adR adG adF adH adP : Nat} (X : zx p s m args meth c R R_W b_W_span none 5 6 98) (hA : ∀ q, s.heap.size ≤ q → A q) (zz : zk dC dI cB cI cL A s) (htr : l.stackTraces = false) (hnh : c.exceptionTable.isEmpty = true) (hAs : ∀ q, A q → ∀ cell, s.heap[q]? = some cell → cell.vm.isStatics = false) (hRc : 1 ≤ R.cells) (hRz : 6 ≤ R.slots)  (sD : zD) (v1 : Int64) (v3 : Int64) (a : (Unit ⊕ Nat) × zD) (hG : g_W_span sD v1 v3 = some a) (adW adD adD_parts adD_bytes adD_lows adD_highs : Nat) (H : Heap) (locs : List Loc) (hP : va_P (dC, dI) zcl (zwW adW adT adR adG adF adH adD adP ++ zwD adD adD_parts adD_bytes adD_lows adD_highs cB cI cL sD) H) (hD : va_D A (zwW adW adT adR adG adF adH adD adP ++ zwD adD adD_parts adD_bytes adD_lows adD_highs cB cI cL sD)) (hS : va_S A s.heap H locs) (ls : Array Slot) (hl : lv_has ls 5 [(0, .ref adW), (1, .long v1), (3, .long v3)]) : W p l e R s m args below meth c H locs 0 0 (zMQ below (q_W_span dC dI cB cI cL A adW adD adD_parts adD_bytes adD_lows adD_highs adT adR adG adF adH adP a) args s 1 6 A) (F0 m 0 ls []) := by
  obtain ⟨hx, hb, hr, hml, hown, hts, hlocks, hRf, hRl⟩ := id X
  unfold g_W_span at hG
  refine lv_lload_n hx hb d_W_span_0 rfl (lv_at hl 1 rfl) ?_
  refine lv_lconst (v := (0 : Int64)) hx hb d_W_span_1 (by decide) ?_
  refine W.lcmp hx hb d_W_span_2 ?_
  refine lv_if_lt (tgt := 23) hx hb d_W_span_3 (by decide) (fun hc => ?_) (fun hc => ?_)
  · have hG := zt hG hc
    exact k_W_span_23 X hA zz htr hnh hAs hRc hRz sD _ hG adW adD adD_parts adD_bytes adD_lows adD_highs _ _ hP hD hS _ (lv_sub hl [] rfl)
  · have hG := zf hG hc
    refine lv_lload_n hx hb d_W_span_6 rfl (lv_at hl 1 rfl) ?_
    refine lv_lload_n hx hb d_W_span_7 rfl (lv_at hl 2 rfl) ?_
    refine W.lcmp hx hb d_W_span_8 ?_
    refine lv_if_gt (tgt := 23) hx hb d_W_span_9 (by decide) (fun hc => ?_) (fun hc => ?_)
    · have hG := zt hG hc
      exact k_W_span_23 X hA zz htr hnh hAs hRc hRz sD _ hG adW adD adD_parts adD_bytes adD_lows adD_highs _ _ hP hD hS _ (lv_sub hl [] rfl)
    · have hG := zf hG hc
      refine lv_aload_n hx hb d_W_span_12 rfl (lv_at hl 0 rfl) ?_
      refine va_get (D := (dC, dI)) (ci := 0) (v := .ref adD) (C := R_W) (T := F_W) (N := 7) hx hb hts zi_W hown zz.1 hP 0 rfl rfl 5 (by decide) (hts (.fieldLink R_W 49 "WireCodec" "drafted" "LWireCodec$Draft;") zin_W_49) (fun _ h9 => h9) rfl d_W_span_13 ?_
      refine lv_lload_n hx hb d_W_span_16 rfl (lv_at hl 2 rfl) ?_
      obtain ⟨a_17, hx_17, hG⟩ := zb hG
      have hr_17 := zrunV (p := p) (e := e) (below := below) (meth := meth) (As := [.long v3]) (rest := []) (st0 := [.long v3, .ref adD]) (cells := 0) (slots := 0) X zz hP hD hS hA [1, 2, 3, 4, 5] (by decide) rfl (c_D_isBelowRanges l dC dI cB cI cL H.size adD adD_parts adD_bytes adD_lows adD_highs sD v3 _ hx_17) zy_D_isBelowRanges zv_D_isBelowRanges (hts (.methodLink R_W 215 y_D_isBelowRanges) zin_W_215) hl rfl rfl d_W_span_17 (lv_room (Nat.le_of_ble_eq_true rfl)) rfl rfl ⟨Nat.le_trans (Nat.le_of_ble_eq_true rfl) hRf, Nat.le_trans (Nat.le_of_ble_eq_true rfl) hRl⟩ ⟨Nat.zero_le _, Nat.zero_le _⟩ 0 6 rfl rfl
      refine zcalli (wr := (zwW adW adT adR adG adF adH adD adP)) hr_17 hP hD hS hA [1, 2, 3, 4, 5] [0] rfl rfl (by decide) (by decide) (fun r_17 u_17 H locs hw_17 hP hD hS => ?_)
      subst hw_17
      have hP : va_P (dC, dI) zcl (zwW adW adT adR adG adF adH adD adP ++ zwD adD adD_parts adD_bytes adD_lows adD_highs cB cI cL sD) H := hP
      have hD : va_D A (zwW adW adT adR adG adF adH adD adP ++ zwD adD adD_parts adD_bytes adD_lows adD_highs cB cI cL sD) := hD
      have hG : g_W_span_c17 sD v1 v3 r_17 = some a := hG
      unfold g_W_span_c17 at hG
      refine lv_if_ne (tgt := 33) hx hb d_W_span_20 (by decide) (fun hc => ?_) (fun hc => ?_)
      · have hG := zf hG hc
        refine lv_aload_n hx hb d_W_span_33 rfl (lv_at hl 0 rfl) ?_
        refine va_get (D := (dC, dI)) (ci := 0) (v := .ref adD) (C := R_W) (T := F_W) (N := 7) hx hb hts zi_W hown zz.1 hP 0 rfl rfl 5 (by decide) (hts (.fieldLink R_W 49 "WireCodec" "drafted" "LWireCodec$Draft;") zin_W_49) (fun _ h9 => h9) rfl d_W_span_34 ?_
        refine va_get (D := (dC, dI)) (ci := 6) (v := .int (zD_ranges sD)) (C := R_D) (T := F_D) (N := 6) hx hb hts zi_D hown zz.1 hP 1 rfl rfl 5 (by decide) (hts (.fieldLink R_W 220 "WireCodec$Draft" "ranges" "I") zin_W_220) (fun _ h9 => h9) rfl d_W_span_37 ?_
        refine lv_sipush (v := (500 : Int32)) hx hb d_W_span_40 (by decide) ?_
        refine lv_icmp_lt (tgt := 56) hx hb d_W_span_43 (by decide) (fun hc => ?_) (fun hc => ?_)
        · have hG := zt hG hc
          refine lv_aload_n hx hb d_W_span_56 rfl (lv_at hl 0 rfl) ?_
          refine va_get (D := (dC, dI)) (ci := 0) (v := .ref adD) (C := R_W) (T := F_W) (N := 7) hx hb hts zi_W hown zz.1 hP 0 rfl rfl 5 (by decide) (hts (.fieldLink R_W 49 "WireCodec" "drafted" "LWireCodec$Draft;") zin_W_49) (fun _ h9 => h9) rfl d_W_span_57 ?_
          refine lv_lload_n hx hb d_W_span_60 rfl (lv_at hl 1 rfl) ?_
          refine lv_lload_n hx hb d_W_span_61 rfl (lv_at hl 2 rfl) ?_
          obtain ⟨a_62, hx_62, hG⟩ := zb hG
          have hr_62 := zrunV (p := p) (e := e) (below := below) (meth := meth) (As := [.long v1, .long v3]) (rest := []) (st0 := [.long v3, .long v1, .ref adD]) (cells := 0) (slots := 0) X zz hP hD hS hA [1, 2, 3, 4, 5] (by decide) rfl (c_D_appendRange l dC dI cB cI cL H.size adD adD_parts adD_bytes adD_lows adD_highs sD v1 v3 _ hx_62) zy_D_appendRange zv_D_appendRange (hts (.methodLink R_W 225 y_D_appendRange) zin_W_225) hl rfl rfl d_W_span_62 (lv_room (Nat.le_of_ble_eq_true rfl)) rfl rfl ⟨Nat.le_trans (Nat.le_of_ble_eq_true rfl) hRf, Nat.le_trans (Nat.le_of_ble_eq_true rfl) hRl⟩ ⟨Nat.zero_le _, Nat.zero_le _⟩ 0 6 rfl rfl
          refine zcallv (wr := (zwW adW adT adR adG adF adH adD adP)) hr_62 hP hD hS hA [1, 2, 3, 4, 5] [0] rfl rfl (by decide) (by decide) (fun u_62 H locs hw_62 hP hD hS => ?_)
          obtain ⟨sD_62, rfl⟩ : ∃ z, z = u_62 := ⟨_, rfl⟩
          subst hw_62
          have hP : va_P (dC, dI) zcl (zwW adW adT adR adG adF adH adD adP ++ zwD adD adD_parts adD_bytes adD_lows adD_highs cB cI cL sD_62) H := hP
          have hD : va_D A (zwW adW adT adR adG adF adH adD adP ++ zwD adD adD_parts adD_bytes adD_lows adD_highs cB cI cL sD_62) := hD
          have hG : g_W_span_c62 sD_62 = some a := hG
          unfold g_W_span_c62 at hG
          refine W.widen (k := 1) (n := 6) (by decide) (by decide) ?_
          exact zxretv (u := (sD_62)) X hlocks (Option.some.inj hG) hP hD hS d_W_span_65
        · have hG := zf hG hc
          exact zthrow htr X zz hnh hAs hA hS 2 (text := "the draft has all its ranges") zin_W_207 zini_2 (by decide +kernel) zat_W_211 zfit_2 hl d_W_span_46 d_W_span_49 d_W_span_50 d_W_span_52 d_W_span_55 (Nat.le_trans (Nat.le_of_ble_eq_true rfl) hRf) (Nat.le_trans (Nat.le_of_ble_eq_true rfl) hRl) hRc hRz (by decide) (by decide) (fun t9 q9 hz9 ho9 ht9 => ⟨(sD), va_P.kept hP (zold hP ho9), hD, zFr hS hz9 ho9, Or.inr ⟨2, q9, rfl, Option.some.inj hG, ht9⟩⟩)
      · have hG := zt hG hc
        exact k_W_span_23 X hA zz htr hnh hAs hRc hRz sD _ hG adW adD adD_parts adD_bytes adD_lows adD_highs _ _ hP hD hS _ (lv_sub hl [] rfl)
set_option maxRecDepth 100000 in
set_option maxHeartbeats 4000000 in
theorem c_W_span (l : Launch) (dC : Nat → ClassId) (dI : Nat → Nat → Nat) (cB cI cL : ClassId) (sz : Nat) (adW adD adD_parts adD_bytes adD_lows adD_highs adT adR adG adF adH adP : Nat) (sD : zD) (v1 : Int64) (v3 : Int64) (a : (Unit ⊕ Nat) × zD) (hG : g_W_span sD v1 v3 = some a) (htr : l.stackTraces = false) : zMet l y_W_span (zw y_W_span b_W_span 5 none) ({ frames := 6, cells := 1, slots := 6, locals := 98 }) (va_Pc [.ref adW, .long v1, .long v3] (zpre dC dI cB cI cL sz (zwW adW adT adR adG adF adH adD adP ++ zwD adD adD_parts adD_bytes adD_lows adD_highs cB cI cL sD))) (q_W_span dC dI cB cI cL (va_A (zwW adW adT adR adG adF adH adD adP ++ zwD adD adD_parts adD_bytes adD_lows adD_highs cB cI cL sD) sz) adW adD adD_parts adD_bytes adD_lows adD_highs adT adR adG adF adH adP a) 1 6 (va_A (zwW adW adT adR adG adF adH adD adP ++ zwD adD adD_parts adD_bytes adD_lows adD_highs cB cI cL sD) sz) := by
  refine zMet.ofW (cc := b_W_span) (maxL := 5) (ret := none) (by decide) rfl ?_
  intro p e s m args below meth c s₁ B hml hv
  obtain ⟨rfl, hsz, hP, zz, hD0⟩ := hv
  subst hsz
  have X := zx_of (F := 6) (L := 98) B hml (Nat.le_refl _) (Nat.le_refl _)
  have hD := hD0.self (sz := s.heap.size)
  have hA : ∀ q : Nat, s.heap.size ≤ q → va_A (zwW adW adT adR adG adF adH adD adP ++ zwD adD adD_parts adD_bytes adD_lows adD_highs cB cI cL sD) s.heap.size q := fun q h => Or.inr h
  have hl := lv_entry ([.ref adW, .long v1, .long v3]) (n := 5) (Nat.le_of_ble_eq_true rfl)
  rw [lg_entry_eq]
  generalize (lg_sl ([.ref adW, .long v1, .long v3]) ++ List.replicate (5 - (lg_sl ([.ref adW, .long v1, .long v3])).length) Slot.unset).toArray = ls at hl ⊢
  have hnh := BodyLoose.noHandlers B (atoms_spec (ws := zw y_W_span b_W_span 5 none) B.pre _ List.mem_cons_self)
  have hAs := zstatics hP
  exact k_W_span_0 X hA zz htr hnh hAs (Nat.le_refl _) (Nat.le_refl _) sD v1 v3 a hG adW adD adD_parts adD_bytes adD_lows adD_highs _ _ hP hD va_S.rf ls hl
noncomputable def g_W_cut_20 (N : Nat)  : Option ((Int32 ⊕ Nat)) := some (.inr 1)
noncomputable def g_W_cut_39_b (N : Nat) (kr : Int64 → Int32 → Option ((Int32 ⊕ Nat))) (v5 : Int64) (v7 : Int32) : Option ((Int32 ⊕ Nat)) := if (4 : Int32) < v7 then (some (.inl (0 : Int32))) else (if (0 : Int32) < (lg_cmp v5 ((1 : Int64) <<< ((((8 : Int32) * v7) - (1 : Int32)).toInt64 &&& 63))) then (kr v5 (v7 + 1)) else (some (.inl v7)))
noncomputable def g_W_cut_39 (N : Nat) : Nat → Int64 → Int32 → Option ((Int32 ⊕ Nat))
  | 0 => fun _ _ => none
  | k + 1 => fun v5 v7 => g_W_cut_39_b N (g_W_cut_39 N k) v5 v7
noncomputable def g_W_cut_c8 (N : Nat) (v1 : Int64) (v3 : Int64) (r_8 : Int32) : Option ((Int32 ⊕ Nat)) := if r_8 = (0 : Int32) then (g_W_cut_20 N) else (if (0 : Int32) < (lg_cmp v1 v3) then (g_W_cut_39 N N (v1 - v3) (1 : Int32)) else (g_W_cut_20 N))
noncomputable def g_W_cut_c1 (N : Nat) (v1 : Int64) (v3 : Int64) (r_1 : Int32) : Option ((Int32 ⊕ Nat)) := if r_1 = (0 : Int32) then (g_W_cut_20 N) else ((g_W_isNumberOrNone v3).bind (fun a => g_W_cut_c8 N v1 v3 a))
noncomputable def g_W_cut (N : Nat) (v1 : Int64) (v3 : Int64) : Option ((Int32 ⊕ Nat)) := (g_W_isNumber v1).bind (fun a => g_W_cut_c1 N v1 v3 a)
def q_W_cut (dC : Nat → ClassId) (dI : Nat → Nat → Nat) (cB cI cL : ClassId) (A : Nat → Prop) (adW : Nat) (adT : Nat) (adR : Nat) (adG : Nat) (adF : Nat) (adH : Nat) (adD : Nat) (adP : Nat) (a : (Int32 ⊕ Nat)) : Array Value → State → Outcome → State → Prop := zQx (α := Int32) (fun r => some (.int r)) (fun r (u : Unit) => (r) = a) (dC, dI) (fun u => (zwW adW adT adR adG adF adH adD adP)) A
set_option maxRecDepth 100000 in
set_option maxHeartbeats 4000000 in
theorem k_W_cut_20 {p : Program} {l : Launch} {e : Env} {R : Room} {s : State} {m : MethodId} {args : Array Value} {below : List Frame} {meth : Method} {c : Code} {dC : Nat → ClassId} {dI : Nat → Nat → Nat} {cB cI cL : ClassId} {A : Nat → Prop} {adT adR adG adF adH adD adP : Nat} (X : zx p s m args meth c R R_W b_W_cut (some .int) 8 6 98) (hA : ∀ q, s.heap.size ≤ q → A q) (zz : zk dC dI cB cI cL A s) (htr : l.stackTraces = false) (hnh : c.exceptionTable.isEmpty = true) (hAs : ∀ q, A q → ∀ cell, s.heap[q]? = some cell → cell.vm.isStatics = false) (hRc : 1 ≤ R.cells) (hRz : 6 ≤ R.slots)  (N : Nat) (a : (Int32 ⊕ Nat)) (hG : g_W_cut_20 N  = some a) (adW : Nat) (H : Heap) (locs : List Loc) (hP : va_P (dC, dI) zcl (zwW adW adT adR adG adF adH adD adP) H) (hD : va_D A (zwW adW adT adR adG adF adH adD adP)) (hS : va_S A s.heap H locs) (ls : Array Slot) (hl : lv_has ls 8 []) : W p l e R s m args below meth c H locs 0 0 (zMQ below (q_W_cut dC dI cB cI cL A adW adT adR adG adF adH adD adP a) args s 1 6 A) (F0 m 20 ls []) := by
  obtain ⟨hx, hb, hr, hml, hown, hts, hlocks, hRf, hRl⟩ := id X
  unfold g_W_cut_20 at hG
  exact zthrowW htr X zz hnh hAs hA hS 1 (text := "no packet\'s number above the acknowledged one") zin_W_60 zini_1 (by decide +kernel) zat_W_64 zfit_1 hl d_W_cut_20 d_W_cut_23 d_W_cut_24 d_W_cut_27 d_W_cut_30 (Nat.le_trans (Nat.le_of_ble_eq_true rfl) hRf) (Nat.le_trans (Nat.le_of_ble_eq_true rfl) hRl) hRc hRz (by decide) (by decide) (fun t9 q9 hz9 ho9 ht9 => ⟨(), va_P.kept hP (zold hP ho9), hD, zFr hS hz9 ho9, Or.inr ⟨1, q9, rfl, Option.some.inj hG, ht9⟩⟩)
set_option maxRecDepth 100000 in
set_option maxHeartbeats 4000000 in
theorem k_W_cut_39_b {p : Program} {l : Launch} {e : Env} {R : Room} {s : State} {m : MethodId} {args : Array Value} {below : List Frame} {meth : Method} {c : Code} {dC : Nat → ClassId} {dI : Nat → Nat → Nat} {cB cI cL : ClassId} {A : Nat → Prop} {adT adR adG adF adH adD adP : Nat} (kr : Int64 → Int32 → Option ((Int32 ⊕ Nat))) (hrec : ∀ (v5 : Int64) (v7 : Int32) (a : (Int32 ⊕ Nat)), kr v5 v7 = some a → ∀ (adW : Nat) (H : Heap) (locs : List Loc), va_P (dC, dI) zcl (zwW adW adT adR adG adF adH adD adP) H → va_D A (zwW adW adT adR adG adF adH adD adP) → va_S A s.heap H locs → ∀ ls : Array Slot, lv_has ls 8 [(5, .long v5), (7, .int v7)] → W p l e R s m args below meth c H locs 0 0 (zMQ below (q_W_cut dC dI cB cI cL A adW adT adR adG adF adH adD adP a) args s 1 6 A) (F0 m 39 ls [])) (X : zx p s m args meth c R R_W b_W_cut (some .int) 8 6 98) (hA : ∀ q, s.heap.size ≤ q → A q) (zz : zk dC dI cB cI cL A s) (htr : l.stackTraces = false) (hnh : c.exceptionTable.isEmpty = true) (hAs : ∀ q, A q → ∀ cell, s.heap[q]? = some cell → cell.vm.isStatics = false) (hRc : 1 ≤ R.cells) (hRz : 6 ≤ R.slots)  (N : Nat) (v5 : Int64) (v7 : Int32) (a : (Int32 ⊕ Nat)) (hG : g_W_cut_39_b N kr v5 v7 = some a) (adW : Nat) (H : Heap) (locs : List Loc) (hP : va_P (dC, dI) zcl (zwW adW adT adR adG adF adH adD adP) H) (hD : va_D A (zwW adW adT adR adG adF adH adD adP)) (hS : va_S A s.heap H locs) (ls : Array Slot) (hl : lv_has ls 8 [(5, .long v5), (7, .int v7)]) : W p l e R s m args below meth c H locs 0 0 (zMQ below (q_W_cut dC dI cB cI cL A adW adT adR adG adF adH adD adP a) args s 1 6 A) (F0 m 39 ls []) := by
  obtain ⟨hx, hb, hr, hml, hown, hts, hlocks, hRf, hRl⟩ := id X
  unfold g_W_cut_39_b at hG
  refine lv_iload hx hb d_W_cut_39 (lv_at hl 1 rfl) ?_
  refine lv_iconst (v := (4 : Int32)) hx hb d_W_cut_41 (by decide) ?_
  refine lv_icmp_gt (tgt := 69) hx hb d_W_cut_42 (by decide) (fun hc => ?_) (fun hc => ?_)
  · have hG := zt hG hc
    refine lv_iconst (v := (0 : Int32)) hx hb d_W_cut_69 (by decide) ?_
    refine W.widen (k := 1) (n := 6) (by decide) (by decide) ?_
    exact zxreti (u := ()) (v := (0 : Int32)) X hlocks (Option.some.inj hG) hP hD hS d_W_cut_70
  · have hG := zf hG hc
    refine lv_lload hx hb d_W_cut_45 (lv_at hl 0 rfl) ?_
    refine lv_lconst (v := (1 : Int64)) hx hb d_W_cut_47 (by decide) ?_
    refine lv_bipush (v := (8 : Int32)) hx hb d_W_cut_48 (by decide) ?_
    refine lv_iload hx hb d_W_cut_50 (lv_at hl 1 rfl) ?_
    refine lv_imul hx hb d_W_cut_52 ?_
    refine lv_iconst (v := (1 : Int32)) hx hb d_W_cut_53 (by decide) ?_
    refine lv_isub hx hb d_W_cut_54 ?_
    refine lv_lshl hx hb d_W_cut_55 rfl ?_
    refine W.lcmp hx hb d_W_cut_56 ?_
    refine lv_if_gt (tgt := 63) hx hb d_W_cut_57 (by decide) (fun hc => ?_) (fun hc => ?_)
    · have hG := zt hG hc
      refine lv_iinc (v := v7 + 1) (lv' := [(7, .int (v7 + 1)), (5, .long v5)]) hx hb d_W_cut_63 hl (k := 1) rfl rfl (by decide) rfl (fun ls hl => ?_)
      refine lv_goto (tgt := 39) hx hb d_W_cut_66 (by decide) ?_
      exact hrec v5 (v7 + 1) _ hG adW _ _ hP hD hS _ (lv_sub hl [1, 0] rfl)
    · have hG := zf hG hc
      refine lv_iload hx hb d_W_cut_60 (lv_at hl 1 rfl) ?_
      refine W.widen (k := 1) (n := 6) (by decide) (by decide) ?_
      exact zxreti (u := ()) (v := v7) X hlocks (Option.some.inj hG) hP hD hS d_W_cut_62
theorem k_W_cut_39 {p : Program} {l : Launch} {e : Env} {R : Room} {s : State} {m : MethodId} {args : Array Value} {below : List Frame} {meth : Method} {c : Code} {dC : Nat → ClassId} {dI : Nat → Nat → Nat} {cB cI cL : ClassId} {A : Nat → Prop} {adT adR adG adF adH adD adP : Nat} (X : zx p s m args meth c R R_W b_W_cut (some .int) 8 6 98) (hA : ∀ q, s.heap.size ≤ q → A q) (zz : zk dC dI cB cI cL A s) (htr : l.stackTraces = false) (hnh : c.exceptionTable.isEmpty = true) (hAs : ∀ q, A q → ∀ cell, s.heap[q]? = some cell → cell.vm.isStatics = false) (hRc : 1 ≤ R.cells) (hRz : 6 ≤ R.slots)  (N : Nat) : ∀ (k : Nat) (v5 : Int64) (v7 : Int32) (a : (Int32 ⊕ Nat)) (hG : g_W_cut_39 N k v5 v7 = some a) (adW : Nat) (H : Heap) (locs : List Loc) (hP : va_P (dC, dI) zcl (zwW adW adT adR adG adF adH adD adP) H) (hD : va_D A (zwW adW adT adR adG adF adH adD adP)) (hS : va_S A s.heap H locs) (ls : Array Slot) (hl : lv_has ls 8 [(5, .long v5), (7, .int v7)]), W p l e R s m args below meth c H locs 0 0 (zMQ below (q_W_cut dC dI cB cI cL A adW adT adR adG adF adH adD adP a) args s 1 6 A) (F0 m 39 ls []) := by
  intro k
  induction k with
  | zero => intro v5 v7 a hG; exact absurd hG (by unfold g_W_cut_39; simp)
  | succ k ih => intro v5 v7 a hG adW H locs hP hD hS ls hl; exact k_W_cut_39_b _ ih X hA zz htr hnh hAs hRc hRz N v5 v7 a hG adW H locs hP hD hS ls hl
set_option maxRecDepth 100000 in
set_option maxHeartbeats 4000000 in
theorem k_W_cut_0 {p : Program} {l : Launch} {e : Env} {R : Room} {s : State} {m : MethodId} {args : Array Value} {below : List Frame} {meth : Method} {c : Code} {dC : Nat → ClassId} {dI : Nat → Nat → Nat} {cB cI cL : ClassId} {A : Nat → Prop} {adT adR adG adF adH adD adP : Nat} (X : zx p s m args meth c R R_W b_W_cut (some .int) 8 6 98) (hA : ∀ q, s.heap.size ≤ q → A q) (zz : zk dC dI cB cI cL A s) (htr : l.stackTraces = false) (hnh : c.exceptionTable.isEmpty = true) (hAs : ∀ q, A q → ∀ cell, s.heap[q]? = some cell → cell.vm.isStatics = false) (hRc : 1 ≤ R.cells) (hRz : 6 ≤ R.slots)  (N : Nat) (v1 : Int64) (v3 : Int64) (a : (Int32 ⊕ Nat)) (hG : g_W_cut N v1 v3 = some a) (adW : Nat) (H : Heap) (locs : List Loc) (hP : va_P (dC, dI) zcl (zwW adW adT adR adG adF adH adD adP) H) (hD : va_D A (zwW adW adT adR adG adF adH adD adP)) (hS : va_S A s.heap H locs) (ls : Array Slot) (hl : lv_has ls 8 [(0, .ref adW), (1, .long v1), (3, .long v3)]) : W p l e R s m args below meth c H locs 0 0 (zMQ below (q_W_cut dC dI cB cI cL A adW adT adR adG adF adH adD adP a) args s 1 6 A) (F0 m 0 ls []) := by
  obtain ⟨hx, hb, hr, hml, hown, hts, hlocks, hRf, hRl⟩ := id X
  unfold g_W_cut at hG
  refine lv_lload_n hx hb d_W_cut_0 rfl (lv_at hl 1 rfl) ?_
  obtain ⟨a_1, hx_1, hG⟩ := zb hG
  have hr_1 := zrunS (p := p) (e := e) (below := below) (meth := meth) (As := [.long v1]) (rest := []) (st0 := [.long v1]) (cells := 0) (slots := 0) X zz hP hD hS hA [] (by decide) rfl (c_W_isNumber l dC dI cB cI cL H.size v1 _ hx_1) zy_W_isNumber zv_W_isNumber (hts (.methodLink R_W 78 y_W_isNumber) zin_W_78) hl rfl rfl d_W_cut_1 (lv_room (Nat.le_of_ble_eq_true rfl)) rfl rfl ⟨Nat.le_trans (Nat.le_of_ble_eq_true rfl) hRf, Nat.le_trans (Nat.le_of_ble_eq_true rfl) hRl⟩ ⟨Nat.zero_le _, Nat.zero_le _⟩
  refine zcalli (wr := (zwW adW adT adR adG adF adH adD adP)) hr_1 hP hD hS hA [] [0] rfl rfl (by decide) (by decide) (fun r_1 u_1 H locs hw_1 hP hD hS => ?_)
  subst hw_1
  have hP : va_P (dC, dI) zcl (zwW adW adT adR adG adF adH adD adP) H := hP
  have hD : va_D A (zwW adW adT adR adG adF adH adD adP) := hD
  have hG : g_W_cut_c1 N v1 v3 r_1 = some a := hG
  unfold g_W_cut_c1 at hG
  refine lv_if_eq (tgt := 20) hx hb d_W_cut_4 (by decide) (fun hc => ?_) (fun hc => ?_)
  · have hG := zt hG hc
    exact k_W_cut_20 X hA zz htr hnh hAs hRc hRz N _ hG adW _ _ hP hD hS _ (lv_sub hl [] rfl)
  · have hG := zf hG hc
    refine lv_lload_n hx hb d_W_cut_7 rfl (lv_at hl 2 rfl) ?_
    obtain ⟨a_8, hx_8, hG⟩ := zb hG
    have hr_8 := zrunS (p := p) (e := e) (below := below) (meth := meth) (As := [.long v3]) (rest := []) (st0 := [.long v3]) (cells := 0) (slots := 0) X zz hP hD hS hA [] (by decide) rfl (c_W_isNumberOrNone l dC dI cB cI cL H.size v3 _ hx_8) zy_W_isNumberOrNone zv_W_isNumberOrNone (hts (.methodLink R_W 273 y_W_isNumberOrNone) zin_W_273) hl rfl rfl d_W_cut_8 (lv_room (Nat.le_of_ble_eq_true rfl)) rfl rfl ⟨Nat.le_trans (Nat.le_of_ble_eq_true rfl) hRf, Nat.le_trans (Nat.le_of_ble_eq_true rfl) hRl⟩ ⟨Nat.zero_le _, Nat.zero_le _⟩
    refine zcalli (wr := (zwW adW adT adR adG adF adH adD adP)) hr_8 hP hD hS hA [] [0] rfl rfl (by decide) (by decide) (fun r_8 u_8 H locs hw_8 hP hD hS => ?_)
    subst hw_8
    have hP : va_P (dC, dI) zcl (zwW adW adT adR adG adF adH adD adP) H := hP
    have hD : va_D A (zwW adW adT adR adG adF adH adD adP) := hD
    have hG : g_W_cut_c8 N v1 v3 r_8 = some a := hG
    unfold g_W_cut_c8 at hG
    refine lv_if_eq (tgt := 20) hx hb d_W_cut_11 (by decide) (fun hc => ?_) (fun hc => ?_)
    · have hG := zt hG hc
      exact k_W_cut_20 X hA zz htr hnh hAs hRc hRz N _ hG adW _ _ hP hD hS _ (lv_sub hl [] rfl)
    · have hG := zf hG hc
      refine lv_lload_n hx hb d_W_cut_14 rfl (lv_at hl 1 rfl) ?_
      refine lv_lload_n hx hb d_W_cut_15 rfl (lv_at hl 2 rfl) ?_
      refine W.lcmp hx hb d_W_cut_16 ?_
      refine lv_if_gt (tgt := 31) hx hb d_W_cut_17 (by decide) (fun hc => ?_) (fun hc => ?_)
      · have hG := zt hG hc
        refine lv_lload_n hx hb d_W_cut_31 rfl (lv_at hl 1 rfl) ?_
        refine lv_lload_n hx hb d_W_cut_32 rfl (lv_at hl 2 rfl) ?_
        refine lv_lsub hx hb d_W_cut_33 ?_
        refine lv_lstore (lv' := [(5, .long (v1 - v3)), (0, .ref adW), (1, .long v1), (3, .long v3)]) hx hb d_W_cut_34 hl (by decide) rfl (fun ls hl => ?_)
        refine lv_iconst (v := (1 : Int32)) hx hb d_W_cut_36 (by decide) ?_
        refine lv_istore (lv' := [(7, .int (1 : Int32)), (5, .long (v1 - v3)), (0, .ref adW), (1, .long v1), (3, .long v3)]) hx hb d_W_cut_37 hl (by decide) rfl (fun ls hl => ?_)
        exact k_W_cut_39 X hA zz htr hnh hAs hRc hRz N N (v1 - v3) (1 : Int32) _ hG adW _ _ hP hD hS _ (lv_sub hl [1, 0] rfl)
      · have hG := zf hG hc
        exact k_W_cut_20 X hA zz htr hnh hAs hRc hRz N _ hG adW _ _ hP hD hS _ (lv_sub hl [] rfl)
set_option maxRecDepth 100000 in
set_option maxHeartbeats 4000000 in
theorem c_W_cut (l : Launch) (dC : Nat → ClassId) (dI : Nat → Nat → Nat) (cB cI cL : ClassId) (sz : Nat) (adW adT adR adG adF adH adD adP : Nat) (N : Nat) (v1 : Int64) (v3 : Int64) (a : (Int32 ⊕ Nat)) (hG : g_W_cut N v1 v3 = some a) (htr : l.stackTraces = false) : zMet l y_W_cut (zw y_W_cut b_W_cut 8 (some .int)) ({ frames := 6, cells := 1, slots := 6, locals := 98 }) (va_Pc [.ref adW, .long v1, .long v3] (zpre dC dI cB cI cL sz (zwW adW adT adR adG adF adH adD adP))) (q_W_cut dC dI cB cI cL (va_A (zwW adW adT adR adG adF adH adD adP) sz) adW adT adR adG adF adH adD adP a) 1 6 (va_A (zwW adW adT adR adG adF adH adD adP) sz) := by
  refine zMet.ofW (cc := b_W_cut) (maxL := 8) (ret := (some .int)) (by decide) rfl ?_
  intro p e s m args below meth c s₁ B hml hv
  obtain ⟨rfl, hsz, hP, zz, hD0⟩ := hv
  subst hsz
  have X := zx_of (F := 6) (L := 98) B hml (Nat.le_refl _) (Nat.le_refl _)
  have hD := hD0.self (sz := s.heap.size)
  have hA : ∀ q : Nat, s.heap.size ≤ q → va_A (zwW adW adT adR adG adF adH adD adP) s.heap.size q := fun q h => Or.inr h
  have hl := lv_entry ([.ref adW, .long v1, .long v3]) (n := 8) (Nat.le_of_ble_eq_true rfl)
  rw [lg_entry_eq]
  generalize (lg_sl ([.ref adW, .long v1, .long v3]) ++ List.replicate (8 - (lg_sl ([.ref adW, .long v1, .long v3])).length) Slot.unset).toArray = ls at hl ⊢
  have hnh := BodyLoose.noHandlers B (atoms_spec (ws := zw y_W_cut b_W_cut 8 (some .int)) B.pre _ List.mem_cons_self)
  have hAs := zstatics hP
  exact k_W_cut_0 X hA zz htr hnh hAs (Nat.le_refl _) (Nat.le_refl _) N v1 v3 a hG adW _ _ hP hD va_S.rf ls hl

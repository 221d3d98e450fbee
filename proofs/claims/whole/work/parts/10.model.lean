theorem zy_M_thrown : zy y_M_thrown b_M_thrown 1 (some .int) 0 := ⟨zmem 1024 (by decide +kernel) (by decide +kernel), zmem 73 (by decide +kernel) (by decide +kernel), by decide +kernel⟩
theorem zv_M_thrown : Cond.instanceMethod y_M_thrown ∈ ztb ∧ Cond.selects y_M_thrown.cls y_M_thrown y_M_thrown ∈ ztb := ⟨zmem 1022 (by decide +kernel) (by decide +kernel), zmem 1023 (by decide +kernel) (by decide +kernel)⟩
theorem d_M_thrown_0 : decode b_M_thrown 0 = .ok (.aload_n 0, 1) := by decide +kernel
theorem d_M_thrown_1 : decode b_M_thrown 1 = .ok (.getfield 48, 3) := by decide +kernel
theorem d_M_thrown_4 : decode b_M_thrown 4 = .ok (.ireturn, 1) := by decide +kernel
theorem zy_M_fails : zy y_M_fails b_M_fails 3 (some .boolean) 2 := ⟨zmem 1036 (by decide +kernel) (by decide +kernel), zmem 73 (by decide +kernel) (by decide +kernel), by decide +kernel⟩
theorem zv_M_fails : Cond.instanceMethod y_M_fails ∈ ztb ∧ Cond.selects y_M_fails.cls y_M_fails y_M_fails ∈ ztb := ⟨zmem 1035 (by decide +kernel) (by decide +kernel), zmem 26 (by decide +kernel) (by decide +kernel)⟩
theorem d_M_fails_0 : decode b_M_fails 0 = .ok (.aload_n 0, 1) := by decide +kernel
theorem d_M_fails_1 : decode b_M_fails 1 = .ok (.iload_n 1, 1) := by decide +kernel
theorem d_M_fails_2 : decode b_M_fails 2 = .ok (.ifCond .eq 7, 3) := by decide +kernel
theorem d_M_fails_5 : decode b_M_fails 5 = .ok (.iload_n 2, 1) := by decide +kernel
theorem d_M_fails_6 : decode b_M_fails 6 = .ok (.goto 4, 3) := by decide +kernel
theorem d_M_fails_9 : decode b_M_fails 9 = .ok (.iconst 0, 1) := by decide +kernel
theorem d_M_fails_10 : decode b_M_fails 10 = .ok (.putfield 48, 3) := by decide +kernel
theorem d_M_fails_13 : decode b_M_fails 13 = .ok (.iload_n 1, 1) := by decide +kernel
theorem d_M_fails_14 : decode b_M_fails 14 = .ok (.ireturn, 1) := by decide +kernel
theorem zy_M_within : zy y_M_within b_M_within 6 (some .boolean) 3 := ⟨zmem 1032 (by decide +kernel) (by decide +kernel), zmem 73 (by decide +kernel) (by decide +kernel), by decide +kernel⟩
theorem zv_M_within : Cond.static y_M_within ∈ ztb := zmem 1031 (by decide +kernel) (by decide +kernel)
theorem d_M_within_0 : decode b_M_within 0 = .ok (.lload_n 0, 1) := by decide +kernel
theorem d_M_within_1 : decode b_M_within 1 = .ok (.lload_n 2, 1) := by decide +kernel
theorem d_M_within_2 : decode b_M_within 2 = .ok (.lcmp, 1) := by decide +kernel
theorem d_M_within_3 : decode b_M_within 3 = .ok (.ifCond .lt 14, 3) := by decide +kernel
theorem d_M_within_6 : decode b_M_within 6 = .ok (.lload_n 0, 1) := by decide +kernel
theorem d_M_within_7 : decode b_M_within 7 = .ok (.lload 4, 2) := by decide +kernel
theorem d_M_within_9 : decode b_M_within 9 = .ok (.lcmp, 1) := by decide +kernel
theorem d_M_within_10 : decode b_M_within 10 = .ok (.ifCond .gt 7, 3) := by decide +kernel
theorem d_M_within_13 : decode b_M_within 13 = .ok (.iconst 1, 1) := by decide +kernel
theorem d_M_within_14 : decode b_M_within 14 = .ok (.goto 4, 3) := by decide +kernel
theorem d_M_within_17 : decode b_M_within 17 = .ok (.iconst 0, 1) := by decide +kernel
theorem d_M_within_18 : decode b_M_within 18 = .ok (.ireturn, 1) := by decide +kernel
theorem zy_M_isNumber : zy y_M_isNumber b_M_isNumber 2 (some .boolean) 1 := ⟨zmem 1047 (by decide +kernel) (by decide +kernel), zmem 73 (by decide +kernel) (by decide +kernel), by decide +kernel⟩
theorem zv_M_isNumber : Cond.static y_M_isNumber ∈ ztb := zmem 1046 (by decide +kernel) (by decide +kernel)
theorem d_M_isNumber_0 : decode b_M_isNumber 0 = .ok (.lload_n 0, 1) := by decide +kernel
theorem d_M_isNumber_1 : decode b_M_isNumber 1 = .ok (.lconst 0, 1) := by decide +kernel
theorem d_M_isNumber_2 : decode b_M_isNumber 2 = .ok (.ldc2_w 51, 3) := by decide +kernel
theorem d_M_isNumber_5 : decode b_M_isNumber 5 = .ok (.invokestatic 53, 3) := by decide +kernel
theorem d_M_isNumber_8 : decode b_M_isNumber 8 = .ok (.ireturn, 1) := by decide +kernel
theorem zy_M_byteAt : zy y_M_byteAt b_M_byteAt 2 (some .int) 1 := ⟨zmem 1074 (by decide +kernel) (by decide +kernel), zmem 73 (by decide +kernel) (by decide +kernel), by decide +kernel⟩
theorem zv_M_byteAt : Cond.instanceMethod y_M_byteAt ∈ ztb ∧ Cond.selects y_M_byteAt.cls y_M_byteAt y_M_byteAt ∈ ztb := ⟨zmem 1073 (by decide +kernel) (by decide +kernel), zmem 29 (by decide +kernel) (by decide +kernel)⟩
theorem d_M_byteAt_0 : decode b_M_byteAt 0 = .ok (.aload_n 0, 1) := by decide +kernel
theorem d_M_byteAt_1 : decode b_M_byteAt 1 = .ok (.getfield 8, 3) := by decide +kernel
theorem d_M_byteAt_4 : decode b_M_byteAt 4 = .ok (.iload_n 1, 1) := by decide +kernel
theorem d_M_byteAt_5 : decode b_M_byteAt 5 = .ok (.baload, 1) := by decide +kernel
theorem d_M_byteAt_6 : decode b_M_byteAt 6 = .ok (.sipush 255, 3) := by decide +kernel
theorem d_M_byteAt_9 : decode b_M_byteAt 9 = .ok (.iand, 1) := by decide +kernel
theorem d_M_byteAt_10 : decode b_M_byteAt 10 = .ok (.ireturn, 1) := by decide +kernel
theorem zy_M_write : zy y_M_write b_M_write 5 none 2 := ⟨zmem 1040 (by decide +kernel) (by decide +kernel), zmem 73 (by decide +kernel) (by decide +kernel), by decide +kernel⟩
theorem zv_M_write : Cond.instanceMethod y_M_write ∈ ztb ∧ Cond.selects y_M_write.cls y_M_write y_M_write ∈ ztb := ⟨zmem 1039 (by decide +kernel) (by decide +kernel), zmem 27 (by decide +kernel) (by decide +kernel)⟩
theorem d_M_write_0 : decode b_M_write 0 = .ok (.iload_n 3, 1) := by decide +kernel
theorem d_M_write_1 : decode b_M_write 1 = .ok (.iconst 1, 1) := by decide +kernel
theorem d_M_write_2 : decode b_M_write 2 = .ok (.isub, 1) := by decide +kernel
theorem d_M_write_3 : decode b_M_write 3 = .ok (.istore 4, 2) := by decide +kernel
theorem d_M_write_5 : decode b_M_write 5 = .ok (.iload 4, 2) := by decide +kernel
theorem d_M_write_7 : decode b_M_write 7 = .ok (.ifCond .lt 37, 3) := by decide +kernel
theorem d_M_write_10 : decode b_M_write 10 = .ok (.aload_n 0, 1) := by decide +kernel
theorem d_M_write_11 : decode b_M_write 11 = .ok (.getfield 8, 3) := by decide +kernel
theorem d_M_write_14 : decode b_M_write 14 = .ok (.aload_n 0, 1) := by decide +kernel
theorem d_M_write_15 : decode b_M_write 15 = .ok (.getfield 57, 3) := by decide +kernel
theorem d_M_write_18 : decode b_M_write 18 = .ok (.lload_n 1, 1) := by decide +kernel
theorem d_M_write_19 : decode b_M_write 19 = .ok (.bipush 8, 2) := by decide +kernel
theorem d_M_write_21 : decode b_M_write 21 = .ok (.iload 4, 2) := by decide +kernel
theorem d_M_write_23 : decode b_M_write 23 = .ok (.imul, 1) := by decide +kernel
theorem d_M_write_24 : decode b_M_write 24 = .ok (.lshr, 1) := by decide +kernel
theorem d_M_write_25 : decode b_M_write 25 = .ok (.l2i, 1) := by decide +kernel
theorem d_M_write_26 : decode b_M_write 26 = .ok (.i2b, 1) := by decide +kernel
theorem d_M_write_27 : decode b_M_write 27 = .ok (.bastore, 1) := by decide +kernel
theorem d_M_write_28 : decode b_M_write 28 = .ok (.aload_n 0, 1) := by decide +kernel
theorem d_M_write_29 : decode b_M_write 29 = .ok (.dup, 1) := by decide +kernel
theorem d_M_write_30 : decode b_M_write 30 = .ok (.getfield 57, 3) := by decide +kernel
theorem d_M_write_33 : decode b_M_write 33 = .ok (.iconst 1, 1) := by decide +kernel
theorem d_M_write_34 : decode b_M_write 34 = .ok (.iadd, 1) := by decide +kernel
theorem d_M_write_35 : decode b_M_write 35 = .ok (.putfield 57, 3) := by decide +kernel
theorem d_M_write_38 : decode b_M_write 38 = .ok (.iinc 4 (-1), 3) := by decide +kernel
theorem d_M_write_41 : decode b_M_write 41 = .ok (.goto (-36), 3) := by decide +kernel
theorem d_M_write_44 : decode b_M_write 44 = .ok (.return_, 1) := by decide +kernel
theorem zy_M_feed : zy y_M_feed b_M_feed 4 (some .int) 2 := ⟨zmem 1028 (by decide +kernel) (by decide +kernel), zmem 73 (by decide +kernel) (by decide +kernel), by decide +kernel⟩
theorem zv_M_feed : Cond.instanceMethod y_M_feed ∈ ztb ∧ Cond.selects y_M_feed.cls y_M_feed y_M_feed ∈ ztb := ⟨zmem 1026 (by decide +kernel) (by decide +kernel), zmem 1027 (by decide +kernel) (by decide +kernel)⟩
theorem d_M_feed_0 : decode b_M_feed 0 = .ok (.aload_n 0, 1) := by decide +kernel
theorem d_M_feed_1 : decode b_M_feed 1 = .ok (.iload_n 3, 1) := by decide +kernel
theorem d_M_feed_2 : decode b_M_feed 2 = .ok (.i2l, 1) := by decide +kernel
theorem d_M_feed_3 : decode b_M_feed 3 = .ok (.lconst 1, 1) := by decide +kernel
theorem d_M_feed_4 : decode b_M_feed 4 = .ok (.ldc2_w 60, 3) := by decide +kernel
theorem d_M_feed_7 : decode b_M_feed 7 = .ok (.invokestatic 53, 3) := by decide +kernel
theorem d_M_feed_10 : decode b_M_feed 10 = .ok (.ifCond .ne 7, 3) := by decide +kernel
theorem d_M_feed_13 : decode b_M_feed 13 = .ok (.iconst 1, 1) := by decide +kernel
theorem d_M_feed_14 : decode b_M_feed 14 = .ok (.goto 4, 3) := by decide +kernel
theorem d_M_feed_17 : decode b_M_feed 17 = .ok (.iconst 0, 1) := by decide +kernel
theorem d_M_feed_18 : decode b_M_feed 18 = .ok (.iconst 1, 1) := by decide +kernel
theorem d_M_feed_19 : decode b_M_feed 19 = .ok (.invokevirtual 62, 3) := by decide +kernel
theorem d_M_feed_22 : decode b_M_feed 22 = .ok (.ifCond .ne 27, 3) := by decide +kernel
theorem d_M_feed_25 : decode b_M_feed 25 = .ok (.aload_n 0, 1) := by decide +kernel
theorem d_M_feed_26 : decode b_M_feed 26 = .ok (.aload_n 0, 1) := by decide +kernel
theorem d_M_feed_27 : decode b_M_feed 27 = .ok (.getfield 57, 3) := by decide +kernel
theorem d_M_feed_30 : decode b_M_feed 30 = .ok (.iload_n 3, 1) := by decide +kernel
theorem d_M_feed_31 : decode b_M_feed 31 = .ok (.iadd, 1) := by decide +kernel
theorem d_M_feed_32 : decode b_M_feed 32 = .ok (.ldc 7, 2) := by decide +kernel
theorem d_M_feed_34 : decode b_M_feed 34 = .ok (.if_icmp .le 7, 3) := by decide +kernel
theorem d_M_feed_37 : decode b_M_feed 37 = .ok (.iconst 1, 1) := by decide +kernel
theorem d_M_feed_38 : decode b_M_feed 38 = .ok (.goto 4, 3) := by decide +kernel
theorem d_M_feed_41 : decode b_M_feed 41 = .ok (.iconst 0, 1) := by decide +kernel
theorem d_M_feed_42 : decode b_M_feed 42 = .ok (.iconst 2, 1) := by decide +kernel
theorem d_M_feed_43 : decode b_M_feed 43 = .ok (.invokevirtual 62, 3) := by decide +kernel
theorem d_M_feed_46 : decode b_M_feed 46 = .ok (.ifCond .eq 5, 3) := by decide +kernel
theorem d_M_feed_49 : decode b_M_feed 49 = .ok (.iconst 0, 1) := by decide +kernel
theorem d_M_feed_50 : decode b_M_feed 50 = .ok (.ireturn, 1) := by decide +kernel
theorem d_M_feed_51 : decode b_M_feed 51 = .ok (.aload_n 0, 1) := by decide +kernel
theorem d_M_feed_52 : decode b_M_feed 52 = .ok (.lload_n 1, 1) := by decide +kernel
theorem d_M_feed_53 : decode b_M_feed 53 = .ok (.iload_n 3, 1) := by decide +kernel
theorem d_M_feed_54 : decode b_M_feed 54 = .ok (.invokevirtual 66, 3) := by decide +kernel
theorem d_M_feed_57 : decode b_M_feed 57 = .ok (.aload_n 0, 1) := by decide +kernel
theorem d_M_feed_58 : decode b_M_feed 58 = .ok (.getfield 57, 3) := by decide +kernel
theorem d_M_feed_61 : decode b_M_feed 61 = .ok (.ireturn, 1) := by decide +kernel
theorem zy_M_needs : zy y_M_needs b_M_needs 2 (some .int) 1 := ⟨zmem 1051 (by decide +kernel) (by decide +kernel), zmem 73 (by decide +kernel) (by decide +kernel), by decide +kernel⟩
theorem zv_M_needs : Cond.static y_M_needs ∈ ztb := zmem 1050 (by decide +kernel) (by decide +kernel)
theorem d_M_needs_0 : decode b_M_needs 0 = .ok (.lload_n 0, 1) := by decide +kernel
theorem d_M_needs_1 : decode b_M_needs 1 = .ok (.ldc2_w 70, 3) := by decide +kernel
theorem d_M_needs_4 : decode b_M_needs 4 = .ok (.lcmp, 1) := by decide +kernel
theorem d_M_needs_5 : decode b_M_needs 5 = .ok (.ifCond .ge 7, 3) := by decide +kernel
theorem d_M_needs_8 : decode b_M_needs 8 = .ok (.iconst 1, 1) := by decide +kernel
theorem d_M_needs_9 : decode b_M_needs 9 = .ok (.goto 29, 3) := by decide +kernel
theorem d_M_needs_12 : decode b_M_needs 12 = .ok (.lload_n 0, 1) := by decide +kernel
theorem d_M_needs_13 : decode b_M_needs 13 = .ok (.ldc2_w 72, 3) := by decide +kernel
theorem d_M_needs_16 : decode b_M_needs 16 = .ok (.lcmp, 1) := by decide +kernel
theorem d_M_needs_17 : decode b_M_needs 17 = .ok (.ifCond .ge 7, 3) := by decide +kernel
theorem d_M_needs_20 : decode b_M_needs 20 = .ok (.iconst 2, 1) := by decide +kernel
theorem d_M_needs_21 : decode b_M_needs 21 = .ok (.goto 17, 3) := by decide +kernel
theorem d_M_needs_24 : decode b_M_needs 24 = .ok (.lload_n 0, 1) := by decide +kernel
theorem d_M_needs_25 : decode b_M_needs 25 = .ok (.ldc2_w 74, 3) := by decide +kernel
theorem d_M_needs_28 : decode b_M_needs 28 = .ok (.lcmp, 1) := by decide +kernel
theorem d_M_needs_29 : decode b_M_needs 29 = .ok (.ifCond .ge 7, 3) := by decide +kernel
theorem d_M_needs_32 : decode b_M_needs 32 = .ok (.iconst 4, 1) := by decide +kernel
theorem d_M_needs_33 : decode b_M_needs 33 = .ok (.goto 5, 3) := by decide +kernel
theorem d_M_needs_36 : decode b_M_needs 36 = .ok (.bipush 8, 2) := by decide +kernel
theorem d_M_needs_38 : decode b_M_needs 38 = .ok (.ireturn, 1) := by decide +kernel
theorem zy_M_writeNumber : zy y_M_writeNumber b_M_writeNumber 6 none 2 := ⟨zmem 1058 (by decide +kernel) (by decide +kernel), zmem 73 (by decide +kernel) (by decide +kernel), by decide +kernel⟩
theorem zv_M_writeNumber : Cond.instanceMethod y_M_writeNumber ∈ ztb ∧ Cond.selects y_M_writeNumber.cls y_M_writeNumber y_M_writeNumber ∈ ztb := ⟨zmem 1057 (by decide +kernel) (by decide +kernel), zmem 28 (by decide +kernel) (by decide +kernel)⟩
theorem d_M_writeNumber_0 : decode b_M_writeNumber 0 = .ok (.iload_n 3, 1) := by decide +kernel
theorem d_M_writeNumber_1 : decode b_M_writeNumber 1 = .ok (.iconst 1, 1) := by decide +kernel
theorem d_M_writeNumber_2 : decode b_M_writeNumber 2 = .ok (.if_icmp .ne 7, 3) := by decide +kernel
theorem d_M_writeNumber_5 : decode b_M_writeNumber 5 = .ok (.lconst 0, 1) := by decide +kernel
theorem d_M_writeNumber_6 : decode b_M_writeNumber 6 = .ok (.goto 26, 3) := by decide +kernel
theorem d_M_writeNumber_9 : decode b_M_writeNumber 9 = .ok (.iload_n 3, 1) := by decide +kernel
theorem d_M_writeNumber_10 : decode b_M_writeNumber 10 = .ok (.iconst 2, 1) := by decide +kernel
theorem d_M_writeNumber_11 : decode b_M_writeNumber 11 = .ok (.if_icmp .ne 7, 3) := by decide +kernel
theorem d_M_writeNumber_14 : decode b_M_writeNumber 14 = .ok (.lconst 1, 1) := by decide +kernel
theorem d_M_writeNumber_15 : decode b_M_writeNumber 15 = .ok (.goto 17, 3) := by decide +kernel
theorem d_M_writeNumber_18 : decode b_M_writeNumber 18 = .ok (.iload_n 3, 1) := by decide +kernel
theorem d_M_writeNumber_19 : decode b_M_writeNumber 19 = .ok (.iconst 4, 1) := by decide +kernel
theorem d_M_writeNumber_20 : decode b_M_writeNumber 20 = .ok (.if_icmp .ne 9, 3) := by decide +kernel
theorem d_M_writeNumber_23 : decode b_M_writeNumber 23 = .ok (.ldc2_w 76, 3) := by decide +kernel
theorem d_M_writeNumber_26 : decode b_M_writeNumber 26 = .ok (.goto 6, 3) := by decide +kernel
theorem d_M_writeNumber_29 : decode b_M_writeNumber 29 = .ok (.ldc2_w 78, 3) := by decide +kernel
theorem d_M_writeNumber_32 : decode b_M_writeNumber 32 = .ok (.lstore 4, 2) := by decide +kernel
theorem d_M_writeNumber_34 : decode b_M_writeNumber 34 = .ok (.aload_n 0, 1) := by decide +kernel
theorem d_M_writeNumber_35 : decode b_M_writeNumber 35 = .ok (.lload_n 1, 1) := by decide +kernel
theorem d_M_writeNumber_36 : decode b_M_writeNumber 36 = .ok (.lload 4, 2) := by decide +kernel
theorem d_M_writeNumber_38 : decode b_M_writeNumber 38 = .ok (.bipush 8, 2) := by decide +kernel
theorem d_M_writeNumber_40 : decode b_M_writeNumber 40 = .ok (.iload_n 3, 1) := by decide +kernel
theorem d_M_writeNumber_41 : decode b_M_writeNumber 41 = .ok (.imul, 1) := by decide +kernel
theorem d_M_writeNumber_42 : decode b_M_writeNumber 42 = .ok (.iconst 2, 1) := by decide +kernel
theorem d_M_writeNumber_43 : decode b_M_writeNumber 43 = .ok (.isub, 1) := by decide +kernel
theorem d_M_writeNumber_44 : decode b_M_writeNumber 44 = .ok (.lshl, 1) := by decide +kernel
theorem d_M_writeNumber_45 : decode b_M_writeNumber 45 = .ok (.lor, 1) := by decide +kernel
theorem d_M_writeNumber_46 : decode b_M_writeNumber 46 = .ok (.iload_n 3, 1) := by decide +kernel
theorem d_M_writeNumber_47 : decode b_M_writeNumber 47 = .ok (.invokevirtual 66, 3) := by decide +kernel
theorem d_M_writeNumber_50 : decode b_M_writeNumber 50 = .ok (.return_, 1) := by decide +kernel
theorem zy_M_number : zy y_M_number b_M_number 6 (some .int) 2 := ⟨zmem 1044 (by decide +kernel) (by decide +kernel), zmem 73 (by decide +kernel) (by decide +kernel), by decide +kernel⟩
theorem zv_M_number : Cond.instanceMethod y_M_number ∈ ztb ∧ Cond.selects y_M_number.cls y_M_number y_M_number ∈ ztb := ⟨zmem 1042 (by decide +kernel) (by decide +kernel), zmem 1043 (by decide +kernel) (by decide +kernel)⟩
theorem d_M_number_0 : decode b_M_number 0 = .ok (.iload_n 3, 1) := by decide +kernel
theorem d_M_number_1 : decode b_M_number 1 = .ok (.ifCond .eq 24, 3) := by decide +kernel
theorem d_M_number_4 : decode b_M_number 4 = .ok (.iload_n 3, 1) := by decide +kernel
theorem d_M_number_5 : decode b_M_number 5 = .ok (.iconst 1, 1) := by decide +kernel
theorem d_M_number_6 : decode b_M_number 6 = .ok (.if_icmp .eq 19, 3) := by decide +kernel
theorem d_M_number_9 : decode b_M_number 9 = .ok (.iload_n 3, 1) := by decide +kernel
theorem d_M_number_10 : decode b_M_number 10 = .ok (.iconst 2, 1) := by decide +kernel
theorem d_M_number_11 : decode b_M_number 11 = .ok (.if_icmp .eq 14, 3) := by decide +kernel
theorem d_M_number_14 : decode b_M_number 14 = .ok (.iload_n 3, 1) := by decide +kernel
theorem d_M_number_15 : decode b_M_number 15 = .ok (.iconst 4, 1) := by decide +kernel
theorem d_M_number_16 : decode b_M_number 16 = .ok (.if_icmp .eq 9, 3) := by decide +kernel
theorem d_M_number_19 : decode b_M_number 19 = .ok (.iload_n 3, 1) := by decide +kernel
theorem d_M_number_20 : decode b_M_number 20 = .ok (.bipush 8, 2) := by decide +kernel
theorem d_M_number_22 : decode b_M_number 22 = .ok (.if_icmp .ne 7, 3) := by decide +kernel
theorem d_M_number_25 : decode b_M_number 25 = .ok (.iconst 1, 1) := by decide +kernel
theorem d_M_number_26 : decode b_M_number 26 = .ok (.goto 4, 3) := by decide +kernel
theorem d_M_number_29 : decode b_M_number 29 = .ok (.iconst 0, 1) := by decide +kernel
theorem d_M_number_30 : decode b_M_number 30 = .ok (.istore 4, 2) := by decide +kernel
theorem d_M_number_32 : decode b_M_number 32 = .ok (.aload_n 0, 1) := by decide +kernel
theorem d_M_number_33 : decode b_M_number 33 = .ok (.lload_n 1, 1) := by decide +kernel
theorem d_M_number_34 : decode b_M_number 34 = .ok (.invokestatic 80, 3) := by decide +kernel
theorem d_M_number_37 : decode b_M_number 37 = .ok (.ifCond .eq 20, 3) := by decide +kernel
theorem d_M_number_40 : decode b_M_number 40 = .ok (.iload 4, 2) := by decide +kernel
theorem d_M_number_42 : decode b_M_number 42 = .ok (.ifCond .eq 15, 3) := by decide +kernel
theorem d_M_number_45 : decode b_M_number 45 = .ok (.iload_n 3, 1) := by decide +kernel
theorem d_M_number_46 : decode b_M_number 46 = .ok (.ifCond .le 15, 3) := by decide +kernel
theorem d_M_number_49 : decode b_M_number 49 = .ok (.lload_n 1, 1) := by decide +kernel
theorem d_M_number_50 : decode b_M_number 50 = .ok (.invokestatic 84, 3) := by decide +kernel
theorem d_M_number_53 : decode b_M_number 53 = .ok (.iload_n 3, 1) := by decide +kernel
theorem d_M_number_54 : decode b_M_number 54 = .ok (.if_icmp .le 7, 3) := by decide +kernel
theorem d_M_number_57 : decode b_M_number 57 = .ok (.iconst 1, 1) := by decide +kernel
theorem d_M_number_58 : decode b_M_number 58 = .ok (.goto 4, 3) := by decide +kernel
theorem d_M_number_61 : decode b_M_number 61 = .ok (.iconst 0, 1) := by decide +kernel
theorem d_M_number_62 : decode b_M_number 62 = .ok (.iconst 1, 1) := by decide +kernel
theorem d_M_number_63 : decode b_M_number 63 = .ok (.invokevirtual 62, 3) := by decide +kernel
theorem d_M_number_66 : decode b_M_number 66 = .ok (.ifCond .eq 5, 3) := by decide +kernel
theorem d_M_number_69 : decode b_M_number 69 = .ok (.iconst 0, 1) := by decide +kernel
theorem d_M_number_70 : decode b_M_number 70 = .ok (.ireturn, 1) := by decide +kernel
theorem d_M_number_71 : decode b_M_number 71 = .ok (.iload_n 3, 1) := by decide +kernel
theorem d_M_number_72 : decode b_M_number 72 = .ok (.ifCond .ne 10, 3) := by decide +kernel
theorem d_M_number_75 : decode b_M_number 75 = .ok (.lload_n 1, 1) := by decide +kernel
theorem d_M_number_76 : decode b_M_number 76 = .ok (.invokestatic 84, 3) := by decide +kernel
theorem d_M_number_79 : decode b_M_number 79 = .ok (.goto 4, 3) := by decide +kernel
theorem d_M_number_82 : decode b_M_number 82 = .ok (.iload_n 3, 1) := by decide +kernel
theorem d_M_number_83 : decode b_M_number 83 = .ok (.istore 5, 2) := by decide +kernel
theorem d_M_number_85 : decode b_M_number 85 = .ok (.aload_n 0, 1) := by decide +kernel
theorem d_M_number_86 : decode b_M_number 86 = .ok (.aload_n 0, 1) := by decide +kernel
theorem d_M_number_87 : decode b_M_number 87 = .ok (.getfield 57, 3) := by decide +kernel
theorem d_M_number_90 : decode b_M_number 90 = .ok (.iload 5, 2) := by decide +kernel
theorem d_M_number_92 : decode b_M_number 92 = .ok (.iadd, 1) := by decide +kernel
theorem d_M_number_93 : decode b_M_number 93 = .ok (.ldc 7, 2) := by decide +kernel
theorem d_M_number_95 : decode b_M_number 95 = .ok (.if_icmp .le 7, 3) := by decide +kernel
theorem d_M_number_98 : decode b_M_number 98 = .ok (.iconst 1, 1) := by decide +kernel
theorem d_M_number_99 : decode b_M_number 99 = .ok (.goto 4, 3) := by decide +kernel
theorem d_M_number_102 : decode b_M_number 102 = .ok (.iconst 0, 1) := by decide +kernel
theorem d_M_number_103 : decode b_M_number 103 = .ok (.iconst 2, 1) := by decide +kernel
theorem d_M_number_104 : decode b_M_number 104 = .ok (.invokevirtual 62, 3) := by decide +kernel
theorem d_M_number_107 : decode b_M_number 107 = .ok (.ifCond .eq 5, 3) := by decide +kernel
theorem d_M_number_110 : decode b_M_number 110 = .ok (.iconst 0, 1) := by decide +kernel
theorem d_M_number_111 : decode b_M_number 111 = .ok (.ireturn, 1) := by decide +kernel
theorem d_M_number_112 : decode b_M_number 112 = .ok (.aload_n 0, 1) := by decide +kernel
theorem d_M_number_113 : decode b_M_number 113 = .ok (.lload_n 1, 1) := by decide +kernel
theorem d_M_number_114 : decode b_M_number 114 = .ok (.iload 5, 2) := by decide +kernel
theorem d_M_number_116 : decode b_M_number 116 = .ok (.invokevirtual 88, 3) := by decide +kernel
theorem d_M_number_119 : decode b_M_number 119 = .ok (.aload_n 0, 1) := by decide +kernel
theorem d_M_number_120 : decode b_M_number 120 = .ok (.getfield 57, 3) := by decide +kernel
theorem d_M_number_123 : decode b_M_number 123 = .ok (.ireturn, 1) := by decide +kernel
theorem zy_M_begin : zy y_M_begin b_M_begin 1 none 0 := ⟨zmem 929 (by decide +kernel) (by decide +kernel), zmem 73 (by decide +kernel) (by decide +kernel), by decide +kernel⟩
theorem zv_M_begin : Cond.instanceMethod y_M_begin ∈ ztb ∧ Cond.selects y_M_begin.cls y_M_begin y_M_begin ∈ ztb := ⟨zmem 928 (by decide +kernel) (by decide +kernel), zmem 24 (by decide +kernel) (by decide +kernel)⟩
theorem d_M_begin_0 : decode b_M_begin 0 = .ok (.aload_n 0, 1) := by decide +kernel
theorem d_M_begin_1 : decode b_M_begin 1 = .ok (.iconst 0, 1) := by decide +kernel
theorem d_M_begin_2 : decode b_M_begin 2 = .ok (.putfield 91, 3) := by decide +kernel
theorem d_M_begin_5 : decode b_M_begin 5 = .ok (.aload_n 0, 1) := by decide +kernel
theorem d_M_begin_6 : decode b_M_begin 6 = .ok (.iconst (-1), 1) := by decide +kernel
theorem d_M_begin_7 : decode b_M_begin 7 = .ok (.putfield 14, 3) := by decide +kernel
theorem d_M_begin_10 : decode b_M_begin 10 = .ok (.aload_n 0, 1) := by decide +kernel
theorem d_M_begin_11 : decode b_M_begin 11 = .ok (.iconst 0, 1) := by decide +kernel
theorem d_M_begin_12 : decode b_M_begin 12 = .ok (.putfield 94, 3) := by decide +kernel
theorem d_M_begin_15 : decode b_M_begin 15 = .ok (.aload_n 0, 1) := by decide +kernel
theorem d_M_begin_16 : decode b_M_begin 16 = .ok (.iconst 0, 1) := by decide +kernel
theorem d_M_begin_17 : decode b_M_begin 17 = .ok (.putfield 97, 3) := by decide +kernel
theorem d_M_begin_20 : decode b_M_begin 20 = .ok (.return_, 1) := by decide +kernel
theorem zy_M_size : zy y_M_size b_M_size 1 (some .int) 0 := ⟨zmem 1066 (by decide +kernel) (by decide +kernel), zmem 73 (by decide +kernel) (by decide +kernel), by decide +kernel⟩
theorem zv_M_size : Cond.instanceMethod y_M_size ∈ ztb ∧ Cond.selects y_M_size.cls y_M_size y_M_size ∈ ztb := ⟨zmem 1064 (by decide +kernel) (by decide +kernel), zmem 1065 (by decide +kernel) (by decide +kernel)⟩
theorem d_M_size_0 : decode b_M_size 0 = .ok (.aload_n 0, 1) := by decide +kernel
theorem d_M_size_1 : decode b_M_size 1 = .ok (.iconst 0, 1) := by decide +kernel
theorem d_M_size_2 : decode b_M_size 2 = .ok (.putfield 48, 3) := by decide +kernel
theorem d_M_size_5 : decode b_M_size 5 = .ok (.aload_n 0, 1) := by decide +kernel
theorem d_M_size_6 : decode b_M_size 6 = .ok (.getfield 57, 3) := by decide +kernel
theorem d_M_size_9 : decode b_M_size 9 = .ok (.ireturn, 1) := by decide +kernel
theorem zy_M_at : zy y_M_at b_M_at 2 (some .int) 1 := ⟨zmem 1070 (by decide +kernel) (by decide +kernel), zmem 73 (by decide +kernel) (by decide +kernel), by decide +kernel⟩
theorem zv_M_at : Cond.instanceMethod y_M_at ∈ ztb ∧ Cond.selects y_M_at.cls y_M_at y_M_at ∈ ztb := ⟨zmem 1068 (by decide +kernel) (by decide +kernel), zmem 1069 (by decide +kernel) (by decide +kernel)⟩
theorem d_M_at_0 : decode b_M_at 0 = .ok (.aload_n 0, 1) := by decide +kernel
theorem d_M_at_1 : decode b_M_at 1 = .ok (.iload_n 1, 1) := by decide +kernel
theorem d_M_at_2 : decode b_M_at 2 = .ok (.i2l, 1) := by decide +kernel
theorem d_M_at_3 : decode b_M_at 3 = .ok (.lconst 0, 1) := by decide +kernel
theorem d_M_at_4 : decode b_M_at 4 = .ok (.aload_n 0, 1) := by decide +kernel
theorem d_M_at_5 : decode b_M_at 5 = .ok (.getfield 57, 3) := by decide +kernel
theorem d_M_at_8 : decode b_M_at 8 = .ok (.i2l, 1) := by decide +kernel
theorem d_M_at_9 : decode b_M_at 9 = .ok (.lconst 1, 1) := by decide +kernel
theorem d_M_at_10 : decode b_M_at 10 = .ok (.lsub, 1) := by decide +kernel
theorem d_M_at_11 : decode b_M_at 11 = .ok (.invokestatic 53, 3) := by decide +kernel
theorem d_M_at_14 : decode b_M_at 14 = .ok (.ifCond .ne 7, 3) := by decide +kernel
theorem d_M_at_17 : decode b_M_at 17 = .ok (.iconst 1, 1) := by decide +kernel
theorem d_M_at_18 : decode b_M_at 18 = .ok (.goto 4, 3) := by decide +kernel
theorem d_M_at_21 : decode b_M_at 21 = .ok (.iconst 0, 1) := by decide +kernel
theorem d_M_at_22 : decode b_M_at 22 = .ok (.iconst 1, 1) := by decide +kernel
theorem d_M_at_23 : decode b_M_at 23 = .ok (.invokevirtual 62, 3) := by decide +kernel
theorem d_M_at_26 : decode b_M_at 26 = .ok (.ifCond .eq 7, 3) := by decide +kernel
theorem d_M_at_29 : decode b_M_at 29 = .ok (.iconst 0, 1) := by decide +kernel
theorem d_M_at_30 : decode b_M_at 30 = .ok (.goto 8, 3) := by decide +kernel
theorem d_M_at_33 : decode b_M_at 33 = .ok (.aload_n 0, 1) := by decide +kernel
theorem d_M_at_34 : decode b_M_at 34 = .ok (.iload_n 1, 1) := by decide +kernel
theorem d_M_at_35 : decode b_M_at 35 = .ok (.invokevirtual 106, 3) := by decide +kernel
theorem d_M_at_38 : decode b_M_at 38 = .ok (.ireturn, 1) := by decide +kernel
theorem zy_M_look : zy y_M_look b_M_look 3 none 2 := ⟨zmem 1082 (by decide +kernel) (by decide +kernel), zmem 73 (by decide +kernel) (by decide +kernel), by decide +kernel⟩
theorem zv_M_look : Cond.instanceMethod y_M_look ∈ ztb ∧ Cond.selects y_M_look.cls y_M_look y_M_look ∈ ztb := ⟨zmem 1081 (by decide +kernel) (by decide +kernel), zmem 30 (by decide +kernel) (by decide +kernel)⟩
theorem d_M_look_0 : decode b_M_look 0 = .ok (.aload_n 0, 1) := by decide +kernel
theorem d_M_look_1 : decode b_M_look 1 = .ok (.iload_n 1, 1) := by decide +kernel
theorem d_M_look_2 : decode b_M_look 2 = .ok (.putfield 110, 3) := by decide +kernel
theorem d_M_look_5 : decode b_M_look 5 = .ok (.aload_n 0, 1) := by decide +kernel
theorem d_M_look_6 : decode b_M_look 6 = .ok (.iload_n 2, 1) := by decide +kernel
theorem d_M_look_7 : decode b_M_look 7 = .ok (.putfield 113, 3) := by decide +kernel
theorem d_M_look_10 : decode b_M_look 10 = .ok (.aload_n 0, 1) := by decide +kernel
theorem d_M_look_11 : decode b_M_look 11 = .ok (.iconst 0, 1) := by decide +kernel
theorem d_M_look_12 : decode b_M_look 12 = .ok (.putfield 116, 3) := by decide +kernel
theorem d_M_look_15 : decode b_M_look 15 = .ok (.return_, 1) := by decide +kernel
theorem zy_M_take : zy y_M_take b_M_take 5 (some .long) 1 := ⟨zmem 1090 (by decide +kernel) (by decide +kernel), zmem 73 (by decide +kernel) (by decide +kernel), by decide +kernel⟩
theorem zv_M_take : Cond.instanceMethod y_M_take ∈ ztb ∧ Cond.selects y_M_take.cls y_M_take y_M_take ∈ ztb := ⟨zmem 1089 (by decide +kernel) (by decide +kernel), zmem 32 (by decide +kernel) (by decide +kernel)⟩
theorem d_M_take_0 : decode b_M_take 0 = .ok (.aload_n 0, 1) := by decide +kernel
theorem d_M_take_1 : decode b_M_take 1 = .ok (.getfield 116, 3) := by decide +kernel
theorem d_M_take_4 : decode b_M_take 4 = .ok (.ifCond .ne 16, 3) := by decide +kernel
theorem d_M_take_7 : decode b_M_take 7 = .ok (.aload_n 0, 1) := by decide +kernel
theorem d_M_take_8 : decode b_M_take 8 = .ok (.getfield 113, 3) := by decide +kernel
theorem d_M_take_11 : decode b_M_take 11 = .ok (.aload_n 0, 1) := by decide +kernel
theorem d_M_take_12 : decode b_M_take 12 = .ok (.getfield 110, 3) := by decide +kernel
theorem d_M_take_15 : decode b_M_take 15 = .ok (.isub, 1) := by decide +kernel
theorem d_M_take_16 : decode b_M_take 16 = .ok (.iload_n 1, 1) := by decide +kernel
theorem d_M_take_17 : decode b_M_take 17 = .ok (.if_icmp .ge 10, 3) := by decide +kernel
theorem d_M_take_20 : decode b_M_take 20 = .ok (.aload_n 0, 1) := by decide +kernel
theorem d_M_take_21 : decode b_M_take 21 = .ok (.iconst 1, 1) := by decide +kernel
theorem d_M_take_22 : decode b_M_take 22 = .ok (.putfield 116, 3) := by decide +kernel
theorem d_M_take_25 : decode b_M_take 25 = .ok (.lconst 0, 1) := by decide +kernel
theorem d_M_take_26 : decode b_M_take 26 = .ok (.lreturn, 1) := by decide +kernel
theorem d_M_take_27 : decode b_M_take 27 = .ok (.lconst 0, 1) := by decide +kernel
theorem d_M_take_28 : decode b_M_take 28 = .ok (.lstore_n 2, 1) := by decide +kernel
theorem d_M_take_29 : decode b_M_take 29 = .ok (.iconst 0, 1) := by decide +kernel
theorem d_M_take_30 : decode b_M_take 30 = .ok (.istore 4, 2) := by decide +kernel
theorem d_M_take_32 : decode b_M_take 32 = .ok (.iload 4, 2) := by decide +kernel
theorem d_M_take_34 : decode b_M_take 34 = .ok (.iload_n 1, 1) := by decide +kernel
theorem d_M_take_35 : decode b_M_take 35 = .ok (.if_icmp .ge 34, 3) := by decide +kernel
theorem d_M_take_38 : decode b_M_take 38 = .ok (.lload_n 2, 1) := by decide +kernel
theorem d_M_take_39 : decode b_M_take 39 = .ok (.bipush 8, 2) := by decide +kernel
theorem d_M_take_41 : decode b_M_take 41 = .ok (.lshl, 1) := by decide +kernel
theorem d_M_take_42 : decode b_M_take 42 = .ok (.aload_n 0, 1) := by decide +kernel
theorem d_M_take_43 : decode b_M_take 43 = .ok (.aload_n 0, 1) := by decide +kernel
theorem d_M_take_44 : decode b_M_take 44 = .ok (.getfield 110, 3) := by decide +kernel
theorem d_M_take_47 : decode b_M_take 47 = .ok (.invokevirtual 106, 3) := by decide +kernel
theorem d_M_take_50 : decode b_M_take 50 = .ok (.i2l, 1) := by decide +kernel
theorem d_M_take_51 : decode b_M_take 51 = .ok (.lor, 1) := by decide +kernel
theorem d_M_take_52 : decode b_M_take 52 = .ok (.lstore_n 2, 1) := by decide +kernel
theorem d_M_take_53 : decode b_M_take 53 = .ok (.aload_n 0, 1) := by decide +kernel
theorem d_M_take_54 : decode b_M_take 54 = .ok (.dup, 1) := by decide +kernel
theorem d_M_take_55 : decode b_M_take 55 = .ok (.getfield 110, 3) := by decide +kernel
theorem d_M_take_58 : decode b_M_take 58 = .ok (.iconst 1, 1) := by decide +kernel
theorem d_M_take_59 : decode b_M_take 59 = .ok (.iadd, 1) := by decide +kernel
theorem d_M_take_60 : decode b_M_take 60 = .ok (.putfield 110, 3) := by decide +kernel
theorem d_M_take_63 : decode b_M_take 63 = .ok (.iinc 4 1, 3) := by decide +kernel
theorem d_M_take_66 : decode b_M_take 66 = .ok (.goto (-34), 3) := by decide +kernel
theorem d_M_take_69 : decode b_M_take 69 = .ok (.lload_n 2, 1) := by decide +kernel
theorem d_M_take_70 : decode b_M_take 70 = .ok (.lreturn, 1) := by decide +kernel
theorem znest_D_88 : Cond.fieldLinkNest R_D 88 "WireCodec" "SHAPES" "[I" "WireCodec" ∈ zN := zmemN 752 (by decide +kernel) rfl
theorem znest_D_92 : Cond.methodLinkNest R_D 92 y_W_isNumber "WireCodec" ∈ zN := zmemN 733 (by decide +kernel) rfl
theorem znest_W_11 : Cond.methodLinkNest R_W 11 y_T_init "WireCodec" ∈ zN := zmemN 91 (by decide +kernel) rfl
theorem znest_W_27 : Cond.methodLinkNest R_W 27 y_G_init "WireCodec" ∈ zN := zmemN 136 (by decide +kernel) rfl
theorem znest_W_34 : Cond.methodLinkNest R_W 34 y_F_init "WireCodec" ∈ zN := zmemN 171 (by decide +kernel) rfl
theorem znest_W_41 : Cond.methodLinkNest R_W 41 y_H_init "WireCodec" ∈ zN := zmemN 207 (by decide +kernel) rfl
theorem znest_W_48 : Cond.methodLinkNest R_W 48 y_D_init "WireCodec" ∈ zN := zmemN 218 (by decide +kernel) rfl
theorem znest_F_29 : Cond.fieldLinkNest R_F 29 "WireCodec" "SHAPES" "[I" "WireCodec" ∈ zN := zmemN 579 (by decide +kernel) rfl
theorem zin_M_48 : Cond.fieldLink R_M 48 "WireCodecModel" "thrown" "I" ∈ ztb := zmem 942 (by decide +kernel) (by decide +kernel)
theorem zin_M_51 : Cond.constantLong R_M 51 (4611686018427387903 : Int64) ∈ ztb := zmem 1048 (by decide +kernel) (by decide +kernel)
theorem zin_M_53 : Cond.methodLink R_M 53 y_M_within ∈ ztb := zmem 1030 (by decide +kernel) (by decide +kernel)
theorem zin_M_8 : Cond.fieldLink R_M 8 "WireCodecModel" "tape" "[B" ∈ ztb := zmem 943 (by decide +kernel) (by decide +kernel)
theorem zin_M_57 : Cond.fieldLink R_M 57 "WireCodecModel" "size" "I" ∈ ztb := zmem 944 (by decide +kernel) (by decide +kernel)
theorem zin_M_60 : Cond.constantLong R_M 60 (8 : Int64) ∈ ztb := zmem 1029 (by decide +kernel) (by decide +kernel)
theorem zin_M_62 : Cond.methodLink R_M 62 y_M_fails ∈ ztb := zmem 1033 (by decide +kernel) (by decide +kernel)
theorem zin_M_7 : Cond.constant R_M 7 (65536 : Int32) ∈ ztb := zmem 920 (by decide +kernel) (by decide +kernel)
theorem zin_M_66 : Cond.methodLink R_M 66 y_M_write ∈ ztb := zmem 1037 (by decide +kernel) (by decide +kernel)
theorem zin_M_70 : Cond.constantLong R_M 70 (64 : Int64) ∈ ztb := zmem 1052 (by decide +kernel) (by decide +kernel)
theorem zin_M_72 : Cond.constantLong R_M 72 (16384 : Int64) ∈ ztb := zmem 1053 (by decide +kernel) (by decide +kernel)
theorem zin_M_74 : Cond.constantLong R_M 74 (1073741824 : Int64) ∈ ztb := zmem 1054 (by decide +kernel) (by decide +kernel)
theorem zin_M_78 : Cond.constantLong R_M 78 (3 : Int64) ∈ ztb := zmem 939 (by decide +kernel) (by decide +kernel)
theorem zin_M_76 : Cond.constantLong R_M 76 (2 : Int64) ∈ ztb := zmem 941 (by decide +kernel) (by decide +kernel)
theorem zin_M_80 : Cond.methodLink R_M 80 y_M_isNumber ∈ ztb := zmem 1045 (by decide +kernel) (by decide +kernel)
theorem zin_M_88 : Cond.methodLink R_M 88 y_M_writeNumber ∈ ztb := zmem 1055 (by decide +kernel) (by decide +kernel)
theorem zin_M_84 : Cond.methodLink R_M 84 y_M_needs ∈ ztb := zmem 1049 (by decide +kernel) (by decide +kernel)
theorem zin_M_91 : Cond.fieldLink R_M 91 "WireCodecModel" "fault" "I" ∈ ztb := zmem 945 (by decide +kernel) (by decide +kernel)
theorem zin_M_14 : Cond.fieldLink R_M 14 "WireCodecModel" "faultAt" "I" ∈ ztb := zmem 946 (by decide +kernel) (by decide +kernel)
theorem zin_M_94 : Cond.fieldLink R_M 94 "WireCodecModel" "frames" "I" ∈ ztb := zmem 947 (by decide +kernel) (by decide +kernel)
theorem zin_M_97 : Cond.fieldLink R_M 97 "WireCodecModel" "packets" "I" ∈ ztb := zmem 965 (by decide +kernel) (by decide +kernel)
theorem zin_M_106 : Cond.methodLink R_M 106 y_M_byteAt ∈ ztb := zmem 1071 (by decide +kernel) (by decide +kernel)
theorem zin_M_110 : Cond.fieldLink R_M 110 "WireCodecModel" "at" "I" ∈ ztb := zmem 956 (by decide +kernel) (by decide +kernel)
theorem zin_M_113 : Cond.fieldLink R_M 113 "WireCodecModel" "end" "I" ∈ ztb := zmem 958 (by decide +kernel) (by decide +kernel)
theorem zin_M_116 : Cond.fieldLink R_M 116 "WireCodecModel" "over" "Z" ∈ ztb := zmem 957 (by decide +kernel) (by decide +kernel)
noncomputable def g_M_thrown (sM : zM) : Option (Int32) := some (zM_thrown sM)
def q_M_thrown (dC : Nat → ClassId) (dI : Nat → Nat → Nat) (cB cI cL : ClassId) (A : Nat → Prop) (adM : Nat) (adM_tape : Nat) (adM_frameAt : Nat) (adM_field : Nat) (adM_draft : Nat) (adM_given : Nat) (adM_low : Nat) (adM_high : Nat) (adM_packet : Nat) (adM_known : Nat) (sM : zM) (a : Int32) : Array Value → State → Outcome → State → Prop := va_Qi (fun (r : Int32) (u : Unit) => (r) = a) (fun u U => va_P (dC, dI) zcl (zwM adM adM_tape adM_frameAt adM_field adM_draft adM_given adM_low adM_high adM_packet adM_known cB cI cL sM) U.heap ∧ va_D A (zwM adM adM_tape adM_frameAt adM_field adM_draft adM_given adM_low adM_high adM_packet adM_known cB cI cL sM)) A
set_option maxRecDepth 100000 in
set_option maxHeartbeats 4000000 in
theorem k_M_thrown_0 {p : Program} {l : Launch} {e : Env} {R : Room} {s : State} {m : MethodId} {args : Array Value} {below : List Frame} {meth : Method} {c : Code} {dC : Nat → ClassId} {dI : Nat → Nat → Nat} {cB cI cL : ClassId} {A : Nat → Prop} (X : zx p s m args meth c R R_M b_M_thrown (some .int) 1 0 0) (hA : ∀ q, s.heap.size ≤ q → A q) (zz : zk dC dI cB cI cL A s)  (sM : zM) (a : Int32) (hG : g_M_thrown sM = some a) (adM adM_tape adM_frameAt adM_field adM_draft adM_given adM_low adM_high adM_packet adM_known : Nat) (H : Heap) (locs : List Loc) (hP : va_P (dC, dI) zcl (zwM adM adM_tape adM_frameAt adM_field adM_draft adM_given adM_low adM_high adM_packet adM_known cB cI cL sM) H) (hD : va_D A (zwM adM adM_tape adM_frameAt adM_field adM_draft adM_given adM_low adM_high adM_packet adM_known cB cI cL sM)) (hS : va_S A s.heap H locs) (ls : Array Slot) (hl : lv_has ls 1 [(0, .ref adM)]) : W p l e R s m args below meth c H locs 0 0 (MQ below (q_M_thrown dC dI cB cI cL A adM adM_tape adM_frameAt adM_field adM_draft adM_given adM_low adM_high adM_packet adM_known sM a) args s 0 0 A) (F0 m 0 ls []) := by
  obtain ⟨hx, hb, hr, hml, hown, hts, hlocks, hRf, hRl⟩ := id X
  unfold g_M_thrown at hG
  refine lv_aload_n hx hb d_M_thrown_0 rfl (lv_at hl 0 rfl) ?_
  refine va_get (D := (dC, dI)) (ci := 8) (v := .int (zM_thrown sM)) (C := R_M) (T := F_M) (N := 26) hx hb hts zi_M hown zz.1 hP 0 rfl rfl 0 (by decide) (hts (.fieldLink R_M 48 "WireCodecModel" "thrown" "I") zin_M_48) (fun _ h9 => h9) rfl d_M_thrown_1 ?_
  exact W.iret (v := zM_thrown sM) hx hb hr (fun t9 ht9 hW9 => ⟨⟨zM_thrown sM, (), rfl, Option.some.inj hG, by rw [ht9]; exact hP, hD⟩, hS.F ht9⟩) hS.2.2 d_M_thrown_4
set_option maxRecDepth 100000 in
set_option maxHeartbeats 4000000 in
theorem c_M_thrown (l : Launch) (dC : Nat → ClassId) (dI : Nat → Nat → Nat) (cB cI cL : ClassId) (sz : Nat) (adM adM_tape adM_frameAt adM_field adM_draft adM_given adM_low adM_high adM_packet adM_known : Nat) (sM : zM) (a : Int32) (hG : g_M_thrown sM = some a) : Met l y_M_thrown (zw y_M_thrown b_M_thrown 1 (some .int)) ({ frames := 0, cells := 0, slots := 0, locals := 0 }) (va_Pc [.ref adM] (zpre dC dI cB cI cL sz (zwM adM adM_tape adM_frameAt adM_field adM_draft adM_given adM_low adM_high adM_packet adM_known cB cI cL sM))) (q_M_thrown dC dI cB cI cL (va_A (zwM adM adM_tape adM_frameAt adM_field adM_draft adM_given adM_low adM_high adM_packet adM_known cB cI cL sM) sz) adM adM_tape adM_frameAt adM_field adM_draft adM_given adM_low adM_high adM_packet adM_known sM a) 0 0 (va_A (zwM adM adM_tape adM_frameAt adM_field adM_draft adM_given adM_low adM_high adM_packet adM_known cB cI cL sM) sz) := by
  refine Met.ofW (cc := b_M_thrown) (maxL := 1) (ret := (some .int)) (by decide) rfl ?_
  intro p e s m args below meth c s₁ B hml hv
  obtain ⟨rfl, hsz, hP, zz, hD0⟩ := hv
  subst hsz
  have X := zx_of (F := 0) (L := 0) B hml (Nat.le_refl _) (Nat.le_refl _)
  have hD := hD0.self (sz := s.heap.size)
  have hA : ∀ q : Nat, s.heap.size ≤ q → va_A (zwM adM adM_tape adM_frameAt adM_field adM_draft adM_given adM_low adM_high adM_packet adM_known cB cI cL sM) s.heap.size q := fun q h => Or.inr h
  have hl := lv_entry ([.ref adM]) (n := 1) (Nat.le_of_ble_eq_true rfl)
  rw [lg_entry_eq]
  generalize (lg_sl ([.ref adM]) ++ List.replicate (1 - (lg_sl ([.ref adM])).length) Slot.unset).toArray = ls at hl ⊢
  exact k_M_thrown_0 X hA zz sM a hG adM adM_tape adM_frameAt adM_field adM_draft adM_given adM_low adM_high adM_packet adM_known _ _ hP hD va_S.rf ls hl
noncomputable def g_M_fails_w10 (v1 : Int32) (sM_10 : zM) : Option (Int32 × zM) := zg (narrow .boolean (.int v1) = .int v1) (some (v1, sM_10))
noncomputable def g_M_fails_10 (sM : zM) (v1 : Int32) (s0 : Int32) : Option (Int32 × zM) := g_M_fails_w10 v1 (zM_thrown' sM s0)
noncomputable def g_M_fails (sM : zM) (v1 : Int32) (v2 : Int32) : Option (Int32 × zM) := if v1 = (0 : Int32) then (g_M_fails_10 sM v1 (0 : Int32)) else (g_M_fails_10 sM v1 v2)
def q_M_fails (dC : Nat → ClassId) (dI : Nat → Nat → Nat) (cB cI cL : ClassId) (A : Nat → Prop) (adM : Nat) (adM_tape : Nat) (adM_frameAt : Nat) (adM_field : Nat) (adM_draft : Nat) (adM_given : Nat) (adM_low : Nat) (adM_high : Nat) (adM_packet : Nat) (adM_known : Nat) (a : Int32 × zM) : Array Value → State → Outcome → State → Prop := va_Qi (fun (r : Int32) (u : zM) => (r, u) = a) (fun u U => va_P (dC, dI) zcl (zwM adM adM_tape adM_frameAt adM_field adM_draft adM_given adM_low adM_high adM_packet adM_known cB cI cL u) U.heap ∧ va_D A (zwM adM adM_tape adM_frameAt adM_field adM_draft adM_given adM_low adM_high adM_packet adM_known cB cI cL u)) A
set_option maxRecDepth 100000 in
set_option maxHeartbeats 4000000 in
theorem k_M_fails_10 {p : Program} {l : Launch} {e : Env} {R : Room} {s : State} {m : MethodId} {args : Array Value} {below : List Frame} {meth : Method} {c : Code} {dC : Nat → ClassId} {dI : Nat → Nat → Nat} {cB cI cL : ClassId} {A : Nat → Prop} (X : zx p s m args meth c R R_M b_M_fails (some .boolean) 3 0 0) (hA : ∀ q, s.heap.size ≤ q → A q) (zz : zk dC dI cB cI cL A s)  (sM : zM) (v1 : Int32) (s0 : Int32) (a : Int32 × zM) (hG : g_M_fails_10 sM v1 s0 = some a) (adM adM_tape adM_frameAt adM_field adM_draft adM_given adM_low adM_high adM_packet adM_known : Nat) (H : Heap) (locs : List Loc) (hP : va_P (dC, dI) zcl (zwM adM adM_tape adM_frameAt adM_field adM_draft adM_given adM_low adM_high adM_packet adM_known cB cI cL sM) H) (hD : va_D A (zwM adM adM_tape adM_frameAt adM_field adM_draft adM_given adM_low adM_high adM_packet adM_known cB cI cL sM)) (hS : va_S A s.heap H locs) (ls : Array Slot) (hl : lv_has ls 3 [(1, .int v1)]) : W p l e R s m args below meth c H locs 0 0 (MQ below (q_M_fails dC dI cB cI cL A adM adM_tape adM_frameAt adM_field adM_draft adM_given adM_low adM_high adM_packet adM_known a) args s 0 0 A) (F0 m 10 ls [.int s0, .ref adM]) := by
  obtain ⟨hx, hb, hr, hml, hown, hts, hlocks, hRf, hRl⟩ := id X
  unfold g_M_fails_10 at hG
  refine va_put (D := (dC, dI)) (ci := 8) (v := .int s0) (ty := .int) (C := R_M) (T := F_M) (N := 26) hx hb hts zi_M zty_M zty_M_ok znm_M hown zz.1 hP hD hS 0 rfl rfl 0 (by decide) (hts (.fieldLink R_M 48 "WireCodecModel" "thrown" "I") zin_M_48) (fun _ h9 => h9) rfl (by decide +kernel) rfl rfl (Nat.le_of_ble_eq_true rfl) d_M_fails_10 (fun H locs hP hD hS => ?_)
  have hP := zp_M_thrown hP
  have hD := zd_M_thrown hD
  have hG : g_M_fails_w10 v1 (zM_thrown' sM s0) = some a := hG
  generalize zM_thrown' sM s0 = sM_10 at hP hD hG
  unfold g_M_fails_w10 at hG
  refine lv_iload_n hx hb d_M_fails_13 rfl (lv_at hl 0 rfl) ?_
  obtain ⟨hnb, hG⟩ := zgd hG
  exact W.zret (v := v1) hx hb hr hnb (fun t9 ht9 hW9 => ⟨⟨v1, (sM_10), rfl, Option.some.inj hG, by rw [ht9]; exact hP, hD⟩, hS.F ht9⟩) hS.2.2 d_M_fails_14
set_option maxRecDepth 100000 in
set_option maxHeartbeats 4000000 in
theorem k_M_fails_0 {p : Program} {l : Launch} {e : Env} {R : Room} {s : State} {m : MethodId} {args : Array Value} {below : List Frame} {meth : Method} {c : Code} {dC : Nat → ClassId} {dI : Nat → Nat → Nat} {cB cI cL : ClassId} {A : Nat → Prop} (X : zx p s m args meth c R R_M b_M_fails (some .boolean) 3 0 0) (hA : ∀ q, s.heap.size ≤ q → A q) (zz : zk dC dI cB cI cL A s)  (sM : zM) (v1 : Int32) (v2 : Int32) (a : Int32 × zM) (hG : g_M_fails sM v1 v2 = some a) (adM adM_tape adM_frameAt adM_field adM_draft adM_given adM_low adM_high adM_packet adM_known : Nat) (H : Heap) (locs : List Loc) (hP : va_P (dC, dI) zcl (zwM adM adM_tape adM_frameAt adM_field adM_draft adM_given adM_low adM_high adM_packet adM_known cB cI cL sM) H) (hD : va_D A (zwM adM adM_tape adM_frameAt adM_field adM_draft adM_given adM_low adM_high adM_packet adM_known cB cI cL sM)) (hS : va_S A s.heap H locs) (ls : Array Slot) (hl : lv_has ls 3 [(0, .ref adM), (1, .int v1), (2, .int v2)]) : W p l e R s m args below meth c H locs 0 0 (MQ below (q_M_fails dC dI cB cI cL A adM adM_tape adM_frameAt adM_field adM_draft adM_given adM_low adM_high adM_packet adM_known a) args s 0 0 A) (F0 m 0 ls []) := by
  obtain ⟨hx, hb, hr, hml, hown, hts, hlocks, hRf, hRl⟩ := id X
  unfold g_M_fails at hG
  refine lv_aload_n hx hb d_M_fails_0 rfl (lv_at hl 0 rfl) ?_
  refine lv_iload_n hx hb d_M_fails_1 rfl (lv_at hl 1 rfl) ?_
  refine lv_if_eq (tgt := 9) hx hb d_M_fails_2 (by decide) (fun hc => ?_) (fun hc => ?_)
  · have hG := zt hG hc
    refine lv_iconst (v := (0 : Int32)) hx hb d_M_fails_9 (by decide) ?_
    exact k_M_fails_10 X hA zz sM v1 (0 : Int32) _ hG adM adM_tape adM_frameAt adM_field adM_draft adM_given adM_low adM_high adM_packet adM_known _ _ hP hD hS _ (lv_sub hl [1] rfl)
  · have hG := zf hG hc
    refine lv_iload_n hx hb d_M_fails_5 rfl (lv_at hl 2 rfl) ?_
    refine lv_goto (tgt := 10) hx hb d_M_fails_6 (by decide) ?_
    exact k_M_fails_10 X hA zz sM v1 v2 _ hG adM adM_tape adM_frameAt adM_field adM_draft adM_given adM_low adM_high adM_packet adM_known _ _ hP hD hS _ (lv_sub hl [1] rfl)
set_option maxRecDepth 100000 in
set_option maxHeartbeats 4000000 in
theorem c_M_fails (l : Launch) (dC : Nat → ClassId) (dI : Nat → Nat → Nat) (cB cI cL : ClassId) (sz : Nat) (adM adM_tape adM_frameAt adM_field adM_draft adM_given adM_low adM_high adM_packet adM_known : Nat) (sM : zM) (v1 : Int32) (v2 : Int32) (a : Int32 × zM) (hG : g_M_fails sM v1 v2 = some a) : Met l y_M_fails (zw y_M_fails b_M_fails 3 (some .boolean)) ({ frames := 0, cells := 0, slots := 0, locals := 0 }) (va_Pc [.ref adM, .int v1, .int v2] (zpre dC dI cB cI cL sz (zwM adM adM_tape adM_frameAt adM_field adM_draft adM_given adM_low adM_high adM_packet adM_known cB cI cL sM))) (q_M_fails dC dI cB cI cL (va_A (zwM adM adM_tape adM_frameAt adM_field adM_draft adM_given adM_low adM_high adM_packet adM_known cB cI cL sM) sz) adM adM_tape adM_frameAt adM_field adM_draft adM_given adM_low adM_high adM_packet adM_known a) 0 0 (va_A (zwM adM adM_tape adM_frameAt adM_field adM_draft adM_given adM_low adM_high adM_packet adM_known cB cI cL sM) sz) := by
  refine Met.ofW (cc := b_M_fails) (maxL := 3) (ret := (some .boolean)) (by decide) rfl ?_
  intro p e s m args below meth c s₁ B hml hv
  obtain ⟨rfl, hsz, hP, zz, hD0⟩ := hv
  subst hsz
  have X := zx_of (F := 0) (L := 0) B hml (Nat.le_refl _) (Nat.le_refl _)
  have hD := hD0.self (sz := s.heap.size)
  have hA : ∀ q : Nat, s.heap.size ≤ q → va_A (zwM adM adM_tape adM_frameAt adM_field adM_draft adM_given adM_low adM_high adM_packet adM_known cB cI cL sM) s.heap.size q := fun q h => Or.inr h
  have hl := lv_entry ([.ref adM, .int v1, .int v2]) (n := 3) (Nat.le_of_ble_eq_true rfl)
  rw [lg_entry_eq]
  generalize (lg_sl ([.ref adM, .int v1, .int v2]) ++ List.replicate (3 - (lg_sl ([.ref adM, .int v1, .int v2])).length) Slot.unset).toArray = ls at hl ⊢
  exact k_M_fails_0 X hA zz sM v1 v2 a hG adM adM_tape adM_frameAt adM_field adM_draft adM_given adM_low adM_high adM_packet adM_known _ _ hP hD va_S.rf ls hl
noncomputable def g_M_within_18 (s0 : Int32) : Option (Int32) := zg (narrow .boolean (.int s0) = .int s0) (some (s0))
noncomputable def g_M_within_17  : Option (Int32) := g_M_within_18 (0 : Int32)
noncomputable def g_M_within (v0 : Int64) (v2 : Int64) (v4 : Int64) : Option (Int32) := if (lg_cmp v0 v2) < (0 : Int32) then g_M_within_17 else (if (0 : Int32) < (lg_cmp v0 v4) then g_M_within_17 else (g_M_within_18 (1 : Int32)))
def q_M_within (dC : Nat → ClassId) (dI : Nat → Nat → Nat) (cB cI cL : ClassId) (A : Nat → Prop) (a : Int32) : Array Value → State → Outcome → State → Prop := va_Qi (fun (r : Int32) (u : Unit) => (r) = a) (fun u U => va_P (dC, dI) zcl ([] : va_W) U.heap ∧ va_D A ([] : va_W)) A
set_option maxRecDepth 100000 in
set_option maxHeartbeats 4000000 in
theorem k_M_within_18 {p : Program} {l : Launch} {e : Env} {R : Room} {s : State} {m : MethodId} {args : Array Value} {below : List Frame} {meth : Method} {c : Code} {dC : Nat → ClassId} {dI : Nat → Nat → Nat} {cB cI cL : ClassId} {A : Nat → Prop} (X : zx p s m args meth c R R_M b_M_within (some .boolean) 6 0 0) (hA : ∀ q, s.heap.size ≤ q → A q) (zz : zk dC dI cB cI cL A s)  (s0 : Int32) (a : Int32) (hG : g_M_within_18 s0 = some a) (H : Heap) (locs : List Loc) (hP : va_P (dC, dI) zcl ([] : va_W) H) (hD : va_D A ([] : va_W)) (hS : va_S A s.heap H locs) (ls : Array Slot) (hl : lv_has ls 6 []) : W p l e R s m args below meth c H locs 0 0 (MQ below (q_M_within dC dI cB cI cL A a) args s 0 0 A) (F0 m 18 ls [.int s0]) := by
  obtain ⟨hx, hb, hr, hml, hown, hts, hlocks, hRf, hRl⟩ := id X
  unfold g_M_within_18 at hG
  obtain ⟨hnb, hG⟩ := zgd hG
  exact W.zret (v := s0) hx hb hr hnb (fun t9 ht9 hW9 => ⟨⟨s0, (), rfl, Option.some.inj hG, by rw [ht9]; exact hP, hD⟩, hS.F ht9⟩) hS.2.2 d_M_within_18
set_option maxRecDepth 100000 in
set_option maxHeartbeats 4000000 in
theorem k_M_within_17 {p : Program} {l : Launch} {e : Env} {R : Room} {s : State} {m : MethodId} {args : Array Value} {below : List Frame} {meth : Method} {c : Code} {dC : Nat → ClassId} {dI : Nat → Nat → Nat} {cB cI cL : ClassId} {A : Nat → Prop} (X : zx p s m args meth c R R_M b_M_within (some .boolean) 6 0 0) (hA : ∀ q, s.heap.size ≤ q → A q) (zz : zk dC dI cB cI cL A s)  (a : Int32) (hG : g_M_within_17  = some a) (H : Heap) (locs : List Loc) (hP : va_P (dC, dI) zcl ([] : va_W) H) (hD : va_D A ([] : va_W)) (hS : va_S A s.heap H locs) (ls : Array Slot) (hl : lv_has ls 6 []) : W p l e R s m args below meth c H locs 0 0 (MQ below (q_M_within dC dI cB cI cL A a) args s 0 0 A) (F0 m 17 ls []) := by
  obtain ⟨hx, hb, hr, hml, hown, hts, hlocks, hRf, hRl⟩ := id X
  unfold g_M_within_17 at hG
  refine lv_iconst (v := (0 : Int32)) hx hb d_M_within_17 (by decide) ?_
  exact k_M_within_18 X hA zz (0 : Int32) _ hG _ _ hP hD hS _ (lv_sub hl [] rfl)
set_option maxRecDepth 100000 in
set_option maxHeartbeats 4000000 in
theorem k_M_within_0 {p : Program} {l : Launch} {e : Env} {R : Room} {s : State} {m : MethodId} {args : Array Value} {below : List Frame} {meth : Method} {c : Code} {dC : Nat → ClassId} {dI : Nat → Nat → Nat} {cB cI cL : ClassId} {A : Nat → Prop} (X : zx p s m args meth c R R_M b_M_within (some .boolean) 6 0 0) (hA : ∀ q, s.heap.size ≤ q → A q) (zz : zk dC dI cB cI cL A s)  (v0 : Int64) (v2 : Int64) (v4 : Int64) (a : Int32) (hG : g_M_within v0 v2 v4 = some a) (H : Heap) (locs : List Loc) (hP : va_P (dC, dI) zcl ([] : va_W) H) (hD : va_D A ([] : va_W)) (hS : va_S A s.heap H locs) (ls : Array Slot) (hl : lv_has ls 6 [(0, .long v0), (2, .long v2), (4, .long v4)]) : W p l e R s m args below meth c H locs 0 0 (MQ below (q_M_within dC dI cB cI cL A a) args s 0 0 A) (F0 m 0 ls []) := by
  obtain ⟨hx, hb, hr, hml, hown, hts, hlocks, hRf, hRl⟩ := id X
  unfold g_M_within at hG
  refine lv_lload_n hx hb d_M_within_0 rfl (lv_at hl 0 rfl) ?_
  refine lv_lload_n hx hb d_M_within_1 rfl (lv_at hl 1 rfl) ?_
  refine W.lcmp hx hb d_M_within_2 ?_
  refine lv_if_lt (tgt := 17) hx hb d_M_within_3 (by decide) (fun hc => ?_) (fun hc => ?_)
  · have hG := zt hG hc
    exact k_M_within_17 X hA zz _ hG _ _ hP hD hS _ (lv_sub hl [] rfl)
  · have hG := zf hG hc
    refine lv_lload_n hx hb d_M_within_6 rfl (lv_at hl 0 rfl) ?_
    refine lv_lload hx hb d_M_within_7 (lv_at hl 2 rfl) ?_
    refine W.lcmp hx hb d_M_within_9 ?_
    refine lv_if_gt (tgt := 17) hx hb d_M_within_10 (by decide) (fun hc => ?_) (fun hc => ?_)
    · have hG := zt hG hc
      exact k_M_within_17 X hA zz _ hG _ _ hP hD hS _ (lv_sub hl [] rfl)
    · have hG := zf hG hc
      refine lv_iconst (v := (1 : Int32)) hx hb d_M_within_13 (by decide) ?_
      refine lv_goto (tgt := 18) hx hb d_M_within_14 (by decide) ?_
      exact k_M_within_18 X hA zz (1 : Int32) _ hG _ _ hP hD hS _ (lv_sub hl [] rfl)
set_option maxRecDepth 100000 in
set_option maxHeartbeats 4000000 in
theorem c_M_within (l : Launch) (dC : Nat → ClassId) (dI : Nat → Nat → Nat) (cB cI cL : ClassId) (sz : Nat) (v0 : Int64) (v2 : Int64) (v4 : Int64) (a : Int32) (hG : g_M_within v0 v2 v4 = some a) : Met l y_M_within (zw y_M_within b_M_within 6 (some .boolean)) ({ frames := 0, cells := 0, slots := 0, locals := 0 }) (va_Pc [.long v0, .long v2, .long v4] (zpre dC dI cB cI cL sz ([] : va_W))) (q_M_within dC dI cB cI cL (va_A ([] : va_W) sz) a) 0 0 (va_A ([] : va_W) sz) := by
  refine Met.ofW (cc := b_M_within) (maxL := 6) (ret := (some .boolean)) (by decide) rfl ?_
  intro p e s m args below meth c s₁ B hml hv
  obtain ⟨rfl, hsz, hP, zz, hD0⟩ := hv
  subst hsz
  have X := zx_of (F := 0) (L := 0) B hml (Nat.le_refl _) (Nat.le_refl _)
  have hD := hD0.self (sz := s.heap.size)
  have hA : ∀ q : Nat, s.heap.size ≤ q → va_A ([] : va_W) s.heap.size q := fun q h => Or.inr h
  have hl := lv_entry ([.long v0, .long v2, .long v4]) (n := 6) (Nat.le_of_ble_eq_true rfl)
  rw [lg_entry_eq]
  generalize (lg_sl ([.long v0, .long v2, .long v4]) ++ List.replicate (6 - (lg_sl ([.long v0, .long v2, .long v4])).length) Slot.unset).toArray = ls at hl ⊢
  exact k_M_within_0 X hA zz v0 v2 v4 a hG _ _ hP hD va_S.rf ls hl
noncomputable def g_M_isNumber_c5 (r_5 : Int32) : Option (Int32) := zg (narrow .boolean (.int r_5) = .int r_5) (some (r_5))
noncomputable def g_M_isNumber (v0 : Int64) : Option (Int32) := (g_M_within v0 (0 : Int64) (4611686018427387903 : Int64)).bind (fun a => g_M_isNumber_c5 a)
def q_M_isNumber (dC : Nat → ClassId) (dI : Nat → Nat → Nat) (cB cI cL : ClassId) (A : Nat → Prop) (a : Int32) : Array Value → State → Outcome → State → Prop := va_Qi (fun (r : Int32) (u : Unit) => (r) = a) (fun u U => va_P (dC, dI) zcl ([] : va_W) U.heap ∧ va_D A ([] : va_W)) A
set_option maxRecDepth 100000 in
set_option maxHeartbeats 4000000 in
theorem k_M_isNumber_0 {p : Program} {l : Launch} {e : Env} {R : Room} {s : State} {m : MethodId} {args : Array Value} {below : List Frame} {meth : Method} {c : Code} {dC : Nat → ClassId} {dI : Nat → Nat → Nat} {cB cI cL : ClassId} {A : Nat → Prop} (X : zx p s m args meth c R R_M b_M_isNumber (some .boolean) 2 1 25) (hA : ∀ q, s.heap.size ≤ q → A q) (zz : zk dC dI cB cI cL A s)  (v0 : Int64) (a : Int32) (hG : g_M_isNumber v0 = some a) (H : Heap) (locs : List Loc) (hP : va_P (dC, dI) zcl ([] : va_W) H) (hD : va_D A ([] : va_W)) (hS : va_S A s.heap H locs) (ls : Array Slot) (hl : lv_has ls 2 [(0, .long v0)]) : W p l e R s m args below meth c H locs 0 0 (MQ below (q_M_isNumber dC dI cB cI cL A a) args s 0 0 A) (F0 m 0 ls []) := by
  obtain ⟨hx, hb, hr, hml, hown, hts, hlocks, hRf, hRl⟩ := id X
  unfold g_M_isNumber at hG
  refine lv_lload_n hx hb d_M_isNumber_0 rfl (lv_at hl 0 rfl) ?_
  refine lv_lconst (v := (0 : Int64)) hx hb d_M_isNumber_1 (by decide) ?_
  refine lv_ldc2 (v := (4611686018427387903 : Int64)) hx hb hown (hts (.constantLong R_M 51 (4611686018427387903 : Int64)) zin_M_51) d_M_isNumber_2 ?_
  obtain ⟨a_5, hx_5, hG⟩ := zb hG
  have hr_5 := zrunS (p := p) (e := e) (below := below) (meth := meth) (As := [.long v0, .long (0 : Int64), .long (4611686018427387903 : Int64)]) (rest := []) (st0 := [.long (4611686018427387903 : Int64), .long (0 : Int64), .long v0]) (cells := 0) (slots := 0) X zz hP hD hS hA [] (by decide) rfl (c_M_within l dC dI cB cI cL H.size v0 (0 : Int64) (4611686018427387903 : Int64) _ hx_5) zy_M_within zv_M_within (hts (.methodLink R_M 53 y_M_within) zin_M_53) hl rfl rfl d_M_isNumber_5 (lv_room (Nat.le_of_ble_eq_true rfl)) rfl rfl ⟨Nat.le_trans (Nat.le_of_ble_eq_true rfl) hRf, Nat.le_trans (Nat.le_of_ble_eq_true rfl) hRl⟩ ⟨Nat.zero_le _, Nat.zero_le _⟩
  refine zcalli (wr := ([] : va_W)) hr_5 hP hD hS hA [] [] rfl rfl (by decide) (by decide) (fun r_5 u_5 H locs hw_5 hP hD hS => ?_)
  subst hw_5
  have hP : va_P (dC, dI) zcl ([] : va_W) H := hP
  have hD : va_D A ([] : va_W) := hD
  have hG : g_M_isNumber_c5 r_5 = some a := hG
  unfold g_M_isNumber_c5 at hG
  obtain ⟨hnb, hG⟩ := zgd hG
  exact W.zret (v := r_5) hx hb hr hnb (fun t9 ht9 hW9 => ⟨⟨r_5, (), rfl, Option.some.inj hG, by rw [ht9]; exact hP, hD⟩, hS.F ht9⟩) hS.2.2 d_M_isNumber_8
set_option maxRecDepth 100000 in
set_option maxHeartbeats 4000000 in
theorem c_M_isNumber (l : Launch) (dC : Nat → ClassId) (dI : Nat → Nat → Nat) (cB cI cL : ClassId) (sz : Nat) (v0 : Int64) (a : Int32) (hG : g_M_isNumber v0 = some a) : Met l y_M_isNumber (zw y_M_isNumber b_M_isNumber 2 (some .boolean)) ({ frames := 1, cells := 0, slots := 0, locals := 25 }) (va_Pc [.long v0] (zpre dC dI cB cI cL sz ([] : va_W))) (q_M_isNumber dC dI cB cI cL (va_A ([] : va_W) sz) a) 0 0 (va_A ([] : va_W) sz) := by
  refine Met.ofW (cc := b_M_isNumber) (maxL := 2) (ret := (some .boolean)) (by decide) rfl ?_
  intro p e s m args below meth c s₁ B hml hv
  obtain ⟨rfl, hsz, hP, zz, hD0⟩ := hv
  subst hsz
  have X := zx_of (F := 1) (L := 25) B hml (Nat.le_refl _) (Nat.le_refl _)
  have hD := hD0.self (sz := s.heap.size)
  have hA : ∀ q : Nat, s.heap.size ≤ q → va_A ([] : va_W) s.heap.size q := fun q h => Or.inr h
  have hl := lv_entry ([.long v0]) (n := 2) (Nat.le_of_ble_eq_true rfl)
  rw [lg_entry_eq]
  generalize (lg_sl ([.long v0]) ++ List.replicate (2 - (lg_sl ([.long v0])).length) Slot.unset).toArray = ls at hl ⊢
  exact k_M_isNumber_0 X hA zz v0 a hG _ _ hP hD va_S.rf ls hl
noncomputable def g_M_byteAt (sM : zM) (v1 : Int32) : Option (Int32) := zg (vp_in v1 65536) (some (((zM_tape sM) v1.toNatClampNeg) &&& (255 : Int32)))
def q_M_byteAt (dC : Nat → ClassId) (dI : Nat → Nat → Nat) (cB cI cL : ClassId) (A : Nat → Prop) (adM : Nat) (adM_tape : Nat) (adM_frameAt : Nat) (adM_field : Nat) (adM_draft : Nat) (adM_given : Nat) (adM_low : Nat) (adM_high : Nat) (adM_packet : Nat) (adM_known : Nat) (sM : zM) (a : Int32) : Array Value → State → Outcome → State → Prop := va_Qi (fun (r : Int32) (u : Unit) => (r) = a) (fun u U => va_P (dC, dI) zcl (zwM adM adM_tape adM_frameAt adM_field adM_draft adM_given adM_low adM_high adM_packet adM_known cB cI cL sM) U.heap ∧ va_D A (zwM adM adM_tape adM_frameAt adM_field adM_draft adM_given adM_low adM_high adM_packet adM_known cB cI cL sM)) A
set_option maxRecDepth 100000 in
set_option maxHeartbeats 4000000 in
theorem k_M_byteAt_0 {p : Program} {l : Launch} {e : Env} {R : Room} {s : State} {m : MethodId} {args : Array Value} {below : List Frame} {meth : Method} {c : Code} {dC : Nat → ClassId} {dI : Nat → Nat → Nat} {cB cI cL : ClassId} {A : Nat → Prop} (X : zx p s m args meth c R R_M b_M_byteAt (some .int) 2 0 0) (hA : ∀ q, s.heap.size ≤ q → A q) (zz : zk dC dI cB cI cL A s)  (sM : zM) (v1 : Int32) (a : Int32) (hG : g_M_byteAt sM v1 = some a) (adM adM_tape adM_frameAt adM_field adM_draft adM_given adM_low adM_high adM_packet adM_known : Nat) (H : Heap) (locs : List Loc) (hP : va_P (dC, dI) zcl (zwM adM adM_tape adM_frameAt adM_field adM_draft adM_given adM_low adM_high adM_packet adM_known cB cI cL sM) H) (hD : va_D A (zwM adM adM_tape adM_frameAt adM_field adM_draft adM_given adM_low adM_high adM_packet adM_known cB cI cL sM)) (hS : va_S A s.heap H locs) (ls : Array Slot) (hl : lv_has ls 2 [(0, .ref adM), (1, .int v1)]) : W p l e R s m args below meth c H locs 0 0 (MQ below (q_M_byteAt dC dI cB cI cL A adM adM_tape adM_frameAt adM_field adM_draft adM_given adM_low adM_high adM_packet adM_known sM a) args s 0 0 A) (F0 m 0 ls []) := by
  obtain ⟨hx, hb, hr, hml, hown, hts, hlocks, hRf, hRl⟩ := id X
  unfold g_M_byteAt at hG
  refine lv_aload_n hx hb d_M_byteAt_0 rfl (lv_at hl 0 rfl) ?_
  refine va_get (D := (dC, dI)) (ci := 8) (v := .ref adM_tape) (C := R_M) (T := F_M) (N := 26) hx hb hts zi_M hown zz.1 hP 0 rfl rfl 1 (by decide) (hts (.fieldLink R_M 8 "WireCodecModel" "tape" "[B") zin_M_8) (fun _ h9 => h9) rfl d_M_byteAt_1 ?_
  refine lv_iload_n hx hb d_M_byteAt_4 rfl (lv_at hl 1 rfl) ?_
  obtain ⟨hin, hG⟩ := zgd hG
  refine va_bald hx hb zz.1 hP 1 0 rfl rfl hin d_M_byteAt_5 ?_
  refine lv_sipush (v := (255 : Int32)) hx hb d_M_byteAt_6 (by decide) ?_
  refine lv_iand hx hb d_M_byteAt_9 ?_
  exact W.iret (v := ((zM_tape sM) v1.toNatClampNeg) &&& (255 : Int32)) hx hb hr (fun t9 ht9 hW9 => ⟨⟨((zM_tape sM) v1.toNatClampNeg) &&& (255 : Int32), (), rfl, Option.some.inj hG, by rw [ht9]; exact hP, hD⟩, hS.F ht9⟩) hS.2.2 d_M_byteAt_10
set_option maxRecDepth 100000 in
set_option maxHeartbeats 4000000 in
theorem c_M_byteAt (l : Launch) (dC : Nat → ClassId) (dI : Nat → Nat → Nat) (cB cI cL : ClassId) (sz : Nat) (adM adM_tape adM_frameAt adM_field adM_draft adM_given adM_low adM_high adM_packet adM_known : Nat) (sM : zM) (v1 : Int32) (a : Int32) (hG : g_M_byteAt sM v1 = some a) : Met l y_M_byteAt (zw y_M_byteAt b_M_byteAt 2 (some .int)) ({ frames := 0, cells := 0, slots := 0, locals := 0 }) (va_Pc [.ref adM, .int v1] (zpre dC dI cB cI cL sz (zwM adM adM_tape adM_frameAt adM_field adM_draft adM_given adM_low adM_high adM_packet adM_known cB cI cL sM))) (q_M_byteAt dC dI cB cI cL (va_A (zwM adM adM_tape adM_frameAt adM_field adM_draft adM_given adM_low adM_high adM_packet adM_known cB cI cL sM) sz) adM adM_tape adM_frameAt adM_field adM_draft adM_given adM_low adM_high adM_packet adM_known sM a) 0 0 (va_A (zwM adM adM_tape adM_frameAt adM_field adM_draft adM_given adM_low adM_high adM_packet adM_known cB cI cL sM) sz) := by
  refine Met.ofW (cc := b_M_byteAt) (maxL := 2) (ret := (some .int)) (by decide) rfl ?_
  intro p e s m args below meth c s₁ B hml hv
  obtain ⟨rfl, hsz, hP, zz, hD0⟩ := hv
  subst hsz
  have X := zx_of (F := 0) (L := 0) B hml (Nat.le_refl _) (Nat.le_refl _)
  have hD := hD0.self (sz := s.heap.size)
  have hA : ∀ q : Nat, s.heap.size ≤ q → va_A (zwM adM adM_tape adM_frameAt adM_field adM_draft adM_given adM_low adM_high adM_packet adM_known cB cI cL sM) s.heap.size q := fun q h => Or.inr h
  have hl := lv_entry ([.ref adM, .int v1]) (n := 2) (Nat.le_of_ble_eq_true rfl)
  rw [lg_entry_eq]
  generalize (lg_sl ([.ref adM, .int v1]) ++ List.replicate (2 - (lg_sl ([.ref adM, .int v1])).length) Slot.unset).toArray = ls at hl ⊢
  exact k_M_byteAt_0 X hA zz sM v1 a hG adM adM_tape adM_frameAt adM_field adM_draft adM_given adM_low adM_high adM_packet adM_known _ _ hP hD va_S.rf ls hl
noncomputable def g_M_write_w35 (kr : zM → Int64 → Int32 → Option (zM)) (v1 : Int64) (v4 : Int32) (sM_35 : zM) : Option (zM) := kr sM_35 v1 (v4 + (-1))
noncomputable def g_M_write_w27 (kr : zM → Int64 → Int32 → Option (zM)) (v1 : Int64) (v4 : Int32) (sM_27 : zM) : Option (zM) := g_M_write_w35 kr v1 v4 (zM_size' sM_27 ((zM_size sM_27) + (1 : Int32)))
noncomputable def g_M_write_5_b (N : Nat) (kr : zM → Int64 → Int32 → Option (zM)) (sM : zM) (v1 : Int64) (v4 : Int32) : Option (zM) := if v4 < (0 : Int32) then (some (sM)) else (zg (vp_in (zM_size sM) 65536) (g_M_write_w27 kr v1 v4 (zM_tape' sM (upd (zM_tape sM) ((zM_size sM).toNatClampNeg) (vp_nar .byte (((v1 >>> (((8 : Int32) * v4).toInt64 &&& 63)).toInt32).toInt8.toInt32))))))
noncomputable def g_M_write_5 (N : Nat) : Nat → zM → Int64 → Int32 → Option (zM)
  | 0 => fun _ _ _ => none
  | k + 1 => fun sM v1 v4 => g_M_write_5_b N (g_M_write_5 N k) sM v1 v4
noncomputable def g_M_write (N : Nat) (sM : zM) (v1 : Int64) (v3 : Int32) : Option (zM) := g_M_write_5 N N sM v1 (v3 - (1 : Int32))
def q_M_write (dC : Nat → ClassId) (dI : Nat → Nat → Nat) (cB cI cL : ClassId) (A : Nat → Prop) (adM : Nat) (adM_tape : Nat) (adM_frameAt : Nat) (adM_field : Nat) (adM_draft : Nat) (adM_given : Nat) (adM_low : Nat) (adM_high : Nat) (adM_packet : Nat) (adM_known : Nat) (a : zM) : Array Value → State → Outcome → State → Prop := va_Qv (fun (u : zM) => (u) = a) (fun u U => va_P (dC, dI) zcl (zwM adM adM_tape adM_frameAt adM_field adM_draft adM_given adM_low adM_high adM_packet adM_known cB cI cL u) U.heap ∧ va_D A (zwM adM adM_tape adM_frameAt adM_field adM_draft adM_given adM_low adM_high adM_packet adM_known cB cI cL u)) A
set_option maxRecDepth 100000 in
set_option maxHeartbeats 4000000 in
theorem k_M_write_5_b {p : Program} {l : Launch} {e : Env} {R : Room} {s : State} {m : MethodId} {args : Array Value} {below : List Frame} {meth : Method} {c : Code} {dC : Nat → ClassId} {dI : Nat → Nat → Nat} {cB cI cL : ClassId} {A : Nat → Prop} (kr : zM → Int64 → Int32 → Option (zM)) (hrec : ∀ (sM : zM) (v1 : Int64) (v4 : Int32) (a : zM), kr sM v1 v4 = some a → ∀ (adM adM_tape adM_frameAt adM_field adM_draft adM_given adM_low adM_high adM_packet adM_known : Nat) (H : Heap) (locs : List Loc), va_P (dC, dI) zcl (zwM adM adM_tape adM_frameAt adM_field adM_draft adM_given adM_low adM_high adM_packet adM_known cB cI cL sM) H → va_D A (zwM adM adM_tape adM_frameAt adM_field adM_draft adM_given adM_low adM_high adM_packet adM_known cB cI cL sM) → va_S A s.heap H locs → ∀ ls : Array Slot, lv_has ls 5 [(0, .ref adM), (1, .long v1), (4, .int v4)] → W p l e R s m args below meth c H locs 0 0 (MQ below (q_M_write dC dI cB cI cL A adM adM_tape adM_frameAt adM_field adM_draft adM_given adM_low adM_high adM_packet adM_known a) args s 0 0 A) (F0 m 5 ls [])) (X : zx p s m args meth c R R_M b_M_write none 5 0 0) (hA : ∀ q, s.heap.size ≤ q → A q) (zz : zk dC dI cB cI cL A s)  (N : Nat) (sM : zM) (v1 : Int64) (v4 : Int32) (a : zM) (hG : g_M_write_5_b N kr sM v1 v4 = some a) (adM adM_tape adM_frameAt adM_field adM_draft adM_given adM_low adM_high adM_packet adM_known : Nat) (H : Heap) (locs : List Loc) (hP : va_P (dC, dI) zcl (zwM adM adM_tape adM_frameAt adM_field adM_draft adM_given adM_low adM_high adM_packet adM_known cB cI cL sM) H) (hD : va_D A (zwM adM adM_tape adM_frameAt adM_field adM_draft adM_given adM_low adM_high adM_packet adM_known cB cI cL sM)) (hS : va_S A s.heap H locs) (ls : Array Slot) (hl : lv_has ls 5 [(0, .ref adM), (1, .long v1), (4, .int v4)]) : W p l e R s m args below meth c H locs 0 0 (MQ below (q_M_write dC dI cB cI cL A adM adM_tape adM_frameAt adM_field adM_draft adM_given adM_low adM_high adM_packet adM_known a) args s 0 0 A) (F0 m 5 ls []) := by
  obtain ⟨hx, hb, hr, hml, hown, hts, hlocks, hRf, hRl⟩ := id X
  unfold g_M_write_5_b at hG
  refine lv_iload hx hb d_M_write_5 (lv_at hl 2 rfl) ?_
  refine lv_if_lt (tgt := 44) hx hb d_M_write_7 (by decide) (fun hc => ?_) (fun hc => ?_)
  · have hG := zt hG hc
    exact W.vret hx hb hr (fun t9 ht9 hW9 => ⟨⟨(sM), rfl, Option.some.inj hG, by rw [ht9]; exact hP, hD⟩, hS.F ht9⟩) hS.2.2 d_M_write_44
  · have hG := zf hG hc
    refine lv_aload_n hx hb d_M_write_10 rfl (lv_at hl 0 rfl) ?_
    refine va_get (D := (dC, dI)) (ci := 8) (v := .ref adM_tape) (C := R_M) (T := F_M) (N := 26) hx hb hts zi_M hown zz.1 hP 0 rfl rfl 1 (by decide) (hts (.fieldLink R_M 8 "WireCodecModel" "tape" "[B") zin_M_8) (fun _ h9 => h9) rfl d_M_write_11 ?_
    refine lv_aload_n hx hb d_M_write_14 rfl (lv_at hl 0 rfl) ?_
    refine va_get (D := (dC, dI)) (ci := 8) (v := .int (zM_size sM)) (C := R_M) (T := F_M) (N := 26) hx hb hts zi_M hown zz.1 hP 0 rfl rfl 2 (by decide) (hts (.fieldLink R_M 57 "WireCodecModel" "size" "I") zin_M_57) (fun _ h9 => h9) rfl d_M_write_15 ?_
    refine lv_lload_n hx hb d_M_write_18 rfl (lv_at hl 1 rfl) ?_
    refine lv_bipush (v := (8 : Int32)) hx hb d_M_write_19 (by decide) ?_
    refine lv_iload hx hb d_M_write_21 (lv_at hl 2 rfl) ?_
    refine lv_imul hx hb d_M_write_23 ?_
    refine lv_lshr hx hb d_M_write_24 rfl ?_
    refine lv_l2i hx hb d_M_write_25 rfl ?_
    refine lv_i2b hx hb d_M_write_26 rfl ?_
    obtain ⟨hin, hG⟩ := zgd hG
    refine va_bast hx hb zz.1 hP hD hS 1 0 rfl rfl hin d_M_write_27 (fun H locs hP hD hS => ?_)
    have hP := zp_M_tape hP
    have hD := zd_M_tape hD
    have hG : g_M_write_w27 kr v1 v4 (zM_tape' sM (upd (zM_tape sM) ((zM_size sM).toNatClampNeg) (vp_nar .byte (((v1 >>> (((8 : Int32) * v4).toInt64 &&& 63)).toInt32).toInt8.toInt32)))) = some a := hG
    generalize zM_tape' sM (upd (zM_tape sM) ((zM_size sM).toNatClampNeg) (vp_nar .byte (((v1 >>> (((8 : Int32) * v4).toInt64 &&& 63)).toInt32).toInt8.toInt32))) = sM_27 at hP hD hG
    unfold g_M_write_w27 at hG
    refine lv_aload_n hx hb d_M_write_28 rfl (lv_at hl 0 rfl) ?_
    refine lv_dup hx hb d_M_write_29 rfl ?_
    refine va_get (D := (dC, dI)) (ci := 8) (v := .int (zM_size sM_27)) (C := R_M) (T := F_M) (N := 26) hx hb hts zi_M hown zz.1 hP 0 rfl rfl 2 (by decide) (hts (.fieldLink R_M 57 "WireCodecModel" "size" "I") zin_M_57) (fun _ h9 => h9) rfl d_M_write_30 ?_
    refine lv_iconst (v := (1 : Int32)) hx hb d_M_write_33 (by decide) ?_
    refine lv_iadd hx hb d_M_write_34 ?_
    refine va_put (D := (dC, dI)) (ci := 8) (v := .int ((zM_size sM_27) + (1 : Int32))) (ty := .int) (C := R_M) (T := F_M) (N := 26) hx hb hts zi_M zty_M zty_M_ok znm_M hown zz.1 hP hD hS 0 rfl rfl 2 (by decide) (hts (.fieldLink R_M 57 "WireCodecModel" "size" "I") zin_M_57) (fun _ h9 => h9) rfl (by decide +kernel) rfl rfl (Nat.le_of_ble_eq_true rfl) d_M_write_35 (fun H locs hP hD hS => ?_)
    have hP := zp_M_size hP
    have hD := zd_M_size hD
    have hG : g_M_write_w35 kr v1 v4 (zM_size' sM_27 ((zM_size sM_27) + (1 : Int32))) = some a := hG
    generalize zM_size' sM_27 ((zM_size sM_27) + (1 : Int32)) = sM_35 at hP hD hG
    unfold g_M_write_w35 at hG
    refine lv_iinc (v := v4 + (-1)) (lv' := [(4, .int (v4 + (-1))), (0, .ref adM), (1, .long v1)]) hx hb d_M_write_38 hl (k := 2) rfl rfl (by decide) rfl (fun ls hl => ?_)
    refine lv_goto (tgt := 5) hx hb d_M_write_41 (by decide) ?_
    exact hrec sM_35 v1 (v4 + (-1)) _ hG adM adM_tape adM_frameAt adM_field adM_draft adM_given adM_low adM_high adM_packet adM_known _ _ hP hD hS _ (lv_sub hl [1, 2, 0] rfl)
theorem k_M_write_5 {p : Program} {l : Launch} {e : Env} {R : Room} {s : State} {m : MethodId} {args : Array Value} {below : List Frame} {meth : Method} {c : Code} {dC : Nat → ClassId} {dI : Nat → Nat → Nat} {cB cI cL : ClassId} {A : Nat → Prop} (X : zx p s m args meth c R R_M b_M_write none 5 0 0) (hA : ∀ q, s.heap.size ≤ q → A q) (zz : zk dC dI cB cI cL A s)  (N : Nat) : ∀ (k : Nat) (sM : zM) (v1 : Int64) (v4 : Int32) (a : zM) (hG : g_M_write_5 N k sM v1 v4 = some a) (adM adM_tape adM_frameAt adM_field adM_draft adM_given adM_low adM_high adM_packet adM_known : Nat) (H : Heap) (locs : List Loc) (hP : va_P (dC, dI) zcl (zwM adM adM_tape adM_frameAt adM_field adM_draft adM_given adM_low adM_high adM_packet adM_known cB cI cL sM) H) (hD : va_D A (zwM adM adM_tape adM_frameAt adM_field adM_draft adM_given adM_low adM_high adM_packet adM_known cB cI cL sM)) (hS : va_S A s.heap H locs) (ls : Array Slot) (hl : lv_has ls 5 [(0, .ref adM), (1, .long v1), (4, .int v4)]), W p l e R s m args below meth c H locs 0 0 (MQ below (q_M_write dC dI cB cI cL A adM adM_tape adM_frameAt adM_field adM_draft adM_given adM_low adM_high adM_packet adM_known a) args s 0 0 A) (F0 m 5 ls []) := by
  intro k
  induction k with
  | zero => intro sM v1 v4 a hG; exact absurd hG (by unfold g_M_write_5; simp)
  | succ k ih => intro sM v1 v4 a hG adM adM_tape adM_frameAt adM_field adM_draft adM_given adM_low adM_high adM_packet adM_known H locs hP hD hS ls hl; exact k_M_write_5_b _ ih X hA zz N sM v1 v4 a hG adM adM_tape adM_frameAt adM_field adM_draft adM_given adM_low adM_high adM_packet adM_known H locs hP hD hS ls hl
set_option maxRecDepth 100000 in
set_option maxHeartbeats 4000000 in
theorem k_M_write_0 {p : Program} {l : Launch} {e : Env} {R : Room} {s : State} {m : MethodId} {args : Array Value} {below : List Frame} {meth : Method} {c : Code} {dC : Nat → ClassId} {dI : Nat → Nat → Nat} {cB cI cL : ClassId} {A : Nat → Prop} (X : zx p s m args meth c R R_M b_M_write none 5 0 0) (hA : ∀ q, s.heap.size ≤ q → A q) (zz : zk dC dI cB cI cL A s)  (N : Nat) (sM : zM) (v1 : Int64) (v3 : Int32) (a : zM) (hG : g_M_write N sM v1 v3 = some a) (adM adM_tape adM_frameAt adM_field adM_draft adM_given adM_low adM_high adM_packet adM_known : Nat) (H : Heap) (locs : List Loc) (hP : va_P (dC, dI) zcl (zwM adM adM_tape adM_frameAt adM_field adM_draft adM_given adM_low adM_high adM_packet adM_known cB cI cL sM) H) (hD : va_D A (zwM adM adM_tape adM_frameAt adM_field adM_draft adM_given adM_low adM_high adM_packet adM_known cB cI cL sM)) (hS : va_S A s.heap H locs) (ls : Array Slot) (hl : lv_has ls 5 [(0, .ref adM), (1, .long v1), (3, .int v3)]) : W p l e R s m args below meth c H locs 0 0 (MQ below (q_M_write dC dI cB cI cL A adM adM_tape adM_frameAt adM_field adM_draft adM_given adM_low adM_high adM_packet adM_known a) args s 0 0 A) (F0 m 0 ls []) := by
  obtain ⟨hx, hb, hr, hml, hown, hts, hlocks, hRf, hRl⟩ := id X
  unfold g_M_write at hG
  refine lv_iload_n hx hb d_M_write_0 rfl (lv_at hl 2 rfl) ?_
  refine lv_iconst (v := (1 : Int32)) hx hb d_M_write_1 (by decide) ?_
  refine lv_isub hx hb d_M_write_2 ?_
  refine lv_istore (lv' := [(4, .int (v3 - (1 : Int32))), (0, .ref adM), (1, .long v1), (3, .int v3)]) hx hb d_M_write_3 hl (by decide) rfl (fun ls hl => ?_)
  exact k_M_write_5 X hA zz N N sM v1 (v3 - (1 : Int32)) _ hG adM adM_tape adM_frameAt adM_field adM_draft adM_given adM_low adM_high adM_packet adM_known _ _ hP hD hS _ (lv_sub hl [1, 2, 0] rfl)
set_option maxRecDepth 100000 in
set_option maxHeartbeats 4000000 in
theorem c_M_write (l : Launch) (dC : Nat → ClassId) (dI : Nat → Nat → Nat) (cB cI cL : ClassId) (sz : Nat) (adM adM_tape adM_frameAt adM_field adM_draft adM_given adM_low adM_high adM_packet adM_known : Nat) (N : Nat) (sM : zM) (v1 : Int64) (v3 : Int32) (a : zM) (hG : g_M_write N sM v1 v3 = some a) : Met l y_M_write (zw y_M_write b_M_write 5 none) ({ frames := 0, cells := 0, slots := 0, locals := 0 }) (va_Pc [.ref adM, .long v1, .int v3] (zpre dC dI cB cI cL sz (zwM adM adM_tape adM_frameAt adM_field adM_draft adM_given adM_low adM_high adM_packet adM_known cB cI cL sM))) (q_M_write dC dI cB cI cL (va_A (zwM adM adM_tape adM_frameAt adM_field adM_draft adM_given adM_low adM_high adM_packet adM_known cB cI cL sM) sz) adM adM_tape adM_frameAt adM_field adM_draft adM_given adM_low adM_high adM_packet adM_known a) 0 0 (va_A (zwM adM adM_tape adM_frameAt adM_field adM_draft adM_given adM_low adM_high adM_packet adM_known cB cI cL sM) sz) := by
  refine Met.ofW (cc := b_M_write) (maxL := 5) (ret := none) (by decide) rfl ?_
  intro p e s m args below meth c s₁ B hml hv
  obtain ⟨rfl, hsz, hP, zz, hD0⟩ := hv
  subst hsz
  have X := zx_of (F := 0) (L := 0) B hml (Nat.le_refl _) (Nat.le_refl _)
  have hD := hD0.self (sz := s.heap.size)
  have hA : ∀ q : Nat, s.heap.size ≤ q → va_A (zwM adM adM_tape adM_frameAt adM_field adM_draft adM_given adM_low adM_high adM_packet adM_known cB cI cL sM) s.heap.size q := fun q h => Or.inr h
  have hl := lv_entry ([.ref adM, .long v1, .int v3]) (n := 5) (Nat.le_of_ble_eq_true rfl)
  rw [lg_entry_eq]
  generalize (lg_sl ([.ref adM, .long v1, .int v3]) ++ List.replicate (5 - (lg_sl ([.ref adM, .long v1, .int v3])).length) Slot.unset).toArray = ls at hl ⊢
  exact k_M_write_0 X hA zz N sM v1 v3 a hG adM adM_tape adM_frameAt adM_field adM_draft adM_given adM_low adM_high adM_packet adM_known _ _ hP hD va_S.rf ls hl
noncomputable def g_M_feed_49 (N : Nat) (sM : zM) : Option (Int32 × zM) := some ((0 : Int32), sM)
noncomputable def g_M_feed_c54 (sM_54 : zM) : Option (Int32 × zM) := some (zM_size sM_54, sM_54)
noncomputable def g_M_feed_c43 (N : Nat) (v1 : Int64) (v3 : Int32) (sM_43 : zM) (r_43 : Int32) : Option (Int32 × zM) := if r_43 = (0 : Int32) then ((g_M_write N sM_43 v1 v3).bind (fun a => g_M_feed_c54 a)) else (g_M_feed_49 N sM_43)
noncomputable def g_M_feed_42 (N : Nat) (sM : zM) (v1 : Int64) (v3 : Int32) (s0 : Int32) : Option (Int32 × zM) := (g_M_fails sM s0 (2 : Int32)).bind (fun a => g_M_feed_c43 N v1 v3 a.2 a.1)
noncomputable def g_M_feed_c19 (N : Nat) (v1 : Int64) (v3 : Int32) (sM_19 : zM) (r_19 : Int32) : Option (Int32 × zM) := if r_19 = (0 : Int32) then (if ((zM_size sM_19) + v3) ≤ (65536 : Int32) then (g_M_feed_42 N sM_19 v1 v3 (0 : Int32)) else (g_M_feed_42 N sM_19 v1 v3 (1 : Int32))) else (g_M_feed_49 N sM_19)
noncomputable def g_M_feed_18 (N : Nat) (sM : zM) (v1 : Int64) (v3 : Int32) (s0 : Int32) : Option (Int32 × zM) := (g_M_fails sM s0 (1 : Int32)).bind (fun a => g_M_feed_c19 N v1 v3 a.2 a.1)
noncomputable def g_M_feed_c7 (N : Nat) (sM : zM) (v1 : Int64) (v3 : Int32) (r_7 : Int32) : Option (Int32 × zM) := if r_7 = (0 : Int32) then (g_M_feed_18 N sM v1 v3 (1 : Int32)) else (g_M_feed_18 N sM v1 v3 (0 : Int32))
noncomputable def g_M_feed (N : Nat) (sM : zM) (v1 : Int64) (v3 : Int32) : Option (Int32 × zM) := (g_M_within v3.toInt64 (1 : Int64) (8 : Int64)).bind (fun a => g_M_feed_c7 N sM v1 v3 a)
def q_M_feed (dC : Nat → ClassId) (dI : Nat → Nat → Nat) (cB cI cL : ClassId) (A : Nat → Prop) (adM : Nat) (adM_tape : Nat) (adM_frameAt : Nat) (adM_field : Nat) (adM_draft : Nat) (adM_given : Nat) (adM_low : Nat) (adM_high : Nat) (adM_packet : Nat) (adM_known : Nat) (a : Int32 × zM) : Array Value → State → Outcome → State → Prop := va_Qi (fun (r : Int32) (u : zM) => (r, u) = a) (fun u U => va_P (dC, dI) zcl (zwM adM adM_tape adM_frameAt adM_field adM_draft adM_given adM_low adM_high adM_packet adM_known cB cI cL u) U.heap ∧ va_D A (zwM adM adM_tape adM_frameAt adM_field adM_draft adM_given adM_low adM_high adM_packet adM_known cB cI cL u)) A
set_option maxRecDepth 100000 in
set_option maxHeartbeats 4000000 in
theorem k_M_feed_49 {p : Program} {l : Launch} {e : Env} {R : Room} {s : State} {m : MethodId} {args : Array Value} {below : List Frame} {meth : Method} {c : Code} {dC : Nat → ClassId} {dI : Nat → Nat → Nat} {cB cI cL : ClassId} {A : Nat → Prop} (X : zx p s m args meth c R R_M b_M_feed (some .int) 4 1 25) (hA : ∀ q, s.heap.size ≤ q → A q) (zz : zk dC dI cB cI cL A s)  (N : Nat) (sM : zM) (a : Int32 × zM) (hG : g_M_feed_49 N sM = some a) (adM adM_tape adM_frameAt adM_field adM_draft adM_given adM_low adM_high adM_packet adM_known : Nat) (H : Heap) (locs : List Loc) (hP : va_P (dC, dI) zcl (zwM adM adM_tape adM_frameAt adM_field adM_draft adM_given adM_low adM_high adM_packet adM_known cB cI cL sM) H) (hD : va_D A (zwM adM adM_tape adM_frameAt adM_field adM_draft adM_given adM_low adM_high adM_packet adM_known cB cI cL sM)) (hS : va_S A s.heap H locs) (ls : Array Slot) (hl : lv_has ls 4 []) : W p l e R s m args below meth c H locs 0 0 (MQ below (q_M_feed dC dI cB cI cL A adM adM_tape adM_frameAt adM_field adM_draft adM_given adM_low adM_high adM_packet adM_known a) args s 0 0 A) (F0 m 49 ls []) := by
  obtain ⟨hx, hb, hr, hml, hown, hts, hlocks, hRf, hRl⟩ := id X
  unfold g_M_feed_49 at hG
  refine lv_iconst (v := (0 : Int32)) hx hb d_M_feed_49 (by decide) ?_
  exact W.iret (v := (0 : Int32)) hx hb hr (fun t9 ht9 hW9 => ⟨⟨(0 : Int32), (sM), rfl, Option.some.inj hG, by rw [ht9]; exact hP, hD⟩, hS.F ht9⟩) hS.2.2 d_M_feed_50
set_option maxRecDepth 100000 in
set_option maxHeartbeats 4000000 in
theorem k_M_feed_42 {p : Program} {l : Launch} {e : Env} {R : Room} {s : State} {m : MethodId} {args : Array Value} {below : List Frame} {meth : Method} {c : Code} {dC : Nat → ClassId} {dI : Nat → Nat → Nat} {cB cI cL : ClassId} {A : Nat → Prop} (X : zx p s m args meth c R R_M b_M_feed (some .int) 4 1 25) (hA : ∀ q, s.heap.size ≤ q → A q) (zz : zk dC dI cB cI cL A s)  (N : Nat) (sM : zM) (v1 : Int64) (v3 : Int32) (s0 : Int32) (a : Int32 × zM) (hG : g_M_feed_42 N sM v1 v3 s0 = some a) (adM adM_tape adM_frameAt adM_field adM_draft adM_given adM_low adM_high adM_packet adM_known : Nat) (H : Heap) (locs : List Loc) (hP : va_P (dC, dI) zcl (zwM adM adM_tape adM_frameAt adM_field adM_draft adM_given adM_low adM_high adM_packet adM_known cB cI cL sM) H) (hD : va_D A (zwM adM adM_tape adM_frameAt adM_field adM_draft adM_given adM_low adM_high adM_packet adM_known cB cI cL sM)) (hS : va_S A s.heap H locs) (ls : Array Slot) (hl : lv_has ls 4 [(0, .ref adM), (1, .long v1), (3, .int v3)]) : W p l e R s m args below meth c H locs 0 0 (MQ below (q_M_feed dC dI cB cI cL A adM adM_tape adM_frameAt adM_field adM_draft adM_given adM_low adM_high adM_packet adM_known a) args s 0 0 A) (F0 m 42 ls [.int s0, .ref adM]) := by
  obtain ⟨hx, hb, hr, hml, hown, hts, hlocks, hRf, hRl⟩ := id X
  unfold g_M_feed_42 at hG
  refine lv_iconst (v := (2 : Int32)) hx hb d_M_feed_42 (by decide) ?_
  obtain ⟨a_43, hx_43, hG⟩ := zb hG
  have hr_43 := zrunV (p := p) (e := e) (below := below) (meth := meth) (As := [.int s0, .int (2 : Int32)]) (rest := []) (st0 := [.int (2 : Int32), .int s0, .ref adM]) (cells := 0) (slots := 0) X zz hP hD hS hA [0, 1, 2, 3, 4, 5, 6, 7, 8, 9] (by decide) rfl (c_M_fails l dC dI cB cI cL H.size adM adM_tape adM_frameAt adM_field adM_draft adM_given adM_low adM_high adM_packet adM_known sM s0 (2 : Int32) _ hx_43) zy_M_fails zv_M_fails (hts (.methodLink R_M 62 y_M_fails) zin_M_62) hl rfl rfl d_M_feed_43 (lv_room (Nat.le_of_ble_eq_true rfl)) rfl rfl ⟨Nat.le_trans (Nat.le_of_ble_eq_true rfl) hRf, Nat.le_trans (Nat.le_of_ble_eq_true rfl) hRl⟩ ⟨Nat.zero_le _, Nat.zero_le _⟩ 0 8 rfl rfl
  refine zcalli (wr := ([] : va_W)) hr_43 hP hD hS hA [0, 1, 2, 3, 4, 5, 6, 7, 8, 9] [] rfl rfl (by decide) (by decide) (fun r_43 u_43 H locs hw_43 hP hD hS => ?_)
  obtain ⟨sM_43, rfl⟩ : ∃ z, z = u_43 := ⟨_, rfl⟩
  subst hw_43
  have hP : va_P (dC, dI) zcl (zwM adM adM_tape adM_frameAt adM_field adM_draft adM_given adM_low adM_high adM_packet adM_known cB cI cL sM_43) H := hP
  have hD : va_D A (zwM adM adM_tape adM_frameAt adM_field adM_draft adM_given adM_low adM_high adM_packet adM_known cB cI cL sM_43) := hD
  have hG : g_M_feed_c43 N v1 v3 sM_43 r_43 = some a := hG
  unfold g_M_feed_c43 at hG
  refine lv_if_eq (tgt := 51) hx hb d_M_feed_46 (by decide) (fun hc => ?_) (fun hc => ?_)
  · have hG := zt hG hc
    refine lv_aload_n hx hb d_M_feed_51 rfl (lv_at hl 0 rfl) ?_
    refine lv_lload_n hx hb d_M_feed_52 rfl (lv_at hl 1 rfl) ?_
    refine lv_iload_n hx hb d_M_feed_53 rfl (lv_at hl 2 rfl) ?_
    obtain ⟨a_54, hx_54, hG⟩ := zb hG
    have hr_54 := zrunV (p := p) (e := e) (below := below) (meth := meth) (As := [.long v1, .int v3]) (rest := []) (st0 := [.int v3, .long v1, .ref adM]) (cells := 0) (slots := 0) X zz hP hD hS hA [0, 1, 2, 3, 4, 5, 6, 7, 8, 9] (by decide) rfl (c_M_write l dC dI cB cI cL H.size adM adM_tape adM_frameAt adM_field adM_draft adM_given adM_low adM_high adM_packet adM_known N sM_43 v1 v3 _ hx_54) zy_M_write zv_M_write (hts (.methodLink R_M 66 y_M_write) zin_M_66) hl rfl rfl d_M_feed_54 (lv_room (Nat.le_of_ble_eq_true rfl)) rfl rfl ⟨Nat.le_trans (Nat.le_of_ble_eq_true rfl) hRf, Nat.le_trans (Nat.le_of_ble_eq_true rfl) hRl⟩ ⟨Nat.zero_le _, Nat.zero_le _⟩ 0 8 rfl rfl
    refine zcallv (wr := ([] : va_W)) hr_54 hP hD hS hA [0, 1, 2, 3, 4, 5, 6, 7, 8, 9] [] rfl rfl (by decide) (by decide) (fun u_54 H locs hw_54 hP hD hS => ?_)
    obtain ⟨sM_54, rfl⟩ : ∃ z, z = u_54 := ⟨_, rfl⟩
    subst hw_54
    have hP : va_P (dC, dI) zcl (zwM adM adM_tape adM_frameAt adM_field adM_draft adM_given adM_low adM_high adM_packet adM_known cB cI cL sM_54) H := hP
    have hD : va_D A (zwM adM adM_tape adM_frameAt adM_field adM_draft adM_given adM_low adM_high adM_packet adM_known cB cI cL sM_54) := hD
    have hG : g_M_feed_c54 sM_54 = some a := hG
    unfold g_M_feed_c54 at hG
    refine lv_aload_n hx hb d_M_feed_57 rfl (lv_at hl 0 rfl) ?_
    refine va_get (D := (dC, dI)) (ci := 8) (v := .int (zM_size sM_54)) (C := R_M) (T := F_M) (N := 26) hx hb hts zi_M hown zz.1 hP 0 rfl rfl 2 (by decide) (hts (.fieldLink R_M 57 "WireCodecModel" "size" "I") zin_M_57) (fun _ h9 => h9) rfl d_M_feed_58 ?_
    exact W.iret (v := zM_size sM_54) hx hb hr (fun t9 ht9 hW9 => ⟨⟨zM_size sM_54, (sM_54), rfl, Option.some.inj hG, by rw [ht9]; exact hP, hD⟩, hS.F ht9⟩) hS.2.2 d_M_feed_61
  · have hG := zf hG hc
    exact k_M_feed_49 X hA zz N sM_43 _ hG adM adM_tape adM_frameAt adM_field adM_draft adM_given adM_low adM_high adM_packet adM_known _ _ hP hD hS _ (lv_sub hl [] rfl)
set_option maxRecDepth 100000 in
set_option maxHeartbeats 4000000 in
theorem k_M_feed_18 {p : Program} {l : Launch} {e : Env} {R : Room} {s : State} {m : MethodId} {args : Array Value} {below : List Frame} {meth : Method} {c : Code} {dC : Nat → ClassId} {dI : Nat → Nat → Nat} {cB cI cL : ClassId} {A : Nat → Prop} (X : zx p s m args meth c R R_M b_M_feed (some .int) 4 1 25) (hA : ∀ q, s.heap.size ≤ q → A q) (zz : zk dC dI cB cI cL A s)  (N : Nat) (sM : zM) (v1 : Int64) (v3 : Int32) (s0 : Int32) (a : Int32 × zM) (hG : g_M_feed_18 N sM v1 v3 s0 = some a) (adM adM_tape adM_frameAt adM_field adM_draft adM_given adM_low adM_high adM_packet adM_known : Nat) (H : Heap) (locs : List Loc) (hP : va_P (dC, dI) zcl (zwM adM adM_tape adM_frameAt adM_field adM_draft adM_given adM_low adM_high adM_packet adM_known cB cI cL sM) H) (hD : va_D A (zwM adM adM_tape adM_frameAt adM_field adM_draft adM_given adM_low adM_high adM_packet adM_known cB cI cL sM)) (hS : va_S A s.heap H locs) (ls : Array Slot) (hl : lv_has ls 4 [(0, .ref adM), (1, .long v1), (3, .int v3)]) : W p l e R s m args below meth c H locs 0 0 (MQ below (q_M_feed dC dI cB cI cL A adM adM_tape adM_frameAt adM_field adM_draft adM_given adM_low adM_high adM_packet adM_known a) args s 0 0 A) (F0 m 18 ls [.int s0, .ref adM]) := by
  obtain ⟨hx, hb, hr, hml, hown, hts, hlocks, hRf, hRl⟩ := id X
  unfold g_M_feed_18 at hG
  refine lv_iconst (v := (1 : Int32)) hx hb d_M_feed_18 (by decide) ?_
  obtain ⟨a_19, hx_19, hG⟩ := zb hG
  have hr_19 := zrunV (p := p) (e := e) (below := below) (meth := meth) (As := [.int s0, .int (1 : Int32)]) (rest := []) (st0 := [.int (1 : Int32), .int s0, .ref adM]) (cells := 0) (slots := 0) X zz hP hD hS hA [0, 1, 2, 3, 4, 5, 6, 7, 8, 9] (by decide) rfl (c_M_fails l dC dI cB cI cL H.size adM adM_tape adM_frameAt adM_field adM_draft adM_given adM_low adM_high adM_packet adM_known sM s0 (1 : Int32) _ hx_19) zy_M_fails zv_M_fails (hts (.methodLink R_M 62 y_M_fails) zin_M_62) hl rfl rfl d_M_feed_19 (lv_room (Nat.le_of_ble_eq_true rfl)) rfl rfl ⟨Nat.le_trans (Nat.le_of_ble_eq_true rfl) hRf, Nat.le_trans (Nat.le_of_ble_eq_true rfl) hRl⟩ ⟨Nat.zero_le _, Nat.zero_le _⟩ 0 8 rfl rfl
  refine zcalli (wr := ([] : va_W)) hr_19 hP hD hS hA [0, 1, 2, 3, 4, 5, 6, 7, 8, 9] [] rfl rfl (by decide) (by decide) (fun r_19 u_19 H locs hw_19 hP hD hS => ?_)
  obtain ⟨sM_19, rfl⟩ : ∃ z, z = u_19 := ⟨_, rfl⟩
  subst hw_19
  have hP : va_P (dC, dI) zcl (zwM adM adM_tape adM_frameAt adM_field adM_draft adM_given adM_low adM_high adM_packet adM_known cB cI cL sM_19) H := hP
  have hD : va_D A (zwM adM adM_tape adM_frameAt adM_field adM_draft adM_given adM_low adM_high adM_packet adM_known cB cI cL sM_19) := hD
  have hG : g_M_feed_c19 N v1 v3 sM_19 r_19 = some a := hG
  unfold g_M_feed_c19 at hG
  refine lv_if_ne (tgt := 49) hx hb d_M_feed_22 (by decide) (fun hc => ?_) (fun hc => ?_)
  · have hG := zf hG hc
    exact k_M_feed_49 X hA zz N sM_19 _ hG adM adM_tape adM_frameAt adM_field adM_draft adM_given adM_low adM_high adM_packet adM_known _ _ hP hD hS _ (lv_sub hl [] rfl)
  · have hG := zt hG hc
    refine lv_aload_n hx hb d_M_feed_25 rfl (lv_at hl 0 rfl) ?_
    refine lv_aload_n hx hb d_M_feed_26 rfl (lv_at hl 0 rfl) ?_
    refine va_get (D := (dC, dI)) (ci := 8) (v := .int (zM_size sM_19)) (C := R_M) (T := F_M) (N := 26) hx hb hts zi_M hown zz.1 hP 0 rfl rfl 2 (by decide) (hts (.fieldLink R_M 57 "WireCodecModel" "size" "I") zin_M_57) (fun _ h9 => h9) rfl d_M_feed_27 ?_
    refine lv_iload_n hx hb d_M_feed_30 rfl (lv_at hl 2 rfl) ?_
    refine lv_iadd hx hb d_M_feed_31 ?_
    refine lv_ldc (v := (65536 : Int32)) hx hb hown (hts (.constant R_M 7 (65536 : Int32)) zin_M_7) d_M_feed_32 ?_
    refine lv_icmp_le (tgt := 41) hx hb d_M_feed_34 (by decide) (fun hc => ?_) (fun hc => ?_)
    · have hG := zt hG hc
      refine lv_iconst (v := (0 : Int32)) hx hb d_M_feed_41 (by decide) ?_
      exact k_M_feed_42 X hA zz N sM_19 v1 v3 (0 : Int32) _ hG adM adM_tape adM_frameAt adM_field adM_draft adM_given adM_low adM_high adM_packet adM_known _ _ hP hD hS _ (lv_sub hl [0, 1, 2] rfl)
    · have hG := zf hG hc
      refine lv_iconst (v := (1 : Int32)) hx hb d_M_feed_37 (by decide) ?_
      refine lv_goto (tgt := 42) hx hb d_M_feed_38 (by decide) ?_
      exact k_M_feed_42 X hA zz N sM_19 v1 v3 (1 : Int32) _ hG adM adM_tape adM_frameAt adM_field adM_draft adM_given adM_low adM_high adM_packet adM_known _ _ hP hD hS _ (lv_sub hl [0, 1, 2] rfl)
set_option maxRecDepth 100000 in
set_option maxHeartbeats 4000000 in
theorem k_M_feed_0 {p : Program} {l : Launch} {e : Env} {R : Room} {s : State} {m : MethodId} {args : Array Value} {below : List Frame} {meth : Method} {c : Code} {dC : Nat → ClassId} {dI : Nat → Nat → Nat} {cB cI cL : ClassId} {A : Nat → Prop} (X : zx p s m args meth c R R_M b_M_feed (some .int) 4 1 25) (hA : ∀ q, s.heap.size ≤ q → A q) (zz : zk dC dI cB cI cL A s)  (N : Nat) (sM : zM) (v1 : Int64) (v3 : Int32) (a : Int32 × zM) (hG : g_M_feed N sM v1 v3 = some a) (adM adM_tape adM_frameAt adM_field adM_draft adM_given adM_low adM_high adM_packet adM_known : Nat) (H : Heap) (locs : List Loc) (hP : va_P (dC, dI) zcl (zwM adM adM_tape adM_frameAt adM_field adM_draft adM_given adM_low adM_high adM_packet adM_known cB cI cL sM) H) (hD : va_D A (zwM adM adM_tape adM_frameAt adM_field adM_draft adM_given adM_low adM_high adM_packet adM_known cB cI cL sM)) (hS : va_S A s.heap H locs) (ls : Array Slot) (hl : lv_has ls 4 [(0, .ref adM), (1, .long v1), (3, .int v3)]) : W p l e R s m args below meth c H locs 0 0 (MQ below (q_M_feed dC dI cB cI cL A adM adM_tape adM_frameAt adM_field adM_draft adM_given adM_low adM_high adM_packet adM_known a) args s 0 0 A) (F0 m 0 ls []) := by
  obtain ⟨hx, hb, hr, hml, hown, hts, hlocks, hRf, hRl⟩ := id X
  unfold g_M_feed at hG
  refine lv_aload_n hx hb d_M_feed_0 rfl (lv_at hl 0 rfl) ?_
  refine lv_iload_n hx hb d_M_feed_1 rfl (lv_at hl 2 rfl) ?_
  refine lv_i2l hx hb d_M_feed_2 rfl ?_
  refine lv_lconst (v := (1 : Int64)) hx hb d_M_feed_3 (by decide) ?_
  refine lv_ldc2 (v := (8 : Int64)) hx hb hown (hts (.constantLong R_M 60 (8 : Int64)) zin_M_60) d_M_feed_4 ?_
  obtain ⟨a_7, hx_7, hG⟩ := zb hG
  have hr_7 := zrunS (p := p) (e := e) (below := below) (meth := meth) (As := [.long v3.toInt64, .long (1 : Int64), .long (8 : Int64)]) (rest := [.ref adM]) (st0 := [.long (8 : Int64), .long (1 : Int64), .long v3.toInt64, .ref adM]) (cells := 0) (slots := 0) X zz hP hD hS hA [] (by decide) rfl (c_M_within l dC dI cB cI cL H.size v3.toInt64 (1 : Int64) (8 : Int64) _ hx_7) zy_M_within zv_M_within (hts (.methodLink R_M 53 y_M_within) zin_M_53) hl rfl rfl d_M_feed_7 (lv_room (Nat.le_of_ble_eq_true rfl)) rfl rfl ⟨Nat.le_trans (Nat.le_of_ble_eq_true rfl) hRf, Nat.le_trans (Nat.le_of_ble_eq_true rfl) hRl⟩ ⟨Nat.zero_le _, Nat.zero_le _⟩
  refine zcalli (wr := (zwM adM adM_tape adM_frameAt adM_field adM_draft adM_given adM_low adM_high adM_packet adM_known cB cI cL sM)) hr_7 hP hD hS hA [] [0, 1, 2, 3, 4, 5, 6, 7, 8, 9] rfl rfl (by decide) (by decide) (fun r_7 u_7 H locs hw_7 hP hD hS => ?_)
  subst hw_7
  have hP : va_P (dC, dI) zcl (zwM adM adM_tape adM_frameAt adM_field adM_draft adM_given adM_low adM_high adM_packet adM_known cB cI cL sM) H := hP
  have hD : va_D A (zwM adM adM_tape adM_frameAt adM_field adM_draft adM_given adM_low adM_high adM_packet adM_known cB cI cL sM) := hD
  have hG : g_M_feed_c7 N sM v1 v3 r_7 = some a := hG
  unfold g_M_feed_c7 at hG
  refine lv_if_ne (tgt := 17) hx hb d_M_feed_10 (by decide) (fun hc => ?_) (fun hc => ?_)
  · have hG := zf hG hc
    refine lv_iconst (v := (0 : Int32)) hx hb d_M_feed_17 (by decide) ?_
    exact k_M_feed_18 X hA zz N sM v1 v3 (0 : Int32) _ hG adM adM_tape adM_frameAt adM_field adM_draft adM_given adM_low adM_high adM_packet adM_known _ _ hP hD hS _ (lv_sub hl [0, 1, 2] rfl)
  · have hG := zt hG hc
    refine lv_iconst (v := (1 : Int32)) hx hb d_M_feed_13 (by decide) ?_
    refine lv_goto (tgt := 18) hx hb d_M_feed_14 (by decide) ?_
    exact k_M_feed_18 X hA zz N sM v1 v3 (1 : Int32) _ hG adM adM_tape adM_frameAt adM_field adM_draft adM_given adM_low adM_high adM_packet adM_known _ _ hP hD hS _ (lv_sub hl [0, 1, 2] rfl)
set_option maxRecDepth 100000 in
set_option maxHeartbeats 4000000 in
theorem c_M_feed (l : Launch) (dC : Nat → ClassId) (dI : Nat → Nat → Nat) (cB cI cL : ClassId) (sz : Nat) (adM adM_tape adM_frameAt adM_field adM_draft adM_given adM_low adM_high adM_packet adM_known : Nat) (N : Nat) (sM : zM) (v1 : Int64) (v3 : Int32) (a : Int32 × zM) (hG : g_M_feed N sM v1 v3 = some a) : Met l y_M_feed (zw y_M_feed b_M_feed 4 (some .int)) ({ frames := 1, cells := 0, slots := 0, locals := 25 }) (va_Pc [.ref adM, .long v1, .int v3] (zpre dC dI cB cI cL sz (zwM adM adM_tape adM_frameAt adM_field adM_draft adM_given adM_low adM_high adM_packet adM_known cB cI cL sM))) (q_M_feed dC dI cB cI cL (va_A (zwM adM adM_tape adM_frameAt adM_field adM_draft adM_given adM_low adM_high adM_packet adM_known cB cI cL sM) sz) adM adM_tape adM_frameAt adM_field adM_draft adM_given adM_low adM_high adM_packet adM_known a) 0 0 (va_A (zwM adM adM_tape adM_frameAt adM_field adM_draft adM_given adM_low adM_high adM_packet adM_known cB cI cL sM) sz) := by
  refine Met.ofW (cc := b_M_feed) (maxL := 4) (ret := (some .int)) (by decide) rfl ?_
  intro p e s m args below meth c s₁ B hml hv
  obtain ⟨rfl, hsz, hP, zz, hD0⟩ := hv
  subst hsz
  have X := zx_of (F := 1) (L := 25) B hml (Nat.le_refl _) (Nat.le_refl _)
  have hD := hD0.self (sz := s.heap.size)
  have hA : ∀ q : Nat, s.heap.size ≤ q → va_A (zwM adM adM_tape adM_frameAt adM_field adM_draft adM_given adM_low adM_high adM_packet adM_known cB cI cL sM) s.heap.size q := fun q h => Or.inr h
  have hl := lv_entry ([.ref adM, .long v1, .int v3]) (n := 4) (Nat.le_of_ble_eq_true rfl)
  rw [lg_entry_eq]
  generalize (lg_sl ([.ref adM, .long v1, .int v3]) ++ List.replicate (4 - (lg_sl ([.ref adM, .long v1, .int v3])).length) Slot.unset).toArray = ls at hl ⊢
  exact k_M_feed_0 X hA zz N sM v1 v3 a hG adM adM_tape adM_frameAt adM_field adM_draft adM_given adM_low adM_high adM_packet adM_known _ _ hP hD va_S.rf ls hl
noncomputable def g_M_needs_38 (s0 : Int32) : Option (Int32) := some (s0)
noncomputable def g_M_needs (v0 : Int64) : Option (Int32) := if (0 : Int32) ≤ (lg_cmp v0 (64 : Int64)) then (if (0 : Int32) ≤ (lg_cmp v0 (16384 : Int64)) then (if (0 : Int32) ≤ (lg_cmp v0 (1073741824 : Int64)) then (g_M_needs_38 (8 : Int32)) else (g_M_needs_38 (4 : Int32))) else (g_M_needs_38 (2 : Int32))) else (g_M_needs_38 (1 : Int32))
def q_M_needs (dC : Nat → ClassId) (dI : Nat → Nat → Nat) (cB cI cL : ClassId) (A : Nat → Prop) (a : Int32) : Array Value → State → Outcome → State → Prop := va_Qi (fun (r : Int32) (u : Unit) => (r) = a) (fun u U => va_P (dC, dI) zcl ([] : va_W) U.heap ∧ va_D A ([] : va_W)) A
set_option maxRecDepth 100000 in
set_option maxHeartbeats 4000000 in
theorem k_M_needs_38 {p : Program} {l : Launch} {e : Env} {R : Room} {s : State} {m : MethodId} {args : Array Value} {below : List Frame} {meth : Method} {c : Code} {dC : Nat → ClassId} {dI : Nat → Nat → Nat} {cB cI cL : ClassId} {A : Nat → Prop} (X : zx p s m args meth c R R_M b_M_needs (some .int) 2 0 0) (hA : ∀ q, s.heap.size ≤ q → A q) (zz : zk dC dI cB cI cL A s)  (s0 : Int32) (a : Int32) (hG : g_M_needs_38 s0 = some a) (H : Heap) (locs : List Loc) (hP : va_P (dC, dI) zcl ([] : va_W) H) (hD : va_D A ([] : va_W)) (hS : va_S A s.heap H locs) (ls : Array Slot) (hl : lv_has ls 2 []) : W p l e R s m args below meth c H locs 0 0 (MQ below (q_M_needs dC dI cB cI cL A a) args s 0 0 A) (F0 m 38 ls [.int s0]) := by
  obtain ⟨hx, hb, hr, hml, hown, hts, hlocks, hRf, hRl⟩ := id X
  unfold g_M_needs_38 at hG
  exact W.iret (v := s0) hx hb hr (fun t9 ht9 hW9 => ⟨⟨s0, (), rfl, Option.some.inj hG, by rw [ht9]; exact hP, hD⟩, hS.F ht9⟩) hS.2.2 d_M_needs_38
set_option maxRecDepth 100000 in
set_option maxHeartbeats 4000000 in
theorem k_M_needs_0 {p : Program} {l : Launch} {e : Env} {R : Room} {s : State} {m : MethodId} {args : Array Value} {below : List Frame} {meth : Method} {c : Code} {dC : Nat → ClassId} {dI : Nat → Nat → Nat} {cB cI cL : ClassId} {A : Nat → Prop} (X : zx p s m args meth c R R_M b_M_needs (some .int) 2 0 0) (hA : ∀ q, s.heap.size ≤ q → A q) (zz : zk dC dI cB cI cL A s)  (v0 : Int64) (a : Int32) (hG : g_M_needs v0 = some a) (H : Heap) (locs : List Loc) (hP : va_P (dC, dI) zcl ([] : va_W) H) (hD : va_D A ([] : va_W)) (hS : va_S A s.heap H locs) (ls : Array Slot) (hl : lv_has ls 2 [(0, .long v0)]) : W p l e R s m args below meth c H locs 0 0 (MQ below (q_M_needs dC dI cB cI cL A a) args s 0 0 A) (F0 m 0 ls []) := by
  obtain ⟨hx, hb, hr, hml, hown, hts, hlocks, hRf, hRl⟩ := id X
  unfold g_M_needs at hG
  refine lv_lload_n hx hb d_M_needs_0 rfl (lv_at hl 0 rfl) ?_
  refine lv_ldc2 (v := (64 : Int64)) hx hb hown (hts (.constantLong R_M 70 (64 : Int64)) zin_M_70) d_M_needs_1 ?_
  refine W.lcmp hx hb d_M_needs_4 ?_
  refine lv_if_ge (tgt := 12) hx hb d_M_needs_5 (by decide) (fun hc => ?_) (fun hc => ?_)
  · have hG := zt hG hc
    refine lv_lload_n hx hb d_M_needs_12 rfl (lv_at hl 0 rfl) ?_
    refine lv_ldc2 (v := (16384 : Int64)) hx hb hown (hts (.constantLong R_M 72 (16384 : Int64)) zin_M_72) d_M_needs_13 ?_
    refine W.lcmp hx hb d_M_needs_16 ?_
    refine lv_if_ge (tgt := 24) hx hb d_M_needs_17 (by decide) (fun hc => ?_) (fun hc => ?_)
    · have hG := zt hG hc
      refine lv_lload_n hx hb d_M_needs_24 rfl (lv_at hl 0 rfl) ?_
      refine lv_ldc2 (v := (1073741824 : Int64)) hx hb hown (hts (.constantLong R_M 74 (1073741824 : Int64)) zin_M_74) d_M_needs_25 ?_
      refine W.lcmp hx hb d_M_needs_28 ?_
      refine lv_if_ge (tgt := 36) hx hb d_M_needs_29 (by decide) (fun hc => ?_) (fun hc => ?_)
      · have hG := zt hG hc
        refine lv_bipush (v := (8 : Int32)) hx hb d_M_needs_36 (by decide) ?_
        exact k_M_needs_38 X hA zz (8 : Int32) _ hG _ _ hP hD hS _ (lv_sub hl [] rfl)
      · have hG := zf hG hc
        refine lv_iconst (v := (4 : Int32)) hx hb d_M_needs_32 (by decide) ?_
        refine lv_goto (tgt := 38) hx hb d_M_needs_33 (by decide) ?_
        exact k_M_needs_38 X hA zz (4 : Int32) _ hG _ _ hP hD hS _ (lv_sub hl [] rfl)
    · have hG := zf hG hc
      refine lv_iconst (v := (2 : Int32)) hx hb d_M_needs_20 (by decide) ?_
      refine lv_goto (tgt := 38) hx hb d_M_needs_21 (by decide) ?_
      exact k_M_needs_38 X hA zz (2 : Int32) _ hG _ _ hP hD hS _ (lv_sub hl [] rfl)
  · have hG := zf hG hc
    refine lv_iconst (v := (1 : Int32)) hx hb d_M_needs_8 (by decide) ?_
    refine lv_goto (tgt := 38) hx hb d_M_needs_9 (by decide) ?_
    exact k_M_needs_38 X hA zz (1 : Int32) _ hG _ _ hP hD hS _ (lv_sub hl [] rfl)
set_option maxRecDepth 100000 in
set_option maxHeartbeats 4000000 in
theorem c_M_needs (l : Launch) (dC : Nat → ClassId) (dI : Nat → Nat → Nat) (cB cI cL : ClassId) (sz : Nat) (v0 : Int64) (a : Int32) (hG : g_M_needs v0 = some a) : Met l y_M_needs (zw y_M_needs b_M_needs 2 (some .int)) ({ frames := 0, cells := 0, slots := 0, locals := 0 }) (va_Pc [.long v0] (zpre dC dI cB cI cL sz ([] : va_W))) (q_M_needs dC dI cB cI cL (va_A ([] : va_W) sz) a) 0 0 (va_A ([] : va_W) sz) := by
  refine Met.ofW (cc := b_M_needs) (maxL := 2) (ret := (some .int)) (by decide) rfl ?_
  intro p e s m args below meth c s₁ B hml hv
  obtain ⟨rfl, hsz, hP, zz, hD0⟩ := hv
  subst hsz
  have X := zx_of (F := 0) (L := 0) B hml (Nat.le_refl _) (Nat.le_refl _)
  have hD := hD0.self (sz := s.heap.size)
  have hA : ∀ q : Nat, s.heap.size ≤ q → va_A ([] : va_W) s.heap.size q := fun q h => Or.inr h
  have hl := lv_entry ([.long v0]) (n := 2) (Nat.le_of_ble_eq_true rfl)
  rw [lg_entry_eq]
  generalize (lg_sl ([.long v0]) ++ List.replicate (2 - (lg_sl ([.long v0])).length) Slot.unset).toArray = ls at hl ⊢
  exact k_M_needs_0 X hA zz v0 a hG _ _ hP hD va_S.rf ls hl
noncomputable def g_M_writeNumber_c47 (sM_47 : zM) : Option (zM) := some (sM_47)
noncomputable def g_M_writeNumber_32 (N : Nat) (sM : zM) (v1 : Int64) (v3 : Int32) (s0 : Int64) : Option (zM) := (g_M_write N sM (v1 ||| (s0 <<< ((((8 : Int32) * v3) - (2 : Int32)).toInt64 &&& 63))) v3).bind (fun a => g_M_writeNumber_c47 a)
noncomputable def g_M_writeNumber (N : Nat) (sM : zM) (v1 : Int64) (v3 : Int32) : Option (zM) := if v3 = (1 : Int32) then (g_M_writeNumber_32 N sM v1 v3 (0 : Int64)) else (if v3 = (2 : Int32) then (g_M_writeNumber_32 N sM v1 v3 (1 : Int64)) else (if v3 = (4 : Int32) then (g_M_writeNumber_32 N sM v1 v3 (2 : Int64)) else (g_M_writeNumber_32 N sM v1 v3 (3 : Int64))))
def q_M_writeNumber (dC : Nat → ClassId) (dI : Nat → Nat → Nat) (cB cI cL : ClassId) (A : Nat → Prop) (adM : Nat) (adM_tape : Nat) (adM_frameAt : Nat) (adM_field : Nat) (adM_draft : Nat) (adM_given : Nat) (adM_low : Nat) (adM_high : Nat) (adM_packet : Nat) (adM_known : Nat) (a : zM) : Array Value → State → Outcome → State → Prop := va_Qv (fun (u : zM) => (u) = a) (fun u U => va_P (dC, dI) zcl (zwM adM adM_tape adM_frameAt adM_field adM_draft adM_given adM_low adM_high adM_packet adM_known cB cI cL u) U.heap ∧ va_D A (zwM adM adM_tape adM_frameAt adM_field adM_draft adM_given adM_low adM_high adM_packet adM_known cB cI cL u)) A
set_option maxRecDepth 100000 in
set_option maxHeartbeats 4000000 in
theorem k_M_writeNumber_32 {p : Program} {l : Launch} {e : Env} {R : Room} {s : State} {m : MethodId} {args : Array Value} {below : List Frame} {meth : Method} {c : Code} {dC : Nat → ClassId} {dI : Nat → Nat → Nat} {cB cI cL : ClassId} {A : Nat → Prop} (X : zx p s m args meth c R R_M b_M_writeNumber none 6 1 24) (hA : ∀ q, s.heap.size ≤ q → A q) (zz : zk dC dI cB cI cL A s)  (N : Nat) (sM : zM) (v1 : Int64) (v3 : Int32) (s0 : Int64) (a : zM) (hG : g_M_writeNumber_32 N sM v1 v3 s0 = some a) (adM adM_tape adM_frameAt adM_field adM_draft adM_given adM_low adM_high adM_packet adM_known : Nat) (H : Heap) (locs : List Loc) (hP : va_P (dC, dI) zcl (zwM adM adM_tape adM_frameAt adM_field adM_draft adM_given adM_low adM_high adM_packet adM_known cB cI cL sM) H) (hD : va_D A (zwM adM adM_tape adM_frameAt adM_field adM_draft adM_given adM_low adM_high adM_packet adM_known cB cI cL sM)) (hS : va_S A s.heap H locs) (ls : Array Slot) (hl : lv_has ls 6 [(0, .ref adM), (1, .long v1), (3, .int v3)]) : W p l e R s m args below meth c H locs 0 0 (MQ below (q_M_writeNumber dC dI cB cI cL A adM adM_tape adM_frameAt adM_field adM_draft adM_given adM_low adM_high adM_packet adM_known a) args s 0 0 A) (F0 m 32 ls [.long s0]) := by
  obtain ⟨hx, hb, hr, hml, hown, hts, hlocks, hRf, hRl⟩ := id X
  unfold g_M_writeNumber_32 at hG
  refine lv_lstore (lv' := [(4, .long s0), (0, .ref adM), (1, .long v1), (3, .int v3)]) hx hb d_M_writeNumber_32 hl (by decide) rfl (fun ls hl => ?_)
  refine lv_aload_n hx hb d_M_writeNumber_34 rfl (lv_at hl 1 rfl) ?_
  refine lv_lload_n hx hb d_M_writeNumber_35 rfl (lv_at hl 2 rfl) ?_
  refine lv_lload hx hb d_M_writeNumber_36 (lv_at hl 0 rfl) ?_
  refine lv_bipush (v := (8 : Int32)) hx hb d_M_writeNumber_38 (by decide) ?_
  refine lv_iload_n hx hb d_M_writeNumber_40 rfl (lv_at hl 3 rfl) ?_
  refine lv_imul hx hb d_M_writeNumber_41 ?_
  refine lv_iconst (v := (2 : Int32)) hx hb d_M_writeNumber_42 (by decide) ?_
  refine lv_isub hx hb d_M_writeNumber_43 ?_
  refine lv_lshl hx hb d_M_writeNumber_44 rfl ?_
  refine lv_lor hx hb d_M_writeNumber_45 ?_
  refine lv_iload_n hx hb d_M_writeNumber_46 rfl (lv_at hl 3 rfl) ?_
  obtain ⟨a_47, hx_47, hG⟩ := zb hG
  have hr_47 := zrunV (p := p) (e := e) (below := below) (meth := meth) (As := [.long (v1 ||| (s0 <<< ((((8 : Int32) * v3) - (2 : Int32)).toInt64 &&& 63))), .int v3]) (rest := []) (st0 := [.int v3, .long (v1 ||| (s0 <<< ((((8 : Int32) * v3) - (2 : Int32)).toInt64 &&& 63))), .ref adM]) (cells := 0) (slots := 0) X zz hP hD hS hA [0, 1, 2, 3, 4, 5, 6, 7, 8, 9] (by decide) rfl (c_M_write l dC dI cB cI cL H.size adM adM_tape adM_frameAt adM_field adM_draft adM_given adM_low adM_high adM_packet adM_known N sM (v1 ||| (s0 <<< ((((8 : Int32) * v3) - (2 : Int32)).toInt64 &&& 63))) v3 _ hx_47) zy_M_write zv_M_write (hts (.methodLink R_M 66 y_M_write) zin_M_66) hl rfl rfl d_M_writeNumber_47 (lv_room (Nat.le_of_ble_eq_true rfl)) rfl rfl ⟨Nat.le_trans (Nat.le_of_ble_eq_true rfl) hRf, Nat.le_trans (Nat.le_of_ble_eq_true rfl) hRl⟩ ⟨Nat.zero_le _, Nat.zero_le _⟩ 0 8 rfl rfl
  refine zcallv (wr := ([] : va_W)) hr_47 hP hD hS hA [0, 1, 2, 3, 4, 5, 6, 7, 8, 9] [] rfl rfl (by decide) (by decide) (fun u_47 H locs hw_47 hP hD hS => ?_)
  obtain ⟨sM_47, rfl⟩ : ∃ z, z = u_47 := ⟨_, rfl⟩
  subst hw_47
  have hP : va_P (dC, dI) zcl (zwM adM adM_tape adM_frameAt adM_field adM_draft adM_given adM_low adM_high adM_packet adM_known cB cI cL sM_47) H := hP
  have hD : va_D A (zwM adM adM_tape adM_frameAt adM_field adM_draft adM_given adM_low adM_high adM_packet adM_known cB cI cL sM_47) := hD
  have hG : g_M_writeNumber_c47 sM_47 = some a := hG
  unfold g_M_writeNumber_c47 at hG
  exact W.vret hx hb hr (fun t9 ht9 hW9 => ⟨⟨(sM_47), rfl, Option.some.inj hG, by rw [ht9]; exact hP, hD⟩, hS.F ht9⟩) hS.2.2 d_M_writeNumber_50
set_option maxRecDepth 100000 in
set_option maxHeartbeats 4000000 in
theorem k_M_writeNumber_0 {p : Program} {l : Launch} {e : Env} {R : Room} {s : State} {m : MethodId} {args : Array Value} {below : List Frame} {meth : Method} {c : Code} {dC : Nat → ClassId} {dI : Nat → Nat → Nat} {cB cI cL : ClassId} {A : Nat → Prop} (X : zx p s m args meth c R R_M b_M_writeNumber none 6 1 24) (hA : ∀ q, s.heap.size ≤ q → A q) (zz : zk dC dI cB cI cL A s)  (N : Nat) (sM : zM) (v1 : Int64) (v3 : Int32) (a : zM) (hG : g_M_writeNumber N sM v1 v3 = some a) (adM adM_tape adM_frameAt adM_field adM_draft adM_given adM_low adM_high adM_packet adM_known : Nat) (H : Heap) (locs : List Loc) (hP : va_P (dC, dI) zcl (zwM adM adM_tape adM_frameAt adM_field adM_draft adM_given adM_low adM_high adM_packet adM_known cB cI cL sM) H) (hD : va_D A (zwM adM adM_tape adM_frameAt adM_field adM_draft adM_given adM_low adM_high adM_packet adM_known cB cI cL sM)) (hS : va_S A s.heap H locs) (ls : Array Slot) (hl : lv_has ls 6 [(0, .ref adM), (1, .long v1), (3, .int v3)]) : W p l e R s m args below meth c H locs 0 0 (MQ below (q_M_writeNumber dC dI cB cI cL A adM adM_tape adM_frameAt adM_field adM_draft adM_given adM_low adM_high adM_packet adM_known a) args s 0 0 A) (F0 m 0 ls []) := by
  obtain ⟨hx, hb, hr, hml, hown, hts, hlocks, hRf, hRl⟩ := id X
  unfold g_M_writeNumber at hG
  refine lv_iload_n hx hb d_M_writeNumber_0 rfl (lv_at hl 2 rfl) ?_
  refine lv_iconst (v := (1 : Int32)) hx hb d_M_writeNumber_1 (by decide) ?_
  refine lv_icmp_ne (tgt := 9) hx hb d_M_writeNumber_2 (by decide) (fun hc => ?_) (fun hc => ?_)
  · have hG := zf hG hc
    refine lv_iload_n hx hb d_M_writeNumber_9 rfl (lv_at hl 2 rfl) ?_
    refine lv_iconst (v := (2 : Int32)) hx hb d_M_writeNumber_10 (by decide) ?_
    refine lv_icmp_ne (tgt := 18) hx hb d_M_writeNumber_11 (by decide) (fun hc => ?_) (fun hc => ?_)
    · have hG := zf hG hc
      refine lv_iload_n hx hb d_M_writeNumber_18 rfl (lv_at hl 2 rfl) ?_
      refine lv_iconst (v := (4 : Int32)) hx hb d_M_writeNumber_19 (by decide) ?_
      refine lv_icmp_ne (tgt := 29) hx hb d_M_writeNumber_20 (by decide) (fun hc => ?_) (fun hc => ?_)
      · have hG := zf hG hc
        refine lv_ldc2 (v := (3 : Int64)) hx hb hown (hts (.constantLong R_M 78 (3 : Int64)) zin_M_78) d_M_writeNumber_29 ?_
        exact k_M_writeNumber_32 X hA zz N sM v1 v3 (3 : Int64) _ hG adM adM_tape adM_frameAt adM_field adM_draft adM_given adM_low adM_high adM_packet adM_known _ _ hP hD hS _ (lv_sub hl [0, 1, 2] rfl)
      · have hG := zt hG hc
        refine lv_ldc2 (v := (2 : Int64)) hx hb hown (hts (.constantLong R_M 76 (2 : Int64)) zin_M_76) d_M_writeNumber_23 ?_
        refine lv_goto (tgt := 32) hx hb d_M_writeNumber_26 (by decide) ?_
        exact k_M_writeNumber_32 X hA zz N sM v1 v3 (2 : Int64) _ hG adM adM_tape adM_frameAt adM_field adM_draft adM_given adM_low adM_high adM_packet adM_known _ _ hP hD hS _ (lv_sub hl [0, 1, 2] rfl)
    · have hG := zt hG hc
      refine lv_lconst (v := (1 : Int64)) hx hb d_M_writeNumber_14 (by decide) ?_
      refine lv_goto (tgt := 32) hx hb d_M_writeNumber_15 (by decide) ?_
      exact k_M_writeNumber_32 X hA zz N sM v1 v3 (1 : Int64) _ hG adM adM_tape adM_frameAt adM_field adM_draft adM_given adM_low adM_high adM_packet adM_known _ _ hP hD hS _ (lv_sub hl [0, 1, 2] rfl)
  · have hG := zt hG hc
    refine lv_lconst (v := (0 : Int64)) hx hb d_M_writeNumber_5 (by decide) ?_
    refine lv_goto (tgt := 32) hx hb d_M_writeNumber_6 (by decide) ?_
    exact k_M_writeNumber_32 X hA zz N sM v1 v3 (0 : Int64) _ hG adM adM_tape adM_frameAt adM_field adM_draft adM_given adM_low adM_high adM_packet adM_known _ _ hP hD hS _ (lv_sub hl [0, 1, 2] rfl)
set_option maxRecDepth 100000 in
set_option maxHeartbeats 4000000 in
theorem c_M_writeNumber (l : Launch) (dC : Nat → ClassId) (dI : Nat → Nat → Nat) (cB cI cL : ClassId) (sz : Nat) (adM adM_tape adM_frameAt adM_field adM_draft adM_given adM_low adM_high adM_packet adM_known : Nat) (N : Nat) (sM : zM) (v1 : Int64) (v3 : Int32) (a : zM) (hG : g_M_writeNumber N sM v1 v3 = some a) : Met l y_M_writeNumber (zw y_M_writeNumber b_M_writeNumber 6 none) ({ frames := 1, cells := 0, slots := 0, locals := 24 }) (va_Pc [.ref adM, .long v1, .int v3] (zpre dC dI cB cI cL sz (zwM adM adM_tape adM_frameAt adM_field adM_draft adM_given adM_low adM_high adM_packet adM_known cB cI cL sM))) (q_M_writeNumber dC dI cB cI cL (va_A (zwM adM adM_tape adM_frameAt adM_field adM_draft adM_given adM_low adM_high adM_packet adM_known cB cI cL sM) sz) adM adM_tape adM_frameAt adM_field adM_draft adM_given adM_low adM_high adM_packet adM_known a) 0 0 (va_A (zwM adM adM_tape adM_frameAt adM_field adM_draft adM_given adM_low adM_high adM_packet adM_known cB cI cL sM) sz) := by
  refine Met.ofW (cc := b_M_writeNumber) (maxL := 6) (ret := none) (by decide) rfl ?_
  intro p e s m args below meth c s₁ B hml hv
  obtain ⟨rfl, hsz, hP, zz, hD0⟩ := hv
  subst hsz
  have X := zx_of (F := 1) (L := 24) B hml (Nat.le_refl _) (Nat.le_refl _)
  have hD := hD0.self (sz := s.heap.size)
  have hA : ∀ q : Nat, s.heap.size ≤ q → va_A (zwM adM adM_tape adM_frameAt adM_field adM_draft adM_given adM_low adM_high adM_packet adM_known cB cI cL sM) s.heap.size q := fun q h => Or.inr h
  have hl := lv_entry ([.ref adM, .long v1, .int v3]) (n := 6) (Nat.le_of_ble_eq_true rfl)
  rw [lg_entry_eq]
  generalize (lg_sl ([.ref adM, .long v1, .int v3]) ++ List.replicate (6 - (lg_sl ([.ref adM, .long v1, .int v3])).length) Slot.unset).toArray = ls at hl ⊢
  exact k_M_writeNumber_0 X hA zz N sM v1 v3 a hG adM adM_tape adM_frameAt adM_field adM_draft adM_given adM_low adM_high adM_packet adM_known _ _ hP hD va_S.rf ls hl
noncomputable def g_M_number_c116 (sM_116 : zM) : Option (Int32 × zM) := some (zM_size sM_116, sM_116)
noncomputable def g_M_number_c104 (N : Nat) (v1 : Int64) (v5 : Int32) (sM_104 : zM) (r_104 : Int32) : Option (Int32 × zM) := if r_104 = (0 : Int32) then ((g_M_writeNumber N sM_104 v1 v5).bind (fun a => g_M_number_c116 a)) else (some ((0 : Int32), sM_104))
noncomputable def g_M_number_103 (N : Nat) (sM : zM) (v1 : Int64) (v5 : Int32) (s0 : Int32) : Option (Int32 × zM) := (g_M_fails sM s0 (2 : Int32)).bind (fun a => g_M_number_c104 N v1 v5 a.2 a.1)
noncomputable def g_M_number_83 (N : Nat) (sM : zM) (v1 : Int64) (s0 : Int32) : Option (Int32 × zM) := if ((zM_size sM) + s0) ≤ (65536 : Int32) then (g_M_number_103 N sM v1 s0 (0 : Int32)) else (g_M_number_103 N sM v1 s0 (1 : Int32))
noncomputable def g_M_number_c76 (N : Nat) (v1 : Int64) (sM_63 : zM) (r_76 : Int32) : Option (Int32 × zM) := g_M_number_83 N sM_63 v1 r_76
noncomputable def g_M_number_c63 (N : Nat) (v1 : Int64) (v3 : Int32) (sM_63 : zM) (r_63 : Int32) : Option (Int32 × zM) := if r_63 = (0 : Int32) then (if v3 = (0 : Int32) then ((g_M_needs v1).bind (fun a => g_M_number_c76 N v1 sM_63 a)) else (g_M_number_83 N sM_63 v1 v3)) else (some ((0 : Int32), sM_63))
noncomputable def g_M_number_62 (N : Nat) (sM : zM) (v1 : Int64) (v3 : Int32) (s0 : Int32) : Option (Int32 × zM) := (g_M_fails sM s0 (1 : Int32)).bind (fun a => g_M_number_c63 N v1 v3 a.2 a.1)
noncomputable def g_M_number_57 (N : Nat) (sM : zM) (v1 : Int64) (v3 : Int32) : Option (Int32 × zM) := g_M_number_62 N sM v1 v3 (1 : Int32)
noncomputable def g_M_number_61 (N : Nat) (sM : zM) (v1 : Int64) (v3 : Int32) : Option (Int32 × zM) := g_M_number_62 N sM v1 v3 (0 : Int32)
noncomputable def g_M_number_c50 (N : Nat) (sM : zM) (v1 : Int64) (v3 : Int32) (r_50 : Int32) : Option (Int32 × zM) := if r_50 ≤ v3 then (g_M_number_61 N sM v1 v3) else (g_M_number_57 N sM v1 v3)
noncomputable def g_M_number_c34 (N : Nat) (sM : zM) (v1 : Int64) (v3 : Int32) (s0 : Int32) (r_34 : Int32) : Option (Int32 × zM) := if r_34 = (0 : Int32) then (g_M_number_57 N sM v1 v3) else (if s0 = (0 : Int32) then (g_M_number_57 N sM v1 v3) else (if v3 ≤ (0 : Int32) then (g_M_number_61 N sM v1 v3) else ((g_M_needs v1).bind (fun a => g_M_number_c50 N sM v1 v3 a))))
noncomputable def g_M_number_30 (N : Nat) (sM : zM) (v1 : Int64) (v3 : Int32) (s0 : Int32) : Option (Int32 × zM) := (g_M_isNumber v1).bind (fun a => g_M_number_c34 N sM v1 v3 s0 a)
noncomputable def g_M_number_25 (N : Nat) (sM : zM) (v1 : Int64) (v3 : Int32) : Option (Int32 × zM) := g_M_number_30 N sM v1 v3 (1 : Int32)
noncomputable def g_M_number (N : Nat) (sM : zM) (v1 : Int64) (v3 : Int32) : Option (Int32 × zM) := if v3 = (0 : Int32) then (g_M_number_25 N sM v1 v3) else (if v3 = (1 : Int32) then (g_M_number_25 N sM v1 v3) else (if v3 = (2 : Int32) then (g_M_number_25 N sM v1 v3) else (if v3 = (4 : Int32) then (g_M_number_25 N sM v1 v3) else (if v3 = (8 : Int32) then (g_M_number_25 N sM v1 v3) else (g_M_number_30 N sM v1 v3 (0 : Int32))))))
def q_M_number (dC : Nat → ClassId) (dI : Nat → Nat → Nat) (cB cI cL : ClassId) (A : Nat → Prop) (adM : Nat) (adM_tape : Nat) (adM_frameAt : Nat) (adM_field : Nat) (adM_draft : Nat) (adM_given : Nat) (adM_low : Nat) (adM_high : Nat) (adM_packet : Nat) (adM_known : Nat) (a : Int32 × zM) : Array Value → State → Outcome → State → Prop := va_Qi (fun (r : Int32) (u : zM) => (r, u) = a) (fun u U => va_P (dC, dI) zcl (zwM adM adM_tape adM_frameAt adM_field adM_draft adM_given adM_low adM_high adM_packet adM_known cB cI cL u) U.heap ∧ va_D A (zwM adM adM_tape adM_frameAt adM_field adM_draft adM_given adM_low adM_high adM_packet adM_known cB cI cL u)) A
set_option maxRecDepth 100000 in
set_option maxHeartbeats 4000000 in
theorem k_M_number_103 {p : Program} {l : Launch} {e : Env} {R : Room} {s : State} {m : MethodId} {args : Array Value} {below : List Frame} {meth : Method} {c : Code} {dC : Nat → ClassId} {dI : Nat → Nat → Nat} {cB cI cL : ClassId} {A : Nat → Prop} (X : zx p s m args meth c R R_M b_M_number (some .int) 6 2 49) (hA : ∀ q, s.heap.size ≤ q → A q) (zz : zk dC dI cB cI cL A s)  (N : Nat) (sM : zM) (v1 : Int64) (v5 : Int32) (s0 : Int32) (a : Int32 × zM) (hG : g_M_number_103 N sM v1 v5 s0 = some a) (adM adM_tape adM_frameAt adM_field adM_draft adM_given adM_low adM_high adM_packet adM_known : Nat) (H : Heap) (locs : List Loc) (hP : va_P (dC, dI) zcl (zwM adM adM_tape adM_frameAt adM_field adM_draft adM_given adM_low adM_high adM_packet adM_known cB cI cL sM) H) (hD : va_D A (zwM adM adM_tape adM_frameAt adM_field adM_draft adM_given adM_low adM_high adM_packet adM_known cB cI cL sM)) (hS : va_S A s.heap H locs) (ls : Array Slot) (hl : lv_has ls 6 [(0, .ref adM), (1, .long v1), (5, .int v5)]) : W p l e R s m args below meth c H locs 0 0 (MQ below (q_M_number dC dI cB cI cL A adM adM_tape adM_frameAt adM_field adM_draft adM_given adM_low adM_high adM_packet adM_known a) args s 0 0 A) (F0 m 103 ls [.int s0, .ref adM]) := by
  obtain ⟨hx, hb, hr, hml, hown, hts, hlocks, hRf, hRl⟩ := id X
  unfold g_M_number_103 at hG
  refine lv_iconst (v := (2 : Int32)) hx hb d_M_number_103 (by decide) ?_
  obtain ⟨a_104, hx_104, hG⟩ := zb hG
  have hr_104 := zrunV (p := p) (e := e) (below := below) (meth := meth) (As := [.int s0, .int (2 : Int32)]) (rest := []) (st0 := [.int (2 : Int32), .int s0, .ref adM]) (cells := 0) (slots := 0) X zz hP hD hS hA [0, 1, 2, 3, 4, 5, 6, 7, 8, 9] (by decide) rfl (c_M_fails l dC dI cB cI cL H.size adM adM_tape adM_frameAt adM_field adM_draft adM_given adM_low adM_high adM_packet adM_known sM s0 (2 : Int32) _ hx_104) zy_M_fails zv_M_fails (hts (.methodLink R_M 62 y_M_fails) zin_M_62) hl rfl rfl d_M_number_104 (lv_room (Nat.le_of_ble_eq_true rfl)) rfl rfl ⟨Nat.le_trans (Nat.le_of_ble_eq_true rfl) hRf, Nat.le_trans (Nat.le_of_ble_eq_true rfl) hRl⟩ ⟨Nat.zero_le _, Nat.zero_le _⟩ 0 8 rfl rfl
  refine zcalli (wr := ([] : va_W)) hr_104 hP hD hS hA [0, 1, 2, 3, 4, 5, 6, 7, 8, 9] [] rfl rfl (by decide) (by decide) (fun r_104 u_104 H locs hw_104 hP hD hS => ?_)
  obtain ⟨sM_104, rfl⟩ : ∃ z, z = u_104 := ⟨_, rfl⟩
  subst hw_104
  have hP : va_P (dC, dI) zcl (zwM adM adM_tape adM_frameAt adM_field adM_draft adM_given adM_low adM_high adM_packet adM_known cB cI cL sM_104) H := hP
  have hD : va_D A (zwM adM adM_tape adM_frameAt adM_field adM_draft adM_given adM_low adM_high adM_packet adM_known cB cI cL sM_104) := hD
  have hG : g_M_number_c104 N v1 v5 sM_104 r_104 = some a := hG
  unfold g_M_number_c104 at hG
  refine lv_if_eq (tgt := 112) hx hb d_M_number_107 (by decide) (fun hc => ?_) (fun hc => ?_)
  · have hG := zt hG hc
    refine lv_aload_n hx hb d_M_number_112 rfl (lv_at hl 0 rfl) ?_
    refine lv_lload_n hx hb d_M_number_113 rfl (lv_at hl 1 rfl) ?_
    refine lv_iload hx hb d_M_number_114 (lv_at hl 2 rfl) ?_
    obtain ⟨a_116, hx_116, hG⟩ := zb hG
    have hr_116 := zrunV (p := p) (e := e) (below := below) (meth := meth) (As := [.long v1, .int v5]) (rest := []) (st0 := [.int v5, .long v1, .ref adM]) (cells := 0) (slots := 0) X zz hP hD hS hA [0, 1, 2, 3, 4, 5, 6, 7, 8, 9] (by decide) rfl (c_M_writeNumber l dC dI cB cI cL H.size adM adM_tape adM_frameAt adM_field adM_draft adM_given adM_low adM_high adM_packet adM_known N sM_104 v1 v5 _ hx_116) zy_M_writeNumber zv_M_writeNumber (hts (.methodLink R_M 88 y_M_writeNumber) zin_M_88) hl rfl rfl d_M_number_116 (lv_room (Nat.le_of_ble_eq_true rfl)) rfl rfl ⟨Nat.le_trans (Nat.le_of_ble_eq_true rfl) hRf, Nat.le_trans (Nat.le_of_ble_eq_true rfl) hRl⟩ ⟨Nat.zero_le _, Nat.zero_le _⟩ 0 8 rfl rfl
    refine zcallv (wr := ([] : va_W)) hr_116 hP hD hS hA [0, 1, 2, 3, 4, 5, 6, 7, 8, 9] [] rfl rfl (by decide) (by decide) (fun u_116 H locs hw_116 hP hD hS => ?_)
    obtain ⟨sM_116, rfl⟩ : ∃ z, z = u_116 := ⟨_, rfl⟩
    subst hw_116
    have hP : va_P (dC, dI) zcl (zwM adM adM_tape adM_frameAt adM_field adM_draft adM_given adM_low adM_high adM_packet adM_known cB cI cL sM_116) H := hP
    have hD : va_D A (zwM adM adM_tape adM_frameAt adM_field adM_draft adM_given adM_low adM_high adM_packet adM_known cB cI cL sM_116) := hD
    have hG : g_M_number_c116 sM_116 = some a := hG
    unfold g_M_number_c116 at hG
    refine lv_aload_n hx hb d_M_number_119 rfl (lv_at hl 0 rfl) ?_
    refine va_get (D := (dC, dI)) (ci := 8) (v := .int (zM_size sM_116)) (C := R_M) (T := F_M) (N := 26) hx hb hts zi_M hown zz.1 hP 0 rfl rfl 2 (by decide) (hts (.fieldLink R_M 57 "WireCodecModel" "size" "I") zin_M_57) (fun _ h9 => h9) rfl d_M_number_120 ?_
    exact W.iret (v := zM_size sM_116) hx hb hr (fun t9 ht9 hW9 => ⟨⟨zM_size sM_116, (sM_116), rfl, Option.some.inj hG, by rw [ht9]; exact hP, hD⟩, hS.F ht9⟩) hS.2.2 d_M_number_123
  · have hG := zf hG hc
    refine lv_iconst (v := (0 : Int32)) hx hb d_M_number_110 (by decide) ?_
    exact W.iret (v := (0 : Int32)) hx hb hr (fun t9 ht9 hW9 => ⟨⟨(0 : Int32), (sM_104), rfl, Option.some.inj hG, by rw [ht9]; exact hP, hD⟩, hS.F ht9⟩) hS.2.2 d_M_number_111
set_option maxRecDepth 100000 in
set_option maxHeartbeats 4000000 in
theorem k_M_number_83 {p : Program} {l : Launch} {e : Env} {R : Room} {s : State} {m : MethodId} {args : Array Value} {below : List Frame} {meth : Method} {c : Code} {dC : Nat → ClassId} {dI : Nat → Nat → Nat} {cB cI cL : ClassId} {A : Nat → Prop} (X : zx p s m args meth c R R_M b_M_number (some .int) 6 2 49) (hA : ∀ q, s.heap.size ≤ q → A q) (zz : zk dC dI cB cI cL A s)  (N : Nat) (sM : zM) (v1 : Int64) (s0 : Int32) (a : Int32 × zM) (hG : g_M_number_83 N sM v1 s0 = some a) (adM adM_tape adM_frameAt adM_field adM_draft adM_given adM_low adM_high adM_packet adM_known : Nat) (H : Heap) (locs : List Loc) (hP : va_P (dC, dI) zcl (zwM adM adM_tape adM_frameAt adM_field adM_draft adM_given adM_low adM_high adM_packet adM_known cB cI cL sM) H) (hD : va_D A (zwM adM adM_tape adM_frameAt adM_field adM_draft adM_given adM_low adM_high adM_packet adM_known cB cI cL sM)) (hS : va_S A s.heap H locs) (ls : Array Slot) (hl : lv_has ls 6 [(0, .ref adM), (1, .long v1)]) : W p l e R s m args below meth c H locs 0 0 (MQ below (q_M_number dC dI cB cI cL A adM adM_tape adM_frameAt adM_field adM_draft adM_given adM_low adM_high adM_packet adM_known a) args s 0 0 A) (F0 m 83 ls [.int s0]) := by
  obtain ⟨hx, hb, hr, hml, hown, hts, hlocks, hRf, hRl⟩ := id X
  unfold g_M_number_83 at hG
  refine lv_istore (lv' := [(5, .int s0), (0, .ref adM), (1, .long v1)]) hx hb d_M_number_83 hl (by decide) rfl (fun ls hl => ?_)
  refine lv_aload_n hx hb d_M_number_85 rfl (lv_at hl 1 rfl) ?_
  refine lv_aload_n hx hb d_M_number_86 rfl (lv_at hl 1 rfl) ?_
  refine va_get (D := (dC, dI)) (ci := 8) (v := .int (zM_size sM)) (C := R_M) (T := F_M) (N := 26) hx hb hts zi_M hown zz.1 hP 0 rfl rfl 2 (by decide) (hts (.fieldLink R_M 57 "WireCodecModel" "size" "I") zin_M_57) (fun _ h9 => h9) rfl d_M_number_87 ?_
  refine lv_iload hx hb d_M_number_90 (lv_at hl 0 rfl) ?_
  refine lv_iadd hx hb d_M_number_92 ?_
  refine lv_ldc (v := (65536 : Int32)) hx hb hown (hts (.constant R_M 7 (65536 : Int32)) zin_M_7) d_M_number_93 ?_
  refine lv_icmp_le (tgt := 102) hx hb d_M_number_95 (by decide) (fun hc => ?_) (fun hc => ?_)
  · have hG := zt hG hc
    refine lv_iconst (v := (0 : Int32)) hx hb d_M_number_102 (by decide) ?_
    exact k_M_number_103 X hA zz N sM v1 s0 (0 : Int32) _ hG adM adM_tape adM_frameAt adM_field adM_draft adM_given adM_low adM_high adM_packet adM_known _ _ hP hD hS _ (lv_sub hl [1, 2, 0] rfl)
  · have hG := zf hG hc
    refine lv_iconst (v := (1 : Int32)) hx hb d_M_number_98 (by decide) ?_
    refine lv_goto (tgt := 103) hx hb d_M_number_99 (by decide) ?_
    exact k_M_number_103 X hA zz N sM v1 s0 (1 : Int32) _ hG adM adM_tape adM_frameAt adM_field adM_draft adM_given adM_low adM_high adM_packet adM_known _ _ hP hD hS _ (lv_sub hl [1, 2, 0] rfl)
set_option maxRecDepth 100000 in
set_option maxHeartbeats 4000000 in
theorem k_M_number_62 {p : Program} {l : Launch} {e : Env} {R : Room} {s : State} {m : MethodId} {args : Array Value} {below : List Frame} {meth : Method} {c : Code} {dC : Nat → ClassId} {dI : Nat → Nat → Nat} {cB cI cL : ClassId} {A : Nat → Prop} (X : zx p s m args meth c R R_M b_M_number (some .int) 6 2 49) (hA : ∀ q, s.heap.size ≤ q → A q) (zz : zk dC dI cB cI cL A s)  (N : Nat) (sM : zM) (v1 : Int64) (v3 : Int32) (s0 : Int32) (a : Int32 × zM) (hG : g_M_number_62 N sM v1 v3 s0 = some a) (adM adM_tape adM_frameAt adM_field adM_draft adM_given adM_low adM_high adM_packet adM_known : Nat) (H : Heap) (locs : List Loc) (hP : va_P (dC, dI) zcl (zwM adM adM_tape adM_frameAt adM_field adM_draft adM_given adM_low adM_high adM_packet adM_known cB cI cL sM) H) (hD : va_D A (zwM adM adM_tape adM_frameAt adM_field adM_draft adM_given adM_low adM_high adM_packet adM_known cB cI cL sM)) (hS : va_S A s.heap H locs) (ls : Array Slot) (hl : lv_has ls 6 [(0, .ref adM), (1, .long v1), (3, .int v3)]) : W p l e R s m args below meth c H locs 0 0 (MQ below (q_M_number dC dI cB cI cL A adM adM_tape adM_frameAt adM_field adM_draft adM_given adM_low adM_high adM_packet adM_known a) args s 0 0 A) (F0 m 62 ls [.int s0, .ref adM]) := by
  obtain ⟨hx, hb, hr, hml, hown, hts, hlocks, hRf, hRl⟩ := id X
  unfold g_M_number_62 at hG
  refine lv_iconst (v := (1 : Int32)) hx hb d_M_number_62 (by decide) ?_
  obtain ⟨a_63, hx_63, hG⟩ := zb hG
  have hr_63 := zrunV (p := p) (e := e) (below := below) (meth := meth) (As := [.int s0, .int (1 : Int32)]) (rest := []) (st0 := [.int (1 : Int32), .int s0, .ref adM]) (cells := 0) (slots := 0) X zz hP hD hS hA [0, 1, 2, 3, 4, 5, 6, 7, 8, 9] (by decide) rfl (c_M_fails l dC dI cB cI cL H.size adM adM_tape adM_frameAt adM_field adM_draft adM_given adM_low adM_high adM_packet adM_known sM s0 (1 : Int32) _ hx_63) zy_M_fails zv_M_fails (hts (.methodLink R_M 62 y_M_fails) zin_M_62) hl rfl rfl d_M_number_63 (lv_room (Nat.le_of_ble_eq_true rfl)) rfl rfl ⟨Nat.le_trans (Nat.le_of_ble_eq_true rfl) hRf, Nat.le_trans (Nat.le_of_ble_eq_true rfl) hRl⟩ ⟨Nat.zero_le _, Nat.zero_le _⟩ 0 8 rfl rfl
  refine zcalli (wr := ([] : va_W)) hr_63 hP hD hS hA [0, 1, 2, 3, 4, 5, 6, 7, 8, 9] [] rfl rfl (by decide) (by decide) (fun r_63 u_63 H locs hw_63 hP hD hS => ?_)
  obtain ⟨sM_63, rfl⟩ : ∃ z, z = u_63 := ⟨_, rfl⟩
  subst hw_63
  have hP : va_P (dC, dI) zcl (zwM adM adM_tape adM_frameAt adM_field adM_draft adM_given adM_low adM_high adM_packet adM_known cB cI cL sM_63) H := hP
  have hD : va_D A (zwM adM adM_tape adM_frameAt adM_field adM_draft adM_given adM_low adM_high adM_packet adM_known cB cI cL sM_63) := hD
  have hG : g_M_number_c63 N v1 v3 sM_63 r_63 = some a := hG
  unfold g_M_number_c63 at hG
  refine lv_if_eq (tgt := 71) hx hb d_M_number_66 (by decide) (fun hc => ?_) (fun hc => ?_)
  · have hG := zt hG hc
    refine lv_iload_n hx hb d_M_number_71 rfl (lv_at hl 2 rfl) ?_
    refine lv_if_ne (tgt := 82) hx hb d_M_number_72 (by decide) (fun hc => ?_) (fun hc => ?_)
    · have hG := zf hG hc
      refine lv_iload_n hx hb d_M_number_82 rfl (lv_at hl 2 rfl) ?_
      exact k_M_number_83 X hA zz N sM_63 v1 v3 _ hG adM adM_tape adM_frameAt adM_field adM_draft adM_given adM_low adM_high adM_packet adM_known _ _ hP hD hS _ (lv_sub hl [0, 1] rfl)
    · have hG := zt hG hc
      refine lv_lload_n hx hb d_M_number_75 rfl (lv_at hl 1 rfl) ?_
      obtain ⟨a_76, hx_76, hG⟩ := zb hG
      have hr_76 := zrunS (p := p) (e := e) (below := below) (meth := meth) (As := [.long v1]) (rest := []) (st0 := [.long v1]) (cells := 0) (slots := 0) X zz hP hD hS hA [] (by decide) rfl (c_M_needs l dC dI cB cI cL H.size v1 _ hx_76) zy_M_needs zv_M_needs (hts (.methodLink R_M 84 y_M_needs) zin_M_84) hl rfl rfl d_M_number_76 (lv_room (Nat.le_of_ble_eq_true rfl)) rfl rfl ⟨Nat.le_trans (Nat.le_of_ble_eq_true rfl) hRf, Nat.le_trans (Nat.le_of_ble_eq_true rfl) hRl⟩ ⟨Nat.zero_le _, Nat.zero_le _⟩
      refine zcalli (wr := (zwM adM adM_tape adM_frameAt adM_field adM_draft adM_given adM_low adM_high adM_packet adM_known cB cI cL sM_63)) hr_76 hP hD hS hA [] [0, 1, 2, 3, 4, 5, 6, 7, 8, 9] rfl rfl (by decide) (by decide) (fun r_76 u_76 H locs hw_76 hP hD hS => ?_)
      subst hw_76
      have hP : va_P (dC, dI) zcl (zwM adM adM_tape adM_frameAt adM_field adM_draft adM_given adM_low adM_high adM_packet adM_known cB cI cL sM_63) H := hP
      have hD : va_D A (zwM adM adM_tape adM_frameAt adM_field adM_draft adM_given adM_low adM_high adM_packet adM_known cB cI cL sM_63) := hD
      have hG : g_M_number_c76 N v1 sM_63 r_76 = some a := hG
      unfold g_M_number_c76 at hG
      refine lv_goto (tgt := 83) hx hb d_M_number_79 (by decide) ?_
      exact k_M_number_83 X hA zz N sM_63 v1 r_76 _ hG adM adM_tape adM_frameAt adM_field adM_draft adM_given adM_low adM_high adM_packet adM_known _ _ hP hD hS _ (lv_sub hl [0, 1] rfl)
  · have hG := zf hG hc
    refine lv_iconst (v := (0 : Int32)) hx hb d_M_number_69 (by decide) ?_
    exact W.iret (v := (0 : Int32)) hx hb hr (fun t9 ht9 hW9 => ⟨⟨(0 : Int32), (sM_63), rfl, Option.some.inj hG, by rw [ht9]; exact hP, hD⟩, hS.F ht9⟩) hS.2.2 d_M_number_70
set_option maxRecDepth 100000 in
set_option maxHeartbeats 4000000 in
theorem k_M_number_57 {p : Program} {l : Launch} {e : Env} {R : Room} {s : State} {m : MethodId} {args : Array Value} {below : List Frame} {meth : Method} {c : Code} {dC : Nat → ClassId} {dI : Nat → Nat → Nat} {cB cI cL : ClassId} {A : Nat → Prop} (X : zx p s m args meth c R R_M b_M_number (some .int) 6 2 49) (hA : ∀ q, s.heap.size ≤ q → A q) (zz : zk dC dI cB cI cL A s)  (N : Nat) (sM : zM) (v1 : Int64) (v3 : Int32) (a : Int32 × zM) (hG : g_M_number_57 N sM v1 v3 = some a) (adM adM_tape adM_frameAt adM_field adM_draft adM_given adM_low adM_high adM_packet adM_known : Nat) (H : Heap) (locs : List Loc) (hP : va_P (dC, dI) zcl (zwM adM adM_tape adM_frameAt adM_field adM_draft adM_given adM_low adM_high adM_packet adM_known cB cI cL sM) H) (hD : va_D A (zwM adM adM_tape adM_frameAt adM_field adM_draft adM_given adM_low adM_high adM_packet adM_known cB cI cL sM)) (hS : va_S A s.heap H locs) (ls : Array Slot) (hl : lv_has ls 6 [(0, .ref adM), (1, .long v1), (3, .int v3)]) : W p l e R s m args below meth c H locs 0 0 (MQ below (q_M_number dC dI cB cI cL A adM adM_tape adM_frameAt adM_field adM_draft adM_given adM_low adM_high adM_packet adM_known a) args s 0 0 A) (F0 m 57 ls [.ref adM]) := by
  obtain ⟨hx, hb, hr, hml, hown, hts, hlocks, hRf, hRl⟩ := id X
  unfold g_M_number_57 at hG
  refine lv_iconst (v := (1 : Int32)) hx hb d_M_number_57 (by decide) ?_
  refine lv_goto (tgt := 62) hx hb d_M_number_58 (by decide) ?_
  exact k_M_number_62 X hA zz N sM v1 v3 (1 : Int32) _ hG adM adM_tape adM_frameAt adM_field adM_draft adM_given adM_low adM_high adM_packet adM_known _ _ hP hD hS _ (lv_sub hl [0, 1, 2] rfl)
set_option maxRecDepth 100000 in
set_option maxHeartbeats 4000000 in
theorem k_M_number_61 {p : Program} {l : Launch} {e : Env} {R : Room} {s : State} {m : MethodId} {args : Array Value} {below : List Frame} {meth : Method} {c : Code} {dC : Nat → ClassId} {dI : Nat → Nat → Nat} {cB cI cL : ClassId} {A : Nat → Prop} (X : zx p s m args meth c R R_M b_M_number (some .int) 6 2 49) (hA : ∀ q, s.heap.size ≤ q → A q) (zz : zk dC dI cB cI cL A s)  (N : Nat) (sM : zM) (v1 : Int64) (v3 : Int32) (a : Int32 × zM) (hG : g_M_number_61 N sM v1 v3 = some a) (adM adM_tape adM_frameAt adM_field adM_draft adM_given adM_low adM_high adM_packet adM_known : Nat) (H : Heap) (locs : List Loc) (hP : va_P (dC, dI) zcl (zwM adM adM_tape adM_frameAt adM_field adM_draft adM_given adM_low adM_high adM_packet adM_known cB cI cL sM) H) (hD : va_D A (zwM adM adM_tape adM_frameAt adM_field adM_draft adM_given adM_low adM_high adM_packet adM_known cB cI cL sM)) (hS : va_S A s.heap H locs) (ls : Array Slot) (hl : lv_has ls 6 [(0, .ref adM), (1, .long v1), (3, .int v3)]) : W p l e R s m args below meth c H locs 0 0 (MQ below (q_M_number dC dI cB cI cL A adM adM_tape adM_frameAt adM_field adM_draft adM_given adM_low adM_high adM_packet adM_known a) args s 0 0 A) (F0 m 61 ls [.ref adM]) := by
  obtain ⟨hx, hb, hr, hml, hown, hts, hlocks, hRf, hRl⟩ := id X
  unfold g_M_number_61 at hG
  refine lv_iconst (v := (0 : Int32)) hx hb d_M_number_61 (by decide) ?_
  exact k_M_number_62 X hA zz N sM v1 v3 (0 : Int32) _ hG adM adM_tape adM_frameAt adM_field adM_draft adM_given adM_low adM_high adM_packet adM_known _ _ hP hD hS _ (lv_sub hl [0, 1, 2] rfl)
set_option maxRecDepth 100000 in
set_option maxHeartbeats 4000000 in
theorem k_M_number_30 {p : Program} {l : Launch} {e : Env} {R : Room} {s : State} {m : MethodId} {args : Array Value} {below : List Frame} {meth : Method} {c : Code} {dC : Nat → ClassId} {dI : Nat → Nat → Nat} {cB cI cL : ClassId} {A : Nat → Prop} (X : zx p s m args meth c R R_M b_M_number (some .int) 6 2 49) (hA : ∀ q, s.heap.size ≤ q → A q) (zz : zk dC dI cB cI cL A s)  (N : Nat) (sM : zM) (v1 : Int64) (v3 : Int32) (s0 : Int32) (a : Int32 × zM) (hG : g_M_number_30 N sM v1 v3 s0 = some a) (adM adM_tape adM_frameAt adM_field adM_draft adM_given adM_low adM_high adM_packet adM_known : Nat) (H : Heap) (locs : List Loc) (hP : va_P (dC, dI) zcl (zwM adM adM_tape adM_frameAt adM_field adM_draft adM_given adM_low adM_high adM_packet adM_known cB cI cL sM) H) (hD : va_D A (zwM adM adM_tape adM_frameAt adM_field adM_draft adM_given adM_low adM_high adM_packet adM_known cB cI cL sM)) (hS : va_S A s.heap H locs) (ls : Array Slot) (hl : lv_has ls 6 [(0, .ref adM), (1, .long v1), (3, .int v3)]) : W p l e R s m args below meth c H locs 0 0 (MQ below (q_M_number dC dI cB cI cL A adM adM_tape adM_frameAt adM_field adM_draft adM_given adM_low adM_high adM_packet adM_known a) args s 0 0 A) (F0 m 30 ls [.int s0]) := by
  obtain ⟨hx, hb, hr, hml, hown, hts, hlocks, hRf, hRl⟩ := id X
  unfold g_M_number_30 at hG
  refine lv_istore (lv' := [(4, .int s0), (0, .ref adM), (1, .long v1), (3, .int v3)]) hx hb d_M_number_30 hl (by decide) rfl (fun ls hl => ?_)
  refine lv_aload_n hx hb d_M_number_32 rfl (lv_at hl 1 rfl) ?_
  refine lv_lload_n hx hb d_M_number_33 rfl (lv_at hl 2 rfl) ?_
  obtain ⟨a_34, hx_34, hG⟩ := zb hG
  have hr_34 := zrunS (p := p) (e := e) (below := below) (meth := meth) (As := [.long v1]) (rest := [.ref adM]) (st0 := [.long v1, .ref adM]) (cells := 0) (slots := 0) X zz hP hD hS hA [] (by decide) rfl (c_M_isNumber l dC dI cB cI cL H.size v1 _ hx_34) zy_M_isNumber zv_M_isNumber (hts (.methodLink R_M 80 y_M_isNumber) zin_M_80) hl rfl rfl d_M_number_34 (lv_room (Nat.le_of_ble_eq_true rfl)) rfl rfl ⟨Nat.le_trans (Nat.le_of_ble_eq_true rfl) hRf, Nat.le_trans (Nat.le_of_ble_eq_true rfl) hRl⟩ ⟨Nat.zero_le _, Nat.zero_le _⟩
  refine zcalli (wr := (zwM adM adM_tape adM_frameAt adM_field adM_draft adM_given adM_low adM_high adM_packet adM_known cB cI cL sM)) hr_34 hP hD hS hA [] [0, 1, 2, 3, 4, 5, 6, 7, 8, 9] rfl rfl (by decide) (by decide) (fun r_34 u_34 H locs hw_34 hP hD hS => ?_)
  subst hw_34
  have hP : va_P (dC, dI) zcl (zwM adM adM_tape adM_frameAt adM_field adM_draft adM_given adM_low adM_high adM_packet adM_known cB cI cL sM) H := hP
  have hD : va_D A (zwM adM adM_tape adM_frameAt adM_field adM_draft adM_given adM_low adM_high adM_packet adM_known cB cI cL sM) := hD
  have hG : g_M_number_c34 N sM v1 v3 s0 r_34 = some a := hG
  unfold g_M_number_c34 at hG
  refine lv_if_eq (tgt := 57) hx hb d_M_number_37 (by decide) (fun hc => ?_) (fun hc => ?_)
  · have hG := zt hG hc
    exact k_M_number_57 X hA zz N sM v1 v3 _ hG adM adM_tape adM_frameAt adM_field adM_draft adM_given adM_low adM_high adM_packet adM_known _ _ hP hD hS _ (lv_sub hl [1, 2, 3] rfl)
  · have hG := zf hG hc
    refine lv_iload hx hb d_M_number_40 (lv_at hl 0 rfl) ?_
    refine lv_if_eq (tgt := 57) hx hb d_M_number_42 (by decide) (fun hc => ?_) (fun hc => ?_)
    · have hG := zt hG hc
      exact k_M_number_57 X hA zz N sM v1 v3 _ hG adM adM_tape adM_frameAt adM_field adM_draft adM_given adM_low adM_high adM_packet adM_known _ _ hP hD hS _ (lv_sub hl [1, 2, 3] rfl)
    · have hG := zf hG hc
      refine lv_iload_n hx hb d_M_number_45 rfl (lv_at hl 3 rfl) ?_
      refine lv_if_le (tgt := 61) hx hb d_M_number_46 (by decide) (fun hc => ?_) (fun hc => ?_)
      · have hG := zt hG hc
        exact k_M_number_61 X hA zz N sM v1 v3 _ hG adM adM_tape adM_frameAt adM_field adM_draft adM_given adM_low adM_high adM_packet adM_known _ _ hP hD hS _ (lv_sub hl [1, 2, 3] rfl)
      · have hG := zf hG hc
        refine lv_lload_n hx hb d_M_number_49 rfl (lv_at hl 2 rfl) ?_
        obtain ⟨a_50, hx_50, hG⟩ := zb hG
        have hr_50 := zrunS (p := p) (e := e) (below := below) (meth := meth) (As := [.long v1]) (rest := [.ref adM]) (st0 := [.long v1, .ref adM]) (cells := 0) (slots := 0) X zz hP hD hS hA [] (by decide) rfl (c_M_needs l dC dI cB cI cL H.size v1 _ hx_50) zy_M_needs zv_M_needs (hts (.methodLink R_M 84 y_M_needs) zin_M_84) hl rfl rfl d_M_number_50 (lv_room (Nat.le_of_ble_eq_true rfl)) rfl rfl ⟨Nat.le_trans (Nat.le_of_ble_eq_true rfl) hRf, Nat.le_trans (Nat.le_of_ble_eq_true rfl) hRl⟩ ⟨Nat.zero_le _, Nat.zero_le _⟩
        refine zcalli (wr := (zwM adM adM_tape adM_frameAt adM_field adM_draft adM_given adM_low adM_high adM_packet adM_known cB cI cL sM)) hr_50 hP hD hS hA [] [0, 1, 2, 3, 4, 5, 6, 7, 8, 9] rfl rfl (by decide) (by decide) (fun r_50 u_50 H locs hw_50 hP hD hS => ?_)
        subst hw_50
        have hP : va_P (dC, dI) zcl (zwM adM adM_tape adM_frameAt adM_field adM_draft adM_given adM_low adM_high adM_packet adM_known cB cI cL sM) H := hP
        have hD : va_D A (zwM adM adM_tape adM_frameAt adM_field adM_draft adM_given adM_low adM_high adM_packet adM_known cB cI cL sM) := hD
        have hG : g_M_number_c50 N sM v1 v3 r_50 = some a := hG
        unfold g_M_number_c50 at hG
        refine lv_iload_n hx hb d_M_number_53 rfl (lv_at hl 3 rfl) ?_
        refine lv_icmp_le (tgt := 61) hx hb d_M_number_54 (by decide) (fun hc => ?_) (fun hc => ?_)
        · have hG := zt hG hc
          exact k_M_number_61 X hA zz N sM v1 v3 _ hG adM adM_tape adM_frameAt adM_field adM_draft adM_given adM_low adM_high adM_packet adM_known _ _ hP hD hS _ (lv_sub hl [1, 2, 3] rfl)
        · have hG := zf hG hc
          exact k_M_number_57 X hA zz N sM v1 v3 _ hG adM adM_tape adM_frameAt adM_field adM_draft adM_given adM_low adM_high adM_packet adM_known _ _ hP hD hS _ (lv_sub hl [1, 2, 3] rfl)
set_option maxRecDepth 100000 in
set_option maxHeartbeats 4000000 in
theorem k_M_number_25 {p : Program} {l : Launch} {e : Env} {R : Room} {s : State} {m : MethodId} {args : Array Value} {below : List Frame} {meth : Method} {c : Code} {dC : Nat → ClassId} {dI : Nat → Nat → Nat} {cB cI cL : ClassId} {A : Nat → Prop} (X : zx p s m args meth c R R_M b_M_number (some .int) 6 2 49) (hA : ∀ q, s.heap.size ≤ q → A q) (zz : zk dC dI cB cI cL A s)  (N : Nat) (sM : zM) (v1 : Int64) (v3 : Int32) (a : Int32 × zM) (hG : g_M_number_25 N sM v1 v3 = some a) (adM adM_tape adM_frameAt adM_field adM_draft adM_given adM_low adM_high adM_packet adM_known : Nat) (H : Heap) (locs : List Loc) (hP : va_P (dC, dI) zcl (zwM adM adM_tape adM_frameAt adM_field adM_draft adM_given adM_low adM_high adM_packet adM_known cB cI cL sM) H) (hD : va_D A (zwM adM adM_tape adM_frameAt adM_field adM_draft adM_given adM_low adM_high adM_packet adM_known cB cI cL sM)) (hS : va_S A s.heap H locs) (ls : Array Slot) (hl : lv_has ls 6 [(0, .ref adM), (1, .long v1), (3, .int v3)]) : W p l e R s m args below meth c H locs 0 0 (MQ below (q_M_number dC dI cB cI cL A adM adM_tape adM_frameAt adM_field adM_draft adM_given adM_low adM_high adM_packet adM_known a) args s 0 0 A) (F0 m 25 ls []) := by
  obtain ⟨hx, hb, hr, hml, hown, hts, hlocks, hRf, hRl⟩ := id X
  unfold g_M_number_25 at hG
  refine lv_iconst (v := (1 : Int32)) hx hb d_M_number_25 (by decide) ?_
  refine lv_goto (tgt := 30) hx hb d_M_number_26 (by decide) ?_
  exact k_M_number_30 X hA zz N sM v1 v3 (1 : Int32) _ hG adM adM_tape adM_frameAt adM_field adM_draft adM_given adM_low adM_high adM_packet adM_known _ _ hP hD hS _ (lv_sub hl [0, 1, 2] rfl)
set_option maxRecDepth 100000 in
set_option maxHeartbeats 4000000 in
theorem k_M_number_0 {p : Program} {l : Launch} {e : Env} {R : Room} {s : State} {m : MethodId} {args : Array Value} {below : List Frame} {meth : Method} {c : Code} {dC : Nat → ClassId} {dI : Nat → Nat → Nat} {cB cI cL : ClassId} {A : Nat → Prop} (X : zx p s m args meth c R R_M b_M_number (some .int) 6 2 49) (hA : ∀ q, s.heap.size ≤ q → A q) (zz : zk dC dI cB cI cL A s)  (N : Nat) (sM : zM) (v1 : Int64) (v3 : Int32) (a : Int32 × zM) (hG : g_M_number N sM v1 v3 = some a) (adM adM_tape adM_frameAt adM_field adM_draft adM_given adM_low adM_high adM_packet adM_known : Nat) (H : Heap) (locs : List Loc) (hP : va_P (dC, dI) zcl (zwM adM adM_tape adM_frameAt adM_field adM_draft adM_given adM_low adM_high adM_packet adM_known cB cI cL sM) H) (hD : va_D A (zwM adM adM_tape adM_frameAt adM_field adM_draft adM_given adM_low adM_high adM_packet adM_known cB cI cL sM)) (hS : va_S A s.heap H locs) (ls : Array Slot) (hl : lv_has ls 6 [(0, .ref adM), (1, .long v1), (3, .int v3)]) : W p l e R s m args below meth c H locs 0 0 (MQ below (q_M_number dC dI cB cI cL A adM adM_tape adM_frameAt adM_field adM_draft adM_given adM_low adM_high adM_packet adM_known a) args s 0 0 A) (F0 m 0 ls []) := by
  obtain ⟨hx, hb, hr, hml, hown, hts, hlocks, hRf, hRl⟩ := id X
  unfold g_M_number at hG
  refine lv_iload_n hx hb d_M_number_0 rfl (lv_at hl 2 rfl) ?_
  refine lv_if_eq (tgt := 25) hx hb d_M_number_1 (by decide) (fun hc => ?_) (fun hc => ?_)
  · have hG := zt hG hc
    exact k_M_number_25 X hA zz N sM v1 v3 _ hG adM adM_tape adM_frameAt adM_field adM_draft adM_given adM_low adM_high adM_packet adM_known _ _ hP hD hS _ (lv_sub hl [0, 1, 2] rfl)
  · have hG := zf hG hc
    refine lv_iload_n hx hb d_M_number_4 rfl (lv_at hl 2 rfl) ?_
    refine lv_iconst (v := (1 : Int32)) hx hb d_M_number_5 (by decide) ?_
    refine lv_icmp_eq (tgt := 25) hx hb d_M_number_6 (by decide) (fun hc => ?_) (fun hc => ?_)
    · have hG := zt hG hc
      exact k_M_number_25 X hA zz N sM v1 v3 _ hG adM adM_tape adM_frameAt adM_field adM_draft adM_given adM_low adM_high adM_packet adM_known _ _ hP hD hS _ (lv_sub hl [0, 1, 2] rfl)
    · have hG := zf hG hc
      refine lv_iload_n hx hb d_M_number_9 rfl (lv_at hl 2 rfl) ?_
      refine lv_iconst (v := (2 : Int32)) hx hb d_M_number_10 (by decide) ?_
      refine lv_icmp_eq (tgt := 25) hx hb d_M_number_11 (by decide) (fun hc => ?_) (fun hc => ?_)
      · have hG := zt hG hc
        exact k_M_number_25 X hA zz N sM v1 v3 _ hG adM adM_tape adM_frameAt adM_field adM_draft adM_given adM_low adM_high adM_packet adM_known _ _ hP hD hS _ (lv_sub hl [0, 1, 2] rfl)
      · have hG := zf hG hc
        refine lv_iload_n hx hb d_M_number_14 rfl (lv_at hl 2 rfl) ?_
        refine lv_iconst (v := (4 : Int32)) hx hb d_M_number_15 (by decide) ?_
        refine lv_icmp_eq (tgt := 25) hx hb d_M_number_16 (by decide) (fun hc => ?_) (fun hc => ?_)
        · have hG := zt hG hc
          exact k_M_number_25 X hA zz N sM v1 v3 _ hG adM adM_tape adM_frameAt adM_field adM_draft adM_given adM_low adM_high adM_packet adM_known _ _ hP hD hS _ (lv_sub hl [0, 1, 2] rfl)
        · have hG := zf hG hc
          refine lv_iload_n hx hb d_M_number_19 rfl (lv_at hl 2 rfl) ?_
          refine lv_bipush (v := (8 : Int32)) hx hb d_M_number_20 (by decide) ?_
          refine lv_icmp_ne (tgt := 29) hx hb d_M_number_22 (by decide) (fun hc => ?_) (fun hc => ?_)
          · have hG := zf hG hc
            refine lv_iconst (v := (0 : Int32)) hx hb d_M_number_29 (by decide) ?_
            exact k_M_number_30 X hA zz N sM v1 v3 (0 : Int32) _ hG adM adM_tape adM_frameAt adM_field adM_draft adM_given adM_low adM_high adM_packet adM_known _ _ hP hD hS _ (lv_sub hl [0, 1, 2] rfl)
          · have hG := zt hG hc
            exact k_M_number_25 X hA zz N sM v1 v3 _ hG adM adM_tape adM_frameAt adM_field adM_draft adM_given adM_low adM_high adM_packet adM_known _ _ hP hD hS _ (lv_sub hl [0, 1, 2] rfl)
set_option maxRecDepth 100000 in
set_option maxHeartbeats 4000000 in
theorem c_M_number (l : Launch) (dC : Nat → ClassId) (dI : Nat → Nat → Nat) (cB cI cL : ClassId) (sz : Nat) (adM adM_tape adM_frameAt adM_field adM_draft adM_given adM_low adM_high adM_packet adM_known : Nat) (N : Nat) (sM : zM) (v1 : Int64) (v3 : Int32) (a : Int32 × zM) (hG : g_M_number N sM v1 v3 = some a) : Met l y_M_number (zw y_M_number b_M_number 6 (some .int)) ({ frames := 2, cells := 0, slots := 0, locals := 49 }) (va_Pc [.ref adM, .long v1, .int v3] (zpre dC dI cB cI cL sz (zwM adM adM_tape adM_frameAt adM_field adM_draft adM_given adM_low adM_high adM_packet adM_known cB cI cL sM))) (q_M_number dC dI cB cI cL (va_A (zwM adM adM_tape adM_frameAt adM_field adM_draft adM_given adM_low adM_high adM_packet adM_known cB cI cL sM) sz) adM adM_tape adM_frameAt adM_field adM_draft adM_given adM_low adM_high adM_packet adM_known a) 0 0 (va_A (zwM adM adM_tape adM_frameAt adM_field adM_draft adM_given adM_low adM_high adM_packet adM_known cB cI cL sM) sz) := by
  refine Met.ofW (cc := b_M_number) (maxL := 6) (ret := (some .int)) (by decide) rfl ?_
  intro p e s m args below meth c s₁ B hml hv
  obtain ⟨rfl, hsz, hP, zz, hD0⟩ := hv
  subst hsz
  have X := zx_of (F := 2) (L := 49) B hml (Nat.le_refl _) (Nat.le_refl _)
  have hD := hD0.self (sz := s.heap.size)
  have hA : ∀ q : Nat, s.heap.size ≤ q → va_A (zwM adM adM_tape adM_frameAt adM_field adM_draft adM_given adM_low adM_high adM_packet adM_known cB cI cL sM) s.heap.size q := fun q h => Or.inr h
  have hl := lv_entry ([.ref adM, .long v1, .int v3]) (n := 6) (Nat.le_of_ble_eq_true rfl)
  rw [lg_entry_eq]
  generalize (lg_sl ([.ref adM, .long v1, .int v3]) ++ List.replicate (6 - (lg_sl ([.ref adM, .long v1, .int v3])).length) Slot.unset).toArray = ls at hl ⊢
  exact k_M_number_0 X hA zz N sM v1 v3 a hG adM adM_tape adM_frameAt adM_field adM_draft adM_given adM_low adM_high adM_packet adM_known _ _ hP hD va_S.rf ls hl
noncomputable def g_M_begin_w17 (sM_17 : zM) : Option (zM) := some (sM_17)
noncomputable def g_M_begin_w12 (sM_12 : zM) : Option (zM) := g_M_begin_w17 (zM_packets' sM_12 (0 : Int32))
noncomputable def g_M_begin_w7 (sM_7 : zM) : Option (zM) := g_M_begin_w12 (zM_frames' sM_7 (0 : Int32))
noncomputable def g_M_begin_w2 (sM_2 : zM) : Option (zM) := g_M_begin_w7 (zM_faultAt' sM_2 (-1 : Int32))
noncomputable def g_M_begin (sM : zM) : Option (zM) := g_M_begin_w2 (zM_fault' sM (0 : Int32))
def q_M_begin (dC : Nat → ClassId) (dI : Nat → Nat → Nat) (cB cI cL : ClassId) (A : Nat → Prop) (adM : Nat) (adM_tape : Nat) (adM_frameAt : Nat) (adM_field : Nat) (adM_draft : Nat) (adM_given : Nat) (adM_low : Nat) (adM_high : Nat) (adM_packet : Nat) (adM_known : Nat) (a : zM) : Array Value → State → Outcome → State → Prop := va_Qv (fun (u : zM) => (u) = a) (fun u U => va_P (dC, dI) zcl (zwM adM adM_tape adM_frameAt adM_field adM_draft adM_given adM_low adM_high adM_packet adM_known cB cI cL u) U.heap ∧ va_D A (zwM adM adM_tape adM_frameAt adM_field adM_draft adM_given adM_low adM_high adM_packet adM_known cB cI cL u)) A
set_option maxRecDepth 100000 in
set_option maxHeartbeats 4000000 in
theorem k_M_begin_0 {p : Program} {l : Launch} {e : Env} {R : Room} {s : State} {m : MethodId} {args : Array Value} {below : List Frame} {meth : Method} {c : Code} {dC : Nat → ClassId} {dI : Nat → Nat → Nat} {cB cI cL : ClassId} {A : Nat → Prop} (X : zx p s m args meth c R R_M b_M_begin none 1 0 0) (hA : ∀ q, s.heap.size ≤ q → A q) (zz : zk dC dI cB cI cL A s)  (sM : zM) (a : zM) (hG : g_M_begin sM = some a) (adM adM_tape adM_frameAt adM_field adM_draft adM_given adM_low adM_high adM_packet adM_known : Nat) (H : Heap) (locs : List Loc) (hP : va_P (dC, dI) zcl (zwM adM adM_tape adM_frameAt adM_field adM_draft adM_given adM_low adM_high adM_packet adM_known cB cI cL sM) H) (hD : va_D A (zwM adM adM_tape adM_frameAt adM_field adM_draft adM_given adM_low adM_high adM_packet adM_known cB cI cL sM)) (hS : va_S A s.heap H locs) (ls : Array Slot) (hl : lv_has ls 1 [(0, .ref adM)]) : W p l e R s m args below meth c H locs 0 0 (MQ below (q_M_begin dC dI cB cI cL A adM adM_tape adM_frameAt adM_field adM_draft adM_given adM_low adM_high adM_packet adM_known a) args s 0 0 A) (F0 m 0 ls []) := by
  obtain ⟨hx, hb, hr, hml, hown, hts, hlocks, hRf, hRl⟩ := id X
  unfold g_M_begin at hG
  refine lv_aload_n hx hb d_M_begin_0 rfl (lv_at hl 0 rfl) ?_
  refine lv_iconst (v := (0 : Int32)) hx hb d_M_begin_1 (by decide) ?_
  refine va_put (D := (dC, dI)) (ci := 8) (v := .int (0 : Int32)) (ty := .int) (C := R_M) (T := F_M) (N := 26) hx hb hts zi_M zty_M zty_M_ok znm_M hown zz.1 hP hD hS 0 rfl rfl 3 (by decide) (hts (.fieldLink R_M 91 "WireCodecModel" "fault" "I") zin_M_91) (fun _ h9 => h9) rfl (by decide +kernel) rfl rfl (Nat.le_of_ble_eq_true rfl) d_M_begin_2 (fun H locs hP hD hS => ?_)
  have hP := zp_M_fault hP
  have hD := zd_M_fault hD
  have hG : g_M_begin_w2 (zM_fault' sM (0 : Int32)) = some a := hG
  generalize zM_fault' sM (0 : Int32) = sM_2 at hP hD hG
  unfold g_M_begin_w2 at hG
  refine lv_aload_n hx hb d_M_begin_5 rfl (lv_at hl 0 rfl) ?_
  refine lv_iconst (v := (-1 : Int32)) hx hb d_M_begin_6 (by decide) ?_
  refine va_put (D := (dC, dI)) (ci := 8) (v := .int (-1 : Int32)) (ty := .int) (C := R_M) (T := F_M) (N := 26) hx hb hts zi_M zty_M zty_M_ok znm_M hown zz.1 hP hD hS 0 rfl rfl 4 (by decide) (hts (.fieldLink R_M 14 "WireCodecModel" "faultAt" "I") zin_M_14) (fun _ h9 => h9) rfl (by decide +kernel) rfl rfl (Nat.le_of_ble_eq_true rfl) d_M_begin_7 (fun H locs hP hD hS => ?_)
  have hP := zp_M_faultAt hP
  have hD := zd_M_faultAt hD
  have hG : g_M_begin_w7 (zM_faultAt' sM_2 (-1 : Int32)) = some a := hG
  generalize zM_faultAt' sM_2 (-1 : Int32) = sM_7 at hP hD hG
  unfold g_M_begin_w7 at hG
  refine lv_aload_n hx hb d_M_begin_10 rfl (lv_at hl 0 rfl) ?_
  refine lv_iconst (v := (0 : Int32)) hx hb d_M_begin_11 (by decide) ?_
  refine va_put (D := (dC, dI)) (ci := 8) (v := .int (0 : Int32)) (ty := .int) (C := R_M) (T := F_M) (N := 26) hx hb hts zi_M zty_M zty_M_ok znm_M hown zz.1 hP hD hS 0 rfl rfl 5 (by decide) (hts (.fieldLink R_M 94 "WireCodecModel" "frames" "I") zin_M_94) (fun _ h9 => h9) rfl (by decide +kernel) rfl rfl (Nat.le_of_ble_eq_true rfl) d_M_begin_12 (fun H locs hP hD hS => ?_)
  have hP := zp_M_frames hP
  have hD := zd_M_frames hD
  have hG : g_M_begin_w12 (zM_frames' sM_7 (0 : Int32)) = some a := hG
  generalize zM_frames' sM_7 (0 : Int32) = sM_12 at hP hD hG
  unfold g_M_begin_w12 at hG
  refine lv_aload_n hx hb d_M_begin_15 rfl (lv_at hl 0 rfl) ?_
  refine lv_iconst (v := (0 : Int32)) hx hb d_M_begin_16 (by decide) ?_
  refine va_put (D := (dC, dI)) (ci := 8) (v := .int (0 : Int32)) (ty := .int) (C := R_M) (T := F_M) (N := 26) hx hb hts zi_M zty_M zty_M_ok znm_M hown zz.1 hP hD hS 0 rfl rfl 23 (by decide) (hts (.fieldLink R_M 97 "WireCodecModel" "packets" "I") zin_M_97) (fun _ h9 => h9) rfl (by decide +kernel) rfl rfl (Nat.le_of_ble_eq_true rfl) d_M_begin_17 (fun H locs hP hD hS => ?_)
  have hP := zp_M_packets hP
  have hD := zd_M_packets hD
  have hG : g_M_begin_w17 (zM_packets' sM_12 (0 : Int32)) = some a := hG
  generalize zM_packets' sM_12 (0 : Int32) = sM_17 at hP hD hG
  unfold g_M_begin_w17 at hG
  exact W.vret hx hb hr (fun t9 ht9 hW9 => ⟨⟨(sM_17), rfl, Option.some.inj hG, by rw [ht9]; exact hP, hD⟩, hS.F ht9⟩) hS.2.2 d_M_begin_20
set_option maxRecDepth 100000 in
set_option maxHeartbeats 4000000 in
theorem c_M_begin (l : Launch) (dC : Nat → ClassId) (dI : Nat → Nat → Nat) (cB cI cL : ClassId) (sz : Nat) (adM adM_tape adM_frameAt adM_field adM_draft adM_given adM_low adM_high adM_packet adM_known : Nat) (sM : zM) (a : zM) (hG : g_M_begin sM = some a) : Met l y_M_begin (zw y_M_begin b_M_begin 1 none) ({ frames := 0, cells := 0, slots := 0, locals := 0 }) (va_Pc [.ref adM] (zpre dC dI cB cI cL sz (zwM adM adM_tape adM_frameAt adM_field adM_draft adM_given adM_low adM_high adM_packet adM_known cB cI cL sM))) (q_M_begin dC dI cB cI cL (va_A (zwM adM adM_tape adM_frameAt adM_field adM_draft adM_given adM_low adM_high adM_packet adM_known cB cI cL sM) sz) adM adM_tape adM_frameAt adM_field adM_draft adM_given adM_low adM_high adM_packet adM_known a) 0 0 (va_A (zwM adM adM_tape adM_frameAt adM_field adM_draft adM_given adM_low adM_high adM_packet adM_known cB cI cL sM) sz) := by
  refine Met.ofW (cc := b_M_begin) (maxL := 1) (ret := none) (by decide) rfl ?_
  intro p e s m args below meth c s₁ B hml hv
  obtain ⟨rfl, hsz, hP, zz, hD0⟩ := hv
  subst hsz
  have X := zx_of (F := 0) (L := 0) B hml (Nat.le_refl _) (Nat.le_refl _)
  have hD := hD0.self (sz := s.heap.size)
  have hA : ∀ q : Nat, s.heap.size ≤ q → va_A (zwM adM adM_tape adM_frameAt adM_field adM_draft adM_given adM_low adM_high adM_packet adM_known cB cI cL sM) s.heap.size q := fun q h => Or.inr h
  have hl := lv_entry ([.ref adM]) (n := 1) (Nat.le_of_ble_eq_true rfl)
  rw [lg_entry_eq]
  generalize (lg_sl ([.ref adM]) ++ List.replicate (1 - (lg_sl ([.ref adM])).length) Slot.unset).toArray = ls at hl ⊢
  exact k_M_begin_0 X hA zz sM a hG adM adM_tape adM_frameAt adM_field adM_draft adM_given adM_low adM_high adM_packet adM_known _ _ hP hD va_S.rf ls hl
noncomputable def g_M_size_w2 (sM_2 : zM) : Option (Int32 × zM) := some (zM_size sM_2, sM_2)
noncomputable def g_M_size (sM : zM) : Option (Int32 × zM) := g_M_size_w2 (zM_thrown' sM (0 : Int32))
def q_M_size (dC : Nat → ClassId) (dI : Nat → Nat → Nat) (cB cI cL : ClassId) (A : Nat → Prop) (adM : Nat) (adM_tape : Nat) (adM_frameAt : Nat) (adM_field : Nat) (adM_draft : Nat) (adM_given : Nat) (adM_low : Nat) (adM_high : Nat) (adM_packet : Nat) (adM_known : Nat) (a : Int32 × zM) : Array Value → State → Outcome → State → Prop := va_Qi (fun (r : Int32) (u : zM) => (r, u) = a) (fun u U => va_P (dC, dI) zcl (zwM adM adM_tape adM_frameAt adM_field adM_draft adM_given adM_low adM_high adM_packet adM_known cB cI cL u) U.heap ∧ va_D A (zwM adM adM_tape adM_frameAt adM_field adM_draft adM_given adM_low adM_high adM_packet adM_known cB cI cL u)) A
set_option maxRecDepth 100000 in
set_option maxHeartbeats 4000000 in
theorem k_M_size_0 {p : Program} {l : Launch} {e : Env} {R : Room} {s : State} {m : MethodId} {args : Array Value} {below : List Frame} {meth : Method} {c : Code} {dC : Nat → ClassId} {dI : Nat → Nat → Nat} {cB cI cL : ClassId} {A : Nat → Prop} (X : zx p s m args meth c R R_M b_M_size (some .int) 1 0 0) (hA : ∀ q, s.heap.size ≤ q → A q) (zz : zk dC dI cB cI cL A s)  (sM : zM) (a : Int32 × zM) (hG : g_M_size sM = some a) (adM adM_tape adM_frameAt adM_field adM_draft adM_given adM_low adM_high adM_packet adM_known : Nat) (H : Heap) (locs : List Loc) (hP : va_P (dC, dI) zcl (zwM adM adM_tape adM_frameAt adM_field adM_draft adM_given adM_low adM_high adM_packet adM_known cB cI cL sM) H) (hD : va_D A (zwM adM adM_tape adM_frameAt adM_field adM_draft adM_given adM_low adM_high adM_packet adM_known cB cI cL sM)) (hS : va_S A s.heap H locs) (ls : Array Slot) (hl : lv_has ls 1 [(0, .ref adM)]) : W p l e R s m args below meth c H locs 0 0 (MQ below (q_M_size dC dI cB cI cL A adM adM_tape adM_frameAt adM_field adM_draft adM_given adM_low adM_high adM_packet adM_known a) args s 0 0 A) (F0 m 0 ls []) := by
  obtain ⟨hx, hb, hr, hml, hown, hts, hlocks, hRf, hRl⟩ := id X
  unfold g_M_size at hG
  refine lv_aload_n hx hb d_M_size_0 rfl (lv_at hl 0 rfl) ?_
  refine lv_iconst (v := (0 : Int32)) hx hb d_M_size_1 (by decide) ?_
  refine va_put (D := (dC, dI)) (ci := 8) (v := .int (0 : Int32)) (ty := .int) (C := R_M) (T := F_M) (N := 26) hx hb hts zi_M zty_M zty_M_ok znm_M hown zz.1 hP hD hS 0 rfl rfl 0 (by decide) (hts (.fieldLink R_M 48 "WireCodecModel" "thrown" "I") zin_M_48) (fun _ h9 => h9) rfl (by decide +kernel) rfl rfl (Nat.le_of_ble_eq_true rfl) d_M_size_2 (fun H locs hP hD hS => ?_)
  have hP := zp_M_thrown hP
  have hD := zd_M_thrown hD
  have hG : g_M_size_w2 (zM_thrown' sM (0 : Int32)) = some a := hG
  generalize zM_thrown' sM (0 : Int32) = sM_2 at hP hD hG
  unfold g_M_size_w2 at hG
  refine lv_aload_n hx hb d_M_size_5 rfl (lv_at hl 0 rfl) ?_
  refine va_get (D := (dC, dI)) (ci := 8) (v := .int (zM_size sM_2)) (C := R_M) (T := F_M) (N := 26) hx hb hts zi_M hown zz.1 hP 0 rfl rfl 2 (by decide) (hts (.fieldLink R_M 57 "WireCodecModel" "size" "I") zin_M_57) (fun _ h9 => h9) rfl d_M_size_6 ?_
  exact W.iret (v := zM_size sM_2) hx hb hr (fun t9 ht9 hW9 => ⟨⟨zM_size sM_2, (sM_2), rfl, Option.some.inj hG, by rw [ht9]; exact hP, hD⟩, hS.F ht9⟩) hS.2.2 d_M_size_9
set_option maxRecDepth 100000 in
set_option maxHeartbeats 4000000 in
theorem c_M_size (l : Launch) (dC : Nat → ClassId) (dI : Nat → Nat → Nat) (cB cI cL : ClassId) (sz : Nat) (adM adM_tape adM_frameAt adM_field adM_draft adM_given adM_low adM_high adM_packet adM_known : Nat) (sM : zM) (a : Int32 × zM) (hG : g_M_size sM = some a) : Met l y_M_size (zw y_M_size b_M_size 1 (some .int)) ({ frames := 0, cells := 0, slots := 0, locals := 0 }) (va_Pc [.ref adM] (zpre dC dI cB cI cL sz (zwM adM adM_tape adM_frameAt adM_field adM_draft adM_given adM_low adM_high adM_packet adM_known cB cI cL sM))) (q_M_size dC dI cB cI cL (va_A (zwM adM adM_tape adM_frameAt adM_field adM_draft adM_given adM_low adM_high adM_packet adM_known cB cI cL sM) sz) adM adM_tape adM_frameAt adM_field adM_draft adM_given adM_low adM_high adM_packet adM_known a) 0 0 (va_A (zwM adM adM_tape adM_frameAt adM_field adM_draft adM_given adM_low adM_high adM_packet adM_known cB cI cL sM) sz) := by
  refine Met.ofW (cc := b_M_size) (maxL := 1) (ret := (some .int)) (by decide) rfl ?_
  intro p e s m args below meth c s₁ B hml hv
  obtain ⟨rfl, hsz, hP, zz, hD0⟩ := hv
  subst hsz
  have X := zx_of (F := 0) (L := 0) B hml (Nat.le_refl _) (Nat.le_refl _)
  have hD := hD0.self (sz := s.heap.size)
  have hA : ∀ q : Nat, s.heap.size ≤ q → va_A (zwM adM adM_tape adM_frameAt adM_field adM_draft adM_given adM_low adM_high adM_packet adM_known cB cI cL sM) s.heap.size q := fun q h => Or.inr h
  have hl := lv_entry ([.ref adM]) (n := 1) (Nat.le_of_ble_eq_true rfl)
  rw [lg_entry_eq]
  generalize (lg_sl ([.ref adM]) ++ List.replicate (1 - (lg_sl ([.ref adM])).length) Slot.unset).toArray = ls at hl ⊢
  exact k_M_size_0 X hA zz sM a hG adM adM_tape adM_frameAt adM_field adM_draft adM_given adM_low adM_high adM_packet adM_known _ _ hP hD va_S.rf ls hl
noncomputable def g_M_at_38 (sM : zM) (s0 : Int32) : Option (Int32 × zM) := some (s0, sM)
noncomputable def g_M_at_c35 (sM_23 : zM) (r_35 : Int32) : Option (Int32 × zM) := g_M_at_38 sM_23 r_35
noncomputable def g_M_at_c23 (v1 : Int32) (sM_23 : zM) (r_23 : Int32) : Option (Int32 × zM) := if r_23 = (0 : Int32) then ((g_M_byteAt sM_23 v1).bind (fun a => g_M_at_c35 sM_23 a)) else (g_M_at_38 sM_23 (0 : Int32))
noncomputable def g_M_at_22 (sM : zM) (v1 : Int32) (s0 : Int32) : Option (Int32 × zM) := (g_M_fails sM s0 (1 : Int32)).bind (fun a => g_M_at_c23 v1 a.2 a.1)
noncomputable def g_M_at_c11 (sM : zM) (v1 : Int32) (r_11 : Int32) : Option (Int32 × zM) := if r_11 = (0 : Int32) then (g_M_at_22 sM v1 (1 : Int32)) else (g_M_at_22 sM v1 (0 : Int32))
noncomputable def g_M_at (sM : zM) (v1 : Int32) : Option (Int32 × zM) := (g_M_within v1.toInt64 (0 : Int64) (((zM_size sM).toInt64) - (1 : Int64))).bind (fun a => g_M_at_c11 sM v1 a)
def q_M_at (dC : Nat → ClassId) (dI : Nat → Nat → Nat) (cB cI cL : ClassId) (A : Nat → Prop) (adM : Nat) (adM_tape : Nat) (adM_frameAt : Nat) (adM_field : Nat) (adM_draft : Nat) (adM_given : Nat) (adM_low : Nat) (adM_high : Nat) (adM_packet : Nat) (adM_known : Nat) (a : Int32 × zM) : Array Value → State → Outcome → State → Prop := va_Qi (fun (r : Int32) (u : zM) => (r, u) = a) (fun u U => va_P (dC, dI) zcl (zwM adM adM_tape adM_frameAt adM_field adM_draft adM_given adM_low adM_high adM_packet adM_known cB cI cL u) U.heap ∧ va_D A (zwM adM adM_tape adM_frameAt adM_field adM_draft adM_given adM_low adM_high adM_packet adM_known cB cI cL u)) A
set_option maxRecDepth 100000 in
set_option maxHeartbeats 4000000 in
theorem k_M_at_38 {p : Program} {l : Launch} {e : Env} {R : Room} {s : State} {m : MethodId} {args : Array Value} {below : List Frame} {meth : Method} {c : Code} {dC : Nat → ClassId} {dI : Nat → Nat → Nat} {cB cI cL : ClassId} {A : Nat → Prop} (X : zx p s m args meth c R R_M b_M_at (some .int) 2 1 25) (hA : ∀ q, s.heap.size ≤ q → A q) (zz : zk dC dI cB cI cL A s)  (sM : zM) (s0 : Int32) (a : Int32 × zM) (hG : g_M_at_38 sM s0 = some a) (adM adM_tape adM_frameAt adM_field adM_draft adM_given adM_low adM_high adM_packet adM_known : Nat) (H : Heap) (locs : List Loc) (hP : va_P (dC, dI) zcl (zwM adM adM_tape adM_frameAt adM_field adM_draft adM_given adM_low adM_high adM_packet adM_known cB cI cL sM) H) (hD : va_D A (zwM adM adM_tape adM_frameAt adM_field adM_draft adM_given adM_low adM_high adM_packet adM_known cB cI cL sM)) (hS : va_S A s.heap H locs) (ls : Array Slot) (hl : lv_has ls 2 []) : W p l e R s m args below meth c H locs 0 0 (MQ below (q_M_at dC dI cB cI cL A adM adM_tape adM_frameAt adM_field adM_draft adM_given adM_low adM_high adM_packet adM_known a) args s 0 0 A) (F0 m 38 ls [.int s0]) := by
  obtain ⟨hx, hb, hr, hml, hown, hts, hlocks, hRf, hRl⟩ := id X
  unfold g_M_at_38 at hG
  exact W.iret (v := s0) hx hb hr (fun t9 ht9 hW9 => ⟨⟨s0, (sM), rfl, Option.some.inj hG, by rw [ht9]; exact hP, hD⟩, hS.F ht9⟩) hS.2.2 d_M_at_38
set_option maxRecDepth 100000 in
set_option maxHeartbeats 4000000 in
theorem k_M_at_22 {p : Program} {l : Launch} {e : Env} {R : Room} {s : State} {m : MethodId} {args : Array Value} {below : List Frame} {meth : Method} {c : Code} {dC : Nat → ClassId} {dI : Nat → Nat → Nat} {cB cI cL : ClassId} {A : Nat → Prop} (X : zx p s m args meth c R R_M b_M_at (some .int) 2 1 25) (hA : ∀ q, s.heap.size ≤ q → A q) (zz : zk dC dI cB cI cL A s)  (sM : zM) (v1 : Int32) (s0 : Int32) (a : Int32 × zM) (hG : g_M_at_22 sM v1 s0 = some a) (adM adM_tape adM_frameAt adM_field adM_draft adM_given adM_low adM_high adM_packet adM_known : Nat) (H : Heap) (locs : List Loc) (hP : va_P (dC, dI) zcl (zwM adM adM_tape adM_frameAt adM_field adM_draft adM_given adM_low adM_high adM_packet adM_known cB cI cL sM) H) (hD : va_D A (zwM adM adM_tape adM_frameAt adM_field adM_draft adM_given adM_low adM_high adM_packet adM_known cB cI cL sM)) (hS : va_S A s.heap H locs) (ls : Array Slot) (hl : lv_has ls 2 [(0, .ref adM), (1, .int v1)]) : W p l e R s m args below meth c H locs 0 0 (MQ below (q_M_at dC dI cB cI cL A adM adM_tape adM_frameAt adM_field adM_draft adM_given adM_low adM_high adM_packet adM_known a) args s 0 0 A) (F0 m 22 ls [.int s0, .ref adM]) := by
  obtain ⟨hx, hb, hr, hml, hown, hts, hlocks, hRf, hRl⟩ := id X
  unfold g_M_at_22 at hG
  refine lv_iconst (v := (1 : Int32)) hx hb d_M_at_22 (by decide) ?_
  obtain ⟨a_23, hx_23, hG⟩ := zb hG
  have hr_23 := zrunV (p := p) (e := e) (below := below) (meth := meth) (As := [.int s0, .int (1 : Int32)]) (rest := []) (st0 := [.int (1 : Int32), .int s0, .ref adM]) (cells := 0) (slots := 0) X zz hP hD hS hA [0, 1, 2, 3, 4, 5, 6, 7, 8, 9] (by decide) rfl (c_M_fails l dC dI cB cI cL H.size adM adM_tape adM_frameAt adM_field adM_draft adM_given adM_low adM_high adM_packet adM_known sM s0 (1 : Int32) _ hx_23) zy_M_fails zv_M_fails (hts (.methodLink R_M 62 y_M_fails) zin_M_62) hl rfl rfl d_M_at_23 (lv_room (Nat.le_of_ble_eq_true rfl)) rfl rfl ⟨Nat.le_trans (Nat.le_of_ble_eq_true rfl) hRf, Nat.le_trans (Nat.le_of_ble_eq_true rfl) hRl⟩ ⟨Nat.zero_le _, Nat.zero_le _⟩ 0 8 rfl rfl
  refine zcalli (wr := ([] : va_W)) hr_23 hP hD hS hA [0, 1, 2, 3, 4, 5, 6, 7, 8, 9] [] rfl rfl (by decide) (by decide) (fun r_23 u_23 H locs hw_23 hP hD hS => ?_)
  obtain ⟨sM_23, rfl⟩ : ∃ z, z = u_23 := ⟨_, rfl⟩
  subst hw_23
  have hP : va_P (dC, dI) zcl (zwM adM adM_tape adM_frameAt adM_field adM_draft adM_given adM_low adM_high adM_packet adM_known cB cI cL sM_23) H := hP
  have hD : va_D A (zwM adM adM_tape adM_frameAt adM_field adM_draft adM_given adM_low adM_high adM_packet adM_known cB cI cL sM_23) := hD
  have hG : g_M_at_c23 v1 sM_23 r_23 = some a := hG
  unfold g_M_at_c23 at hG
  refine lv_if_eq (tgt := 33) hx hb d_M_at_26 (by decide) (fun hc => ?_) (fun hc => ?_)
  · have hG := zt hG hc
    refine lv_aload_n hx hb d_M_at_33 rfl (lv_at hl 0 rfl) ?_
    refine lv_iload_n hx hb d_M_at_34 rfl (lv_at hl 1 rfl) ?_
    obtain ⟨a_35, hx_35, hG⟩ := zb hG
    have hr_35 := zrunV (p := p) (e := e) (below := below) (meth := meth) (As := [.int v1]) (rest := []) (st0 := [.int v1, .ref adM]) (cells := 0) (slots := 0) X zz hP hD hS hA [0, 1, 2, 3, 4, 5, 6, 7, 8, 9] (by decide) rfl (c_M_byteAt l dC dI cB cI cL H.size adM adM_tape adM_frameAt adM_field adM_draft adM_given adM_low adM_high adM_packet adM_known sM_23 v1 _ hx_35) zy_M_byteAt zv_M_byteAt (hts (.methodLink R_M 106 y_M_byteAt) zin_M_106) hl rfl rfl d_M_at_35 (lv_room (Nat.le_of_ble_eq_true rfl)) rfl rfl ⟨Nat.le_trans (Nat.le_of_ble_eq_true rfl) hRf, Nat.le_trans (Nat.le_of_ble_eq_true rfl) hRl⟩ ⟨Nat.zero_le _, Nat.zero_le _⟩ 0 8 rfl rfl
    refine zcalli (wr := ([] : va_W)) hr_35 hP hD hS hA [0, 1, 2, 3, 4, 5, 6, 7, 8, 9] [] rfl rfl (by decide) (by decide) (fun r_35 u_35 H locs hw_35 hP hD hS => ?_)
    subst hw_35
    have hP : va_P (dC, dI) zcl (zwM adM adM_tape adM_frameAt adM_field adM_draft adM_given adM_low adM_high adM_packet adM_known cB cI cL sM_23) H := hP
    have hD : va_D A (zwM adM adM_tape adM_frameAt adM_field adM_draft adM_given adM_low adM_high adM_packet adM_known cB cI cL sM_23) := hD
    have hG : g_M_at_c35 sM_23 r_35 = some a := hG
    unfold g_M_at_c35 at hG
    exact k_M_at_38 X hA zz sM_23 r_35 _ hG adM adM_tape adM_frameAt adM_field adM_draft adM_given adM_low adM_high adM_packet adM_known _ _ hP hD hS _ (lv_sub hl [] rfl)
  · have hG := zf hG hc
    refine lv_iconst (v := (0 : Int32)) hx hb d_M_at_29 (by decide) ?_
    refine lv_goto (tgt := 38) hx hb d_M_at_30 (by decide) ?_
    exact k_M_at_38 X hA zz sM_23 (0 : Int32) _ hG adM adM_tape adM_frameAt adM_field adM_draft adM_given adM_low adM_high adM_packet adM_known _ _ hP hD hS _ (lv_sub hl [] rfl)
set_option maxRecDepth 100000 in
set_option maxHeartbeats 4000000 in
theorem k_M_at_0 {p : Program} {l : Launch} {e : Env} {R : Room} {s : State} {m : MethodId} {args : Array Value} {below : List Frame} {meth : Method} {c : Code} {dC : Nat → ClassId} {dI : Nat → Nat → Nat} {cB cI cL : ClassId} {A : Nat → Prop} (X : zx p s m args meth c R R_M b_M_at (some .int) 2 1 25) (hA : ∀ q, s.heap.size ≤ q → A q) (zz : zk dC dI cB cI cL A s)  (sM : zM) (v1 : Int32) (a : Int32 × zM) (hG : g_M_at sM v1 = some a) (adM adM_tape adM_frameAt adM_field adM_draft adM_given adM_low adM_high adM_packet adM_known : Nat) (H : Heap) (locs : List Loc) (hP : va_P (dC, dI) zcl (zwM adM adM_tape adM_frameAt adM_field adM_draft adM_given adM_low adM_high adM_packet adM_known cB cI cL sM) H) (hD : va_D A (zwM adM adM_tape adM_frameAt adM_field adM_draft adM_given adM_low adM_high adM_packet adM_known cB cI cL sM)) (hS : va_S A s.heap H locs) (ls : Array Slot) (hl : lv_has ls 2 [(0, .ref adM), (1, .int v1)]) : W p l e R s m args below meth c H locs 0 0 (MQ below (q_M_at dC dI cB cI cL A adM adM_tape adM_frameAt adM_field adM_draft adM_given adM_low adM_high adM_packet adM_known a) args s 0 0 A) (F0 m 0 ls []) := by
  obtain ⟨hx, hb, hr, hml, hown, hts, hlocks, hRf, hRl⟩ := id X
  unfold g_M_at at hG
  refine lv_aload_n hx hb d_M_at_0 rfl (lv_at hl 0 rfl) ?_
  refine lv_iload_n hx hb d_M_at_1 rfl (lv_at hl 1 rfl) ?_
  refine lv_i2l hx hb d_M_at_2 rfl ?_
  refine lv_lconst (v := (0 : Int64)) hx hb d_M_at_3 (by decide) ?_
  refine lv_aload_n hx hb d_M_at_4 rfl (lv_at hl 0 rfl) ?_
  refine va_get (D := (dC, dI)) (ci := 8) (v := .int (zM_size sM)) (C := R_M) (T := F_M) (N := 26) hx hb hts zi_M hown zz.1 hP 0 rfl rfl 2 (by decide) (hts (.fieldLink R_M 57 "WireCodecModel" "size" "I") zin_M_57) (fun _ h9 => h9) rfl d_M_at_5 ?_
  refine lv_i2l hx hb d_M_at_8 rfl ?_
  refine lv_lconst (v := (1 : Int64)) hx hb d_M_at_9 (by decide) ?_
  refine lv_lsub hx hb d_M_at_10 ?_
  obtain ⟨a_11, hx_11, hG⟩ := zb hG
  have hr_11 := zrunS (p := p) (e := e) (below := below) (meth := meth) (As := [.long v1.toInt64, .long (0 : Int64), .long (((zM_size sM).toInt64) - (1 : Int64))]) (rest := [.ref adM]) (st0 := [.long (((zM_size sM).toInt64) - (1 : Int64)), .long (0 : Int64), .long v1.toInt64, .ref adM]) (cells := 0) (slots := 0) X zz hP hD hS hA [] (by decide) rfl (c_M_within l dC dI cB cI cL H.size v1.toInt64 (0 : Int64) (((zM_size sM).toInt64) - (1 : Int64)) _ hx_11) zy_M_within zv_M_within (hts (.methodLink R_M 53 y_M_within) zin_M_53) hl rfl rfl d_M_at_11 (lv_room (Nat.le_of_ble_eq_true rfl)) rfl rfl ⟨Nat.le_trans (Nat.le_of_ble_eq_true rfl) hRf, Nat.le_trans (Nat.le_of_ble_eq_true rfl) hRl⟩ ⟨Nat.zero_le _, Nat.zero_le _⟩
  refine zcalli (wr := (zwM adM adM_tape adM_frameAt adM_field adM_draft adM_given adM_low adM_high adM_packet adM_known cB cI cL sM)) hr_11 hP hD hS hA [] [0, 1, 2, 3, 4, 5, 6, 7, 8, 9] rfl rfl (by decide) (by decide) (fun r_11 u_11 H locs hw_11 hP hD hS => ?_)
  subst hw_11
  have hP : va_P (dC, dI) zcl (zwM adM adM_tape adM_frameAt adM_field adM_draft adM_given adM_low adM_high adM_packet adM_known cB cI cL sM) H := hP
  have hD : va_D A (zwM adM adM_tape adM_frameAt adM_field adM_draft adM_given adM_low adM_high adM_packet adM_known cB cI cL sM) := hD
  have hG : g_M_at_c11 sM v1 r_11 = some a := hG
  unfold g_M_at_c11 at hG
  refine lv_if_ne (tgt := 21) hx hb d_M_at_14 (by decide) (fun hc => ?_) (fun hc => ?_)
  · have hG := zf hG hc
    refine lv_iconst (v := (0 : Int32)) hx hb d_M_at_21 (by decide) ?_
    exact k_M_at_22 X hA zz sM v1 (0 : Int32) _ hG adM adM_tape adM_frameAt adM_field adM_draft adM_given adM_low adM_high adM_packet adM_known _ _ hP hD hS _ (lv_sub hl [0, 1] rfl)
  · have hG := zt hG hc
    refine lv_iconst (v := (1 : Int32)) hx hb d_M_at_17 (by decide) ?_
    refine lv_goto (tgt := 22) hx hb d_M_at_18 (by decide) ?_
    exact k_M_at_22 X hA zz sM v1 (1 : Int32) _ hG adM adM_tape adM_frameAt adM_field adM_draft adM_given adM_low adM_high adM_packet adM_known _ _ hP hD hS _ (lv_sub hl [0, 1] rfl)
set_option maxRecDepth 100000 in
set_option maxHeartbeats 4000000 in
theorem c_M_at (l : Launch) (dC : Nat → ClassId) (dI : Nat → Nat → Nat) (cB cI cL : ClassId) (sz : Nat) (adM adM_tape adM_frameAt adM_field adM_draft adM_given adM_low adM_high adM_packet adM_known : Nat) (sM : zM) (v1 : Int32) (a : Int32 × zM) (hG : g_M_at sM v1 = some a) : Met l y_M_at (zw y_M_at b_M_at 2 (some .int)) ({ frames := 1, cells := 0, slots := 0, locals := 25 }) (va_Pc [.ref adM, .int v1] (zpre dC dI cB cI cL sz (zwM adM adM_tape adM_frameAt adM_field adM_draft adM_given adM_low adM_high adM_packet adM_known cB cI cL sM))) (q_M_at dC dI cB cI cL (va_A (zwM adM adM_tape adM_frameAt adM_field adM_draft adM_given adM_low adM_high adM_packet adM_known cB cI cL sM) sz) adM adM_tape adM_frameAt adM_field adM_draft adM_given adM_low adM_high adM_packet adM_known a) 0 0 (va_A (zwM adM adM_tape adM_frameAt adM_field adM_draft adM_given adM_low adM_high adM_packet adM_known cB cI cL sM) sz) := by
  refine Met.ofW (cc := b_M_at) (maxL := 2) (ret := (some .int)) (by decide) rfl ?_
  intro p e s m args below meth c s₁ B hml hv
  obtain ⟨rfl, hsz, hP, zz, hD0⟩ := hv
  subst hsz
  have X := zx_of (F := 1) (L := 25) B hml (Nat.le_refl _) (Nat.le_refl _)
  have hD := hD0.self (sz := s.heap.size)
  have hA : ∀ q : Nat, s.heap.size ≤ q → va_A (zwM adM adM_tape adM_frameAt adM_field adM_draft adM_given adM_low adM_high adM_packet adM_known cB cI cL sM) s.heap.size q := fun q h => Or.inr h
  have hl := lv_entry ([.ref adM, .int v1]) (n := 2) (Nat.le_of_ble_eq_true rfl)
  rw [lg_entry_eq]
  generalize (lg_sl ([.ref adM, .int v1]) ++ List.replicate (2 - (lg_sl ([.ref adM, .int v1])).length) Slot.unset).toArray = ls at hl ⊢
  exact k_M_at_0 X hA zz sM v1 a hG adM adM_tape adM_frameAt adM_field adM_draft adM_given adM_low adM_high adM_packet adM_known _ _ hP hD va_S.rf ls hl
noncomputable def g_M_look_w12 (sM_12 : zM) : Option (zM) := some (sM_12)
noncomputable def g_M_look_w7 (sM_7 : zM) : Option (zM) := g_M_look_w12 (zM_over' sM_7 (0 : Int32))
noncomputable def g_M_look_w2 (v2 : Int32) (sM_2 : zM) : Option (zM) := g_M_look_w7 (zM_end' sM_2 v2)
noncomputable def g_M_look (sM : zM) (v1 : Int32) (v2 : Int32) : Option (zM) := g_M_look_w2 v2 (zM_at' sM v1)
def q_M_look (dC : Nat → ClassId) (dI : Nat → Nat → Nat) (cB cI cL : ClassId) (A : Nat → Prop) (adM : Nat) (adM_tape : Nat) (adM_frameAt : Nat) (adM_field : Nat) (adM_draft : Nat) (adM_given : Nat) (adM_low : Nat) (adM_high : Nat) (adM_packet : Nat) (adM_known : Nat) (a : zM) : Array Value → State → Outcome → State → Prop := va_Qv (fun (u : zM) => (u) = a) (fun u U => va_P (dC, dI) zcl (zwM adM adM_tape adM_frameAt adM_field adM_draft adM_given adM_low adM_high adM_packet adM_known cB cI cL u) U.heap ∧ va_D A (zwM adM adM_tape adM_frameAt adM_field adM_draft adM_given adM_low adM_high adM_packet adM_known cB cI cL u)) A
set_option maxRecDepth 100000 in
set_option maxHeartbeats 4000000 in
theorem k_M_look_0 {p : Program} {l : Launch} {e : Env} {R : Room} {s : State} {m : MethodId} {args : Array Value} {below : List Frame} {meth : Method} {c : Code} {dC : Nat → ClassId} {dI : Nat → Nat → Nat} {cB cI cL : ClassId} {A : Nat → Prop} (X : zx p s m args meth c R R_M b_M_look none 3 0 0) (hA : ∀ q, s.heap.size ≤ q → A q) (zz : zk dC dI cB cI cL A s)  (sM : zM) (v1 : Int32) (v2 : Int32) (a : zM) (hG : g_M_look sM v1 v2 = some a) (adM adM_tape adM_frameAt adM_field adM_draft adM_given adM_low adM_high adM_packet adM_known : Nat) (H : Heap) (locs : List Loc) (hP : va_P (dC, dI) zcl (zwM adM adM_tape adM_frameAt adM_field adM_draft adM_given adM_low adM_high adM_packet adM_known cB cI cL sM) H) (hD : va_D A (zwM adM adM_tape adM_frameAt adM_field adM_draft adM_given adM_low adM_high adM_packet adM_known cB cI cL sM)) (hS : va_S A s.heap H locs) (ls : Array Slot) (hl : lv_has ls 3 [(0, .ref adM), (1, .int v1), (2, .int v2)]) : W p l e R s m args below meth c H locs 0 0 (MQ below (q_M_look dC dI cB cI cL A adM adM_tape adM_frameAt adM_field adM_draft adM_given adM_low adM_high adM_packet adM_known a) args s 0 0 A) (F0 m 0 ls []) := by
  obtain ⟨hx, hb, hr, hml, hown, hts, hlocks, hRf, hRl⟩ := id X
  unfold g_M_look at hG
  refine lv_aload_n hx hb d_M_look_0 rfl (lv_at hl 0 rfl) ?_
  refine lv_iload_n hx hb d_M_look_1 rfl (lv_at hl 1 rfl) ?_
  refine va_put (D := (dC, dI)) (ci := 8) (v := .int v1) (ty := .int) (C := R_M) (T := F_M) (N := 26) hx hb hts zi_M zty_M zty_M_ok znm_M hown zz.1 hP hD hS 0 rfl rfl 14 (by decide) (hts (.fieldLink R_M 110 "WireCodecModel" "at" "I") zin_M_110) (fun _ h9 => h9) rfl (by decide +kernel) rfl rfl (Nat.le_of_ble_eq_true rfl) d_M_look_2 (fun H locs hP hD hS => ?_)
  have hP := zp_M_at hP
  have hD := zd_M_at hD
  have hG : g_M_look_w2 v2 (zM_at' sM v1) = some a := hG
  generalize zM_at' sM v1 = sM_2 at hP hD hG
  unfold g_M_look_w2 at hG
  refine lv_aload_n hx hb d_M_look_5 rfl (lv_at hl 0 rfl) ?_
  refine lv_iload_n hx hb d_M_look_6 rfl (lv_at hl 2 rfl) ?_
  refine va_put (D := (dC, dI)) (ci := 8) (v := .int v2) (ty := .int) (C := R_M) (T := F_M) (N := 26) hx hb hts zi_M zty_M zty_M_ok znm_M hown zz.1 hP hD hS 0 rfl rfl 16 (by decide) (hts (.fieldLink R_M 113 "WireCodecModel" "end" "I") zin_M_113) (fun _ h9 => h9) rfl (by decide +kernel) rfl rfl (Nat.le_of_ble_eq_true rfl) d_M_look_7 (fun H locs hP hD hS => ?_)
  have hP := zp_M_end hP
  have hD := zd_M_end hD
  have hG : g_M_look_w7 (zM_end' sM_2 v2) = some a := hG
  generalize zM_end' sM_2 v2 = sM_7 at hP hD hG
  unfold g_M_look_w7 at hG
  refine lv_aload_n hx hb d_M_look_10 rfl (lv_at hl 0 rfl) ?_
  refine lv_iconst (v := (0 : Int32)) hx hb d_M_look_11 (by decide) ?_
  refine va_put (D := (dC, dI)) (ci := 8) (v := .int (0 : Int32)) (ty := .boolean) (C := R_M) (T := F_M) (N := 26) hx hb hts zi_M zty_M zty_M_ok znm_M hown zz.1 hP hD hS 0 rfl rfl 15 (by decide) (hts (.fieldLink R_M 116 "WireCodecModel" "over" "Z") zin_M_116) (fun _ h9 => h9) rfl (by decide +kernel) rfl rfl (Nat.le_of_ble_eq_true rfl) d_M_look_12 (fun H locs hP hD hS => ?_)
  have hP := zp_M_over hP
  have hD := zd_M_over hD
  have hG : g_M_look_w12 (zM_over' sM_7 (0 : Int32)) = some a := hG
  generalize zM_over' sM_7 (0 : Int32) = sM_12 at hP hD hG
  unfold g_M_look_w12 at hG
  exact W.vret hx hb hr (fun t9 ht9 hW9 => ⟨⟨(sM_12), rfl, Option.some.inj hG, by rw [ht9]; exact hP, hD⟩, hS.F ht9⟩) hS.2.2 d_M_look_15
set_option maxRecDepth 100000 in
set_option maxHeartbeats 4000000 in
theorem c_M_look (l : Launch) (dC : Nat → ClassId) (dI : Nat → Nat → Nat) (cB cI cL : ClassId) (sz : Nat) (adM adM_tape adM_frameAt adM_field adM_draft adM_given adM_low adM_high adM_packet adM_known : Nat) (sM : zM) (v1 : Int32) (v2 : Int32) (a : zM) (hG : g_M_look sM v1 v2 = some a) : Met l y_M_look (zw y_M_look b_M_look 3 none) ({ frames := 0, cells := 0, slots := 0, locals := 0 }) (va_Pc [.ref adM, .int v1, .int v2] (zpre dC dI cB cI cL sz (zwM adM adM_tape adM_frameAt adM_field adM_draft adM_given adM_low adM_high adM_packet adM_known cB cI cL sM))) (q_M_look dC dI cB cI cL (va_A (zwM adM adM_tape adM_frameAt adM_field adM_draft adM_given adM_low adM_high adM_packet adM_known cB cI cL sM) sz) adM adM_tape adM_frameAt adM_field adM_draft adM_given adM_low adM_high adM_packet adM_known a) 0 0 (va_A (zwM adM adM_tape adM_frameAt adM_field adM_draft adM_given adM_low adM_high adM_packet adM_known cB cI cL sM) sz) := by
  refine Met.ofW (cc := b_M_look) (maxL := 3) (ret := none) (by decide) rfl ?_
  intro p e s m args below meth c s₁ B hml hv
  obtain ⟨rfl, hsz, hP, zz, hD0⟩ := hv
  subst hsz
  have X := zx_of (F := 0) (L := 0) B hml (Nat.le_refl _) (Nat.le_refl _)
  have hD := hD0.self (sz := s.heap.size)
  have hA : ∀ q : Nat, s.heap.size ≤ q → va_A (zwM adM adM_tape adM_frameAt adM_field adM_draft adM_given adM_low adM_high adM_packet adM_known cB cI cL sM) s.heap.size q := fun q h => Or.inr h
  have hl := lv_entry ([.ref adM, .int v1, .int v2]) (n := 3) (Nat.le_of_ble_eq_true rfl)
  rw [lg_entry_eq]
  generalize (lg_sl ([.ref adM, .int v1, .int v2]) ++ List.replicate (3 - (lg_sl ([.ref adM, .int v1, .int v2])).length) Slot.unset).toArray = ls at hl ⊢
  exact k_M_look_0 X hA zz sM v1 v2 a hG adM adM_tape adM_frameAt adM_field adM_draft adM_given adM_low adM_high adM_packet adM_known _ _ hP hD va_S.rf ls hl
noncomputable def g_M_take_w22 (sM_22 : zM) : Option (Int64 × zM) := some ((0 : Int64), sM_22)
noncomputable def g_M_take_20 (N : Nat) (sM : zM) : Option (Int64 × zM) := g_M_take_w22 (zM_over' sM (1 : Int32))
noncomputable def g_M_take_w60 (kr : zM → Int32 → Int64 → Int32 → Option (Int64 × zM)) (v1 : Int32) (v2 : Int64) (v4 : Int32) (r_47 : Int32) (sM_60 : zM) : Option (Int64 × zM) := kr sM_60 v1 ((v2 <<< ((8 : Int32).toInt64 &&& 63)) ||| r_47.toInt64) (v4 + 1)
noncomputable def g_M_take_c47 (kr : zM → Int32 → Int64 → Int32 → Option (Int64 × zM)) (sM : zM) (v1 : Int32) (v2 : Int64) (v4 : Int32) (r_47 : Int32) : Option (Int64 × zM) := g_M_take_w60 kr v1 v2 v4 r_47 (zM_at' sM ((zM_at sM) + (1 : Int32)))
noncomputable def g_M_take_32_b (N : Nat) (kr : zM → Int32 → Int64 → Int32 → Option (Int64 × zM)) (sM : zM) (v1 : Int32) (v2 : Int64) (v4 : Int32) : Option (Int64 × zM) := if v1 ≤ v4 then (some (v2, sM)) else ((g_M_byteAt sM (zM_at sM)).bind (fun a => g_M_take_c47 kr sM v1 v2 v4 a))
noncomputable def g_M_take_32 (N : Nat) : Nat → zM → Int32 → Int64 → Int32 → Option (Int64 × zM)
  | 0 => fun _ _ _ _ => none
  | k + 1 => fun sM v1 v2 v4 => g_M_take_32_b N (g_M_take_32 N k) sM v1 v2 v4
noncomputable def g_M_take (N : Nat) (sM : zM) (v1 : Int32) : Option (Int64 × zM) := if (zM_over sM) = (0 : Int32) then (if v1 ≤ ((zM_end sM) - (zM_at sM)) then (g_M_take_32 N N sM v1 (0 : Int64) (0 : Int32)) else (g_M_take_20 N sM)) else (g_M_take_20 N sM)
def q_M_take (dC : Nat → ClassId) (dI : Nat → Nat → Nat) (cB cI cL : ClassId) (A : Nat → Prop) (adM : Nat) (adM_tape : Nat) (adM_frameAt : Nat) (adM_field : Nat) (adM_draft : Nat) (adM_given : Nat) (adM_low : Nat) (adM_high : Nat) (adM_packet : Nat) (adM_known : Nat) (a : Int64 × zM) : Array Value → State → Outcome → State → Prop := va_Ql (fun (r : Int64) (u : zM) => (r, u) = a) (fun u U => va_P (dC, dI) zcl (zwM adM adM_tape adM_frameAt adM_field adM_draft adM_given adM_low adM_high adM_packet adM_known cB cI cL u) U.heap ∧ va_D A (zwM adM adM_tape adM_frameAt adM_field adM_draft adM_given adM_low adM_high adM_packet adM_known cB cI cL u)) A
set_option maxRecDepth 100000 in
set_option maxHeartbeats 4000000 in
theorem k_M_take_20 {p : Program} {l : Launch} {e : Env} {R : Room} {s : State} {m : MethodId} {args : Array Value} {below : List Frame} {meth : Method} {c : Code} {dC : Nat → ClassId} {dI : Nat → Nat → Nat} {cB cI cL : ClassId} {A : Nat → Prop} (X : zx p s m args meth c R R_M b_M_take (some .long) 5 1 21) (hA : ∀ q, s.heap.size ≤ q → A q) (zz : zk dC dI cB cI cL A s)  (N : Nat) (sM : zM) (a : Int64 × zM) (hG : g_M_take_20 N sM = some a) (adM adM_tape adM_frameAt adM_field adM_draft adM_given adM_low adM_high adM_packet adM_known : Nat) (H : Heap) (locs : List Loc) (hP : va_P (dC, dI) zcl (zwM adM adM_tape adM_frameAt adM_field adM_draft adM_given adM_low adM_high adM_packet adM_known cB cI cL sM) H) (hD : va_D A (zwM adM adM_tape adM_frameAt adM_field adM_draft adM_given adM_low adM_high adM_packet adM_known cB cI cL sM)) (hS : va_S A s.heap H locs) (ls : Array Slot) (hl : lv_has ls 5 [(0, .ref adM)]) : W p l e R s m args below meth c H locs 0 0 (MQ below (q_M_take dC dI cB cI cL A adM adM_tape adM_frameAt adM_field adM_draft adM_given adM_low adM_high adM_packet adM_known a) args s 0 0 A) (F0 m 20 ls []) := by
  obtain ⟨hx, hb, hr, hml, hown, hts, hlocks, hRf, hRl⟩ := id X
  unfold g_M_take_20 at hG
  refine lv_aload_n hx hb d_M_take_20 rfl (lv_at hl 0 rfl) ?_
  refine lv_iconst (v := (1 : Int32)) hx hb d_M_take_21 (by decide) ?_
  refine va_put (D := (dC, dI)) (ci := 8) (v := .int (1 : Int32)) (ty := .boolean) (C := R_M) (T := F_M) (N := 26) hx hb hts zi_M zty_M zty_M_ok znm_M hown zz.1 hP hD hS 0 rfl rfl 15 (by decide) (hts (.fieldLink R_M 116 "WireCodecModel" "over" "Z") zin_M_116) (fun _ h9 => h9) rfl (by decide +kernel) rfl rfl (Nat.le_of_ble_eq_true rfl) d_M_take_22 (fun H locs hP hD hS => ?_)
  have hP := zp_M_over hP
  have hD := zd_M_over hD
  have hG : g_M_take_w22 (zM_over' sM (1 : Int32)) = some a := hG
  generalize zM_over' sM (1 : Int32) = sM_22 at hP hD hG
  unfold g_M_take_w22 at hG
  refine lv_lconst (v := (0 : Int64)) hx hb d_M_take_25 (by decide) ?_
  exact W.lret (v := (0 : Int64)) hx hb hr (fun t9 ht9 hW9 => ⟨⟨(0 : Int64), (sM_22), rfl, Option.some.inj hG, by rw [ht9]; exact hP, hD⟩, hS.F ht9⟩) hS.2.2 d_M_take_26
set_option maxRecDepth 100000 in
set_option maxHeartbeats 4000000 in
theorem k_M_take_32_b {p : Program} {l : Launch} {e : Env} {R : Room} {s : State} {m : MethodId} {args : Array Value} {below : List Frame} {meth : Method} {c : Code} {dC : Nat → ClassId} {dI : Nat → Nat → Nat} {cB cI cL : ClassId} {A : Nat → Prop} (kr : zM → Int32 → Int64 → Int32 → Option (Int64 × zM)) (hrec : ∀ (sM : zM) (v1 : Int32) (v2 : Int64) (v4 : Int32) (a : Int64 × zM), kr sM v1 v2 v4 = some a → ∀ (adM adM_tape adM_frameAt adM_field adM_draft adM_given adM_low adM_high adM_packet adM_known : Nat) (H : Heap) (locs : List Loc), va_P (dC, dI) zcl (zwM adM adM_tape adM_frameAt adM_field adM_draft adM_given adM_low adM_high adM_packet adM_known cB cI cL sM) H → va_D A (zwM adM adM_tape adM_frameAt adM_field adM_draft adM_given adM_low adM_high adM_packet adM_known cB cI cL sM) → va_S A s.heap H locs → ∀ ls : Array Slot, lv_has ls 5 [(0, .ref adM), (1, .int v1), (2, .long v2), (4, .int v4)] → W p l e R s m args below meth c H locs 0 0 (MQ below (q_M_take dC dI cB cI cL A adM adM_tape adM_frameAt adM_field adM_draft adM_given adM_low adM_high adM_packet adM_known a) args s 0 0 A) (F0 m 32 ls [])) (X : zx p s m args meth c R R_M b_M_take (some .long) 5 1 21) (hA : ∀ q, s.heap.size ≤ q → A q) (zz : zk dC dI cB cI cL A s)  (N : Nat) (sM : zM) (v1 : Int32) (v2 : Int64) (v4 : Int32) (a : Int64 × zM) (hG : g_M_take_32_b N kr sM v1 v2 v4 = some a) (adM adM_tape adM_frameAt adM_field adM_draft adM_given adM_low adM_high adM_packet adM_known : Nat) (H : Heap) (locs : List Loc) (hP : va_P (dC, dI) zcl (zwM adM adM_tape adM_frameAt adM_field adM_draft adM_given adM_low adM_high adM_packet adM_known cB cI cL sM) H) (hD : va_D A (zwM adM adM_tape adM_frameAt adM_field adM_draft adM_given adM_low adM_high adM_packet adM_known cB cI cL sM)) (hS : va_S A s.heap H locs) (ls : Array Slot) (hl : lv_has ls 5 [(0, .ref adM), (1, .int v1), (2, .long v2), (4, .int v4)]) : W p l e R s m args below meth c H locs 0 0 (MQ below (q_M_take dC dI cB cI cL A adM adM_tape adM_frameAt adM_field adM_draft adM_given adM_low adM_high adM_packet adM_known a) args s 0 0 A) (F0 m 32 ls []) := by
  obtain ⟨hx, hb, hr, hml, hown, hts, hlocks, hRf, hRl⟩ := id X
  unfold g_M_take_32_b at hG
  refine lv_iload hx hb d_M_take_32 (lv_at hl 3 rfl) ?_
  refine lv_iload_n hx hb d_M_take_34 rfl (lv_at hl 1 rfl) ?_
  refine lv_icmp_ge (tgt := 69) hx hb d_M_take_35 (by decide) (fun hc => ?_) (fun hc => ?_)
  · have hG := zt hG hc
    refine lv_lload_n hx hb d_M_take_69 rfl (lv_at hl 2 rfl) ?_
    exact W.lret (v := v2) hx hb hr (fun t9 ht9 hW9 => ⟨⟨v2, (sM), rfl, Option.some.inj hG, by rw [ht9]; exact hP, hD⟩, hS.F ht9⟩) hS.2.2 d_M_take_70
  · have hG := zf hG hc
    refine lv_lload_n hx hb d_M_take_38 rfl (lv_at hl 2 rfl) ?_
    refine lv_bipush (v := (8 : Int32)) hx hb d_M_take_39 (by decide) ?_
    refine lv_lshl hx hb d_M_take_41 rfl ?_
    refine lv_aload_n hx hb d_M_take_42 rfl (lv_at hl 0 rfl) ?_
    refine lv_aload_n hx hb d_M_take_43 rfl (lv_at hl 0 rfl) ?_
    refine va_get (D := (dC, dI)) (ci := 8) (v := .int (zM_at sM)) (C := R_M) (T := F_M) (N := 26) hx hb hts zi_M hown zz.1 hP 0 rfl rfl 14 (by decide) (hts (.fieldLink R_M 110 "WireCodecModel" "at" "I") zin_M_110) (fun _ h9 => h9) rfl d_M_take_44 ?_
    obtain ⟨a_47, hx_47, hG⟩ := zb hG
    have hr_47 := zrunV (p := p) (e := e) (below := below) (meth := meth) (As := [.int (zM_at sM)]) (rest := [.long (v2 <<< ((8 : Int32).toInt64 &&& 63))]) (st0 := [.int (zM_at sM), .ref adM, .long (v2 <<< ((8 : Int32).toInt64 &&& 63))]) (cells := 0) (slots := 0) X zz hP hD hS hA [0, 1, 2, 3, 4, 5, 6, 7, 8, 9] (by decide) rfl (c_M_byteAt l dC dI cB cI cL H.size adM adM_tape adM_frameAt adM_field adM_draft adM_given adM_low adM_high adM_packet adM_known sM (zM_at sM) _ hx_47) zy_M_byteAt zv_M_byteAt (hts (.methodLink R_M 106 y_M_byteAt) zin_M_106) hl rfl rfl d_M_take_47 (lv_room (Nat.le_of_ble_eq_true rfl)) rfl rfl ⟨Nat.le_trans (Nat.le_of_ble_eq_true rfl) hRf, Nat.le_trans (Nat.le_of_ble_eq_true rfl) hRl⟩ ⟨Nat.zero_le _, Nat.zero_le _⟩ 0 8 rfl rfl
    refine zcalli (wr := ([] : va_W)) hr_47 hP hD hS hA [0, 1, 2, 3, 4, 5, 6, 7, 8, 9] [] rfl rfl (by decide) (by decide) (fun r_47 u_47 H locs hw_47 hP hD hS => ?_)
    subst hw_47
    have hP : va_P (dC, dI) zcl (zwM adM adM_tape adM_frameAt adM_field adM_draft adM_given adM_low adM_high adM_packet adM_known cB cI cL sM) H := hP
    have hD : va_D A (zwM adM adM_tape adM_frameAt adM_field adM_draft adM_given adM_low adM_high adM_packet adM_known cB cI cL sM) := hD
    have hG : g_M_take_c47 kr sM v1 v2 v4 r_47 = some a := hG
    unfold g_M_take_c47 at hG
    refine lv_i2l hx hb d_M_take_50 rfl ?_
    refine lv_lor hx hb d_M_take_51 ?_
    refine lv_lstore_n (lv' := [(2, .long ((v2 <<< ((8 : Int32).toInt64 &&& 63)) ||| r_47.toInt64)), (0, .ref adM), (1, .int v1), (4, .int v4)]) hx hb d_M_take_52 rfl hl (by decide) rfl (fun ls hl => ?_)
    refine lv_aload_n hx hb d_M_take_53 rfl (lv_at hl 1 rfl) ?_
    refine lv_dup hx hb d_M_take_54 rfl ?_
    refine va_get (D := (dC, dI)) (ci := 8) (v := .int (zM_at sM)) (C := R_M) (T := F_M) (N := 26) hx hb hts zi_M hown zz.1 hP 0 rfl rfl 14 (by decide) (hts (.fieldLink R_M 110 "WireCodecModel" "at" "I") zin_M_110) (fun _ h9 => h9) rfl d_M_take_55 ?_
    refine lv_iconst (v := (1 : Int32)) hx hb d_M_take_58 (by decide) ?_
    refine lv_iadd hx hb d_M_take_59 ?_
    refine va_put (D := (dC, dI)) (ci := 8) (v := .int ((zM_at sM) + (1 : Int32))) (ty := .int) (C := R_M) (T := F_M) (N := 26) hx hb hts zi_M zty_M zty_M_ok znm_M hown zz.1 hP hD hS 0 rfl rfl 14 (by decide) (hts (.fieldLink R_M 110 "WireCodecModel" "at" "I") zin_M_110) (fun _ h9 => h9) rfl (by decide +kernel) rfl rfl (Nat.le_of_ble_eq_true rfl) d_M_take_60 (fun H locs hP hD hS => ?_)
    have hP := zp_M_at hP
    have hD := zd_M_at hD
    have hG : g_M_take_w60 kr v1 v2 v4 r_47 (zM_at' sM ((zM_at sM) + (1 : Int32))) = some a := hG
    generalize zM_at' sM ((zM_at sM) + (1 : Int32)) = sM_60 at hP hD hG
    unfold g_M_take_w60 at hG
    refine lv_iinc (v := v4 + 1) (lv' := [(4, .int (v4 + 1)), (2, .long ((v2 <<< ((8 : Int32).toInt64 &&& 63)) ||| r_47.toInt64)), (0, .ref adM), (1, .int v1)]) hx hb d_M_take_63 hl (k := 3) rfl rfl (by decide) rfl (fun ls hl => ?_)
    refine lv_goto (tgt := 32) hx hb d_M_take_66 (by decide) ?_
    exact hrec sM_60 v1 ((v2 <<< ((8 : Int32).toInt64 &&& 63)) ||| r_47.toInt64) (v4 + 1) _ hG adM adM_tape adM_frameAt adM_field adM_draft adM_given adM_low adM_high adM_packet adM_known _ _ hP hD hS _ (lv_sub hl [2, 3, 1, 0] rfl)
theorem k_M_take_32 {p : Program} {l : Launch} {e : Env} {R : Room} {s : State} {m : MethodId} {args : Array Value} {below : List Frame} {meth : Method} {c : Code} {dC : Nat → ClassId} {dI : Nat → Nat → Nat} {cB cI cL : ClassId} {A : Nat → Prop} (X : zx p s m args meth c R R_M b_M_take (some .long) 5 1 21) (hA : ∀ q, s.heap.size ≤ q → A q) (zz : zk dC dI cB cI cL A s)  (N : Nat) : ∀ (k : Nat) (sM : zM) (v1 : Int32) (v2 : Int64) (v4 : Int32) (a : Int64 × zM) (hG : g_M_take_32 N k sM v1 v2 v4 = some a) (adM adM_tape adM_frameAt adM_field adM_draft adM_given adM_low adM_high adM_packet adM_known : Nat) (H : Heap) (locs : List Loc) (hP : va_P (dC, dI) zcl (zwM adM adM_tape adM_frameAt adM_field adM_draft adM_given adM_low adM_high adM_packet adM_known cB cI cL sM) H) (hD : va_D A (zwM adM adM_tape adM_frameAt adM_field adM_draft adM_given adM_low adM_high adM_packet adM_known cB cI cL sM)) (hS : va_S A s.heap H locs) (ls : Array Slot) (hl : lv_has ls 5 [(0, .ref adM), (1, .int v1), (2, .long v2), (4, .int v4)]), W p l e R s m args below meth c H locs 0 0 (MQ below (q_M_take dC dI cB cI cL A adM adM_tape adM_frameAt adM_field adM_draft adM_given adM_low adM_high adM_packet adM_known a) args s 0 0 A) (F0 m 32 ls []) := by
  intro k
  induction k with
  | zero => intro sM v1 v2 v4 a hG; exact absurd hG (by unfold g_M_take_32; simp)
  | succ k ih => intro sM v1 v2 v4 a hG adM adM_tape adM_frameAt adM_field adM_draft adM_given adM_low adM_high adM_packet adM_known H locs hP hD hS ls hl; exact k_M_take_32_b _ ih X hA zz N sM v1 v2 v4 a hG adM adM_tape adM_frameAt adM_field adM_draft adM_given adM_low adM_high adM_packet adM_known H locs hP hD hS ls hl
set_option maxRecDepth 100000 in
set_option maxHeartbeats 4000000 in
theorem k_M_take_0 {p : Program} {l : Launch} {e : Env} {R : Room} {s : State} {m : MethodId} {args : Array Value} {below : List Frame} {meth : Method} {c : Code} {dC : Nat → ClassId} {dI : Nat → Nat → Nat} {cB cI cL : ClassId} {A : Nat → Prop} (X : zx p s m args meth c R R_M b_M_take (some .long) 5 1 21) (hA : ∀ q, s.heap.size ≤ q → A q) (zz : zk dC dI cB cI cL A s)  (N : Nat) (sM : zM) (v1 : Int32) (a : Int64 × zM) (hG : g_M_take N sM v1 = some a) (adM adM_tape adM_frameAt adM_field adM_draft adM_given adM_low adM_high adM_packet adM_known : Nat) (H : Heap) (locs : List Loc) (hP : va_P (dC, dI) zcl (zwM adM adM_tape adM_frameAt adM_field adM_draft adM_given adM_low adM_high adM_packet adM_known cB cI cL sM) H) (hD : va_D A (zwM adM adM_tape adM_frameAt adM_field adM_draft adM_given adM_low adM_high adM_packet adM_known cB cI cL sM)) (hS : va_S A s.heap H locs) (ls : Array Slot) (hl : lv_has ls 5 [(0, .ref adM), (1, .int v1)]) : W p l e R s m args below meth c H locs 0 0 (MQ below (q_M_take dC dI cB cI cL A adM adM_tape adM_frameAt adM_field adM_draft adM_given adM_low adM_high adM_packet adM_known a) args s 0 0 A) (F0 m 0 ls []) := by
  obtain ⟨hx, hb, hr, hml, hown, hts, hlocks, hRf, hRl⟩ := id X
  unfold g_M_take at hG
  refine lv_aload_n hx hb d_M_take_0 rfl (lv_at hl 0 rfl) ?_
  refine va_get (D := (dC, dI)) (ci := 8) (v := .int (zM_over sM)) (C := R_M) (T := F_M) (N := 26) hx hb hts zi_M hown zz.1 hP 0 rfl rfl 15 (by decide) (hts (.fieldLink R_M 116 "WireCodecModel" "over" "Z") zin_M_116) (fun _ h9 => h9) rfl d_M_take_1 ?_
  refine lv_if_ne (tgt := 20) hx hb d_M_take_4 (by decide) (fun hc => ?_) (fun hc => ?_)
  · have hG := zf hG hc
    exact k_M_take_20 X hA zz N sM _ hG adM adM_tape adM_frameAt adM_field adM_draft adM_given adM_low adM_high adM_packet adM_known _ _ hP hD hS _ (lv_sub hl [0] rfl)
  · have hG := zt hG hc
    refine lv_aload_n hx hb d_M_take_7 rfl (lv_at hl 0 rfl) ?_
    refine va_get (D := (dC, dI)) (ci := 8) (v := .int (zM_end sM)) (C := R_M) (T := F_M) (N := 26) hx hb hts zi_M hown zz.1 hP 0 rfl rfl 16 (by decide) (hts (.fieldLink R_M 113 "WireCodecModel" "end" "I") zin_M_113) (fun _ h9 => h9) rfl d_M_take_8 ?_
    refine lv_aload_n hx hb d_M_take_11 rfl (lv_at hl 0 rfl) ?_
    refine va_get (D := (dC, dI)) (ci := 8) (v := .int (zM_at sM)) (C := R_M) (T := F_M) (N := 26) hx hb hts zi_M hown zz.1 hP 0 rfl rfl 14 (by decide) (hts (.fieldLink R_M 110 "WireCodecModel" "at" "I") zin_M_110) (fun _ h9 => h9) rfl d_M_take_12 ?_
    refine lv_isub hx hb d_M_take_15 ?_
    refine lv_iload_n hx hb d_M_take_16 rfl (lv_at hl 1 rfl) ?_
    refine lv_icmp_ge (tgt := 27) hx hb d_M_take_17 (by decide) (fun hc => ?_) (fun hc => ?_)
    · have hG := zt hG hc
      refine lv_lconst (v := (0 : Int64)) hx hb d_M_take_27 (by decide) ?_
      refine lv_lstore_n (lv' := [(2, .long (0 : Int64)), (0, .ref adM), (1, .int v1)]) hx hb d_M_take_28 rfl hl (by decide) rfl (fun ls hl => ?_)
      refine lv_iconst (v := (0 : Int32)) hx hb d_M_take_29 (by decide) ?_
      refine lv_istore (lv' := [(4, .int (0 : Int32)), (2, .long (0 : Int64)), (0, .ref adM), (1, .int v1)]) hx hb d_M_take_30 hl (by decide) rfl (fun ls hl => ?_)
      exact k_M_take_32 X hA zz N N sM v1 (0 : Int64) (0 : Int32) _ hG adM adM_tape adM_frameAt adM_field adM_draft adM_given adM_low adM_high adM_packet adM_known _ _ hP hD hS _ (lv_sub hl [2, 3, 1, 0] rfl)
    · have hG := zf hG hc
      exact k_M_take_20 X hA zz N sM _ hG adM adM_tape adM_frameAt adM_field adM_draft adM_given adM_low adM_high adM_packet adM_known _ _ hP hD hS _ (lv_sub hl [0] rfl)
set_option maxRecDepth 100000 in
set_option maxHeartbeats 4000000 in
theorem c_M_take (l : Launch) (dC : Nat → ClassId) (dI : Nat → Nat → Nat) (cB cI cL : ClassId) (sz : Nat) (adM adM_tape adM_frameAt adM_field adM_draft adM_given adM_low adM_high adM_packet adM_known : Nat) (N : Nat) (sM : zM) (v1 : Int32) (a : Int64 × zM) (hG : g_M_take N sM v1 = some a) : Met l y_M_take (zw y_M_take b_M_take 5 (some .long)) ({ frames := 1, cells := 0, slots := 0, locals := 21 }) (va_Pc [.ref adM, .int v1] (zpre dC dI cB cI cL sz (zwM adM adM_tape adM_frameAt adM_field adM_draft adM_given adM_low adM_high adM_packet adM_known cB cI cL sM))) (q_M_take dC dI cB cI cL (va_A (zwM adM adM_tape adM_frameAt adM_field adM_draft adM_given adM_low adM_high adM_packet adM_known cB cI cL sM) sz) adM adM_tape adM_frameAt adM_field adM_draft adM_given adM_low adM_high adM_packet adM_known a) 0 0 (va_A (zwM adM adM_tape adM_frameAt adM_field adM_draft adM_given adM_low adM_high adM_packet adM_known cB cI cL sM) sz) := by
  refine Met.ofW (cc := b_M_take) (maxL := 5) (ret := (some .long)) (by decide) rfl ?_
  intro p e s m args below meth c s₁ B hml hv
  obtain ⟨rfl, hsz, hP, zz, hD0⟩ := hv
  subst hsz
  have X := zx_of (F := 1) (L := 21) B hml (Nat.le_refl _) (Nat.le_refl _)
  have hD := hD0.self (sz := s.heap.size)
  have hA : ∀ q : Nat, s.heap.size ≤ q → va_A (zwM adM adM_tape adM_frameAt adM_field adM_draft adM_given adM_low adM_high adM_packet adM_known cB cI cL sM) s.heap.size q := fun q h => Or.inr h
  have hl := lv_entry ([.ref adM, .int v1]) (n := 5) (Nat.le_of_ble_eq_true rfl)
  rw [lg_entry_eq]
  generalize (lg_sl ([.ref adM, .int v1]) ++ List.replicate (5 - (lg_sl ([.ref adM, .int v1])).length) Slot.unset).toArray = ls at hl ⊢
  exact k_M_take_0 X hA zz N sM v1 a hG adM adM_tape adM_frameAt adM_field adM_draft adM_given adM_low adM_high adM_packet adM_known _ _ hP hD va_S.rf ls hl

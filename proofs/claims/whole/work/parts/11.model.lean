theorem zy_M_takeNumber : zy y_M_takeNumber b_M_takeNumber 4 (some .long) 0 := ⟨zmem 1086 (by decide +kernel) (by decide +kernel), zmem 73 (by decide +kernel) (by decide +kernel), by decide +kernel⟩
theorem zv_M_takeNumber : Cond.instanceMethod y_M_takeNumber ∈ ztb ∧ Cond.selects y_M_takeNumber.cls y_M_takeNumber y_M_takeNumber ∈ ztb := ⟨zmem 1085 (by decide +kernel) (by decide +kernel), zmem 31 (by decide +kernel) (by decide +kernel)⟩
theorem d_M_takeNumber_0 : decode b_M_takeNumber 0 = .ok (.aload_n 0, 1) := by decide +kernel
theorem d_M_takeNumber_1 : decode b_M_takeNumber 1 = .ok (.getfield 116, 3) := by decide +kernel
theorem d_M_takeNumber_4 : decode b_M_takeNumber 4 = .ok (.ifCond .ne 14, 3) := by decide +kernel
theorem d_M_takeNumber_7 : decode b_M_takeNumber 7 = .ok (.aload_n 0, 1) := by decide +kernel
theorem d_M_takeNumber_8 : decode b_M_takeNumber 8 = .ok (.getfield 110, 3) := by decide +kernel
theorem d_M_takeNumber_11 : decode b_M_takeNumber 11 = .ok (.aload_n 0, 1) := by decide +kernel
theorem d_M_takeNumber_12 : decode b_M_takeNumber 12 = .ok (.getfield 113, 3) := by decide +kernel
theorem d_M_takeNumber_15 : decode b_M_takeNumber 15 = .ok (.if_icmp .lt 10, 3) := by decide +kernel
theorem d_M_takeNumber_18 : decode b_M_takeNumber 18 = .ok (.aload_n 0, 1) := by decide +kernel
theorem d_M_takeNumber_19 : decode b_M_takeNumber 19 = .ok (.iconst 1, 1) := by decide +kernel
theorem d_M_takeNumber_20 : decode b_M_takeNumber 20 = .ok (.putfield 116, 3) := by decide +kernel
theorem d_M_takeNumber_23 : decode b_M_takeNumber 23 = .ok (.lconst 0, 1) := by decide +kernel
theorem d_M_takeNumber_24 : decode b_M_takeNumber 24 = .ok (.lreturn, 1) := by decide +kernel
theorem d_M_takeNumber_25 : decode b_M_takeNumber 25 = .ok (.iconst 1, 1) := by decide +kernel
theorem d_M_takeNumber_26 : decode b_M_takeNumber 26 = .ok (.aload_n 0, 1) := by decide +kernel
theorem d_M_takeNumber_27 : decode b_M_takeNumber 27 = .ok (.aload_n 0, 1) := by decide +kernel
theorem d_M_takeNumber_28 : decode b_M_takeNumber 28 = .ok (.getfield 110, 3) := by decide +kernel
theorem d_M_takeNumber_31 : decode b_M_takeNumber 31 = .ok (.invokevirtual 106, 3) := by decide +kernel
theorem d_M_takeNumber_34 : decode b_M_takeNumber 34 = .ok (.bipush 6, 2) := by decide +kernel
theorem d_M_takeNumber_36 : decode b_M_takeNumber 36 = .ok (.ishr, 1) := by decide +kernel
theorem d_M_takeNumber_37 : decode b_M_takeNumber 37 = .ok (.ishl, 1) := by decide +kernel
theorem d_M_takeNumber_38 : decode b_M_takeNumber 38 = .ok (.istore_n 1, 1) := by decide +kernel
theorem d_M_takeNumber_39 : decode b_M_takeNumber 39 = .ok (.aload_n 0, 1) := by decide +kernel
theorem d_M_takeNumber_40 : decode b_M_takeNumber 40 = .ok (.iload_n 1, 1) := by decide +kernel
theorem d_M_takeNumber_41 : decode b_M_takeNumber 41 = .ok (.invokevirtual 120, 3) := by decide +kernel
theorem d_M_takeNumber_44 : decode b_M_takeNumber 44 = .ok (.lstore_n 2, 1) := by decide +kernel
theorem d_M_takeNumber_45 : decode b_M_takeNumber 45 = .ok (.lload_n 2, 1) := by decide +kernel
theorem d_M_takeNumber_46 : decode b_M_takeNumber 46 = .ok (.iload_n 1, 1) := by decide +kernel
theorem d_M_takeNumber_47 : decode b_M_takeNumber 47 = .ok (.bipush 8, 2) := by decide +kernel
theorem d_M_takeNumber_49 : decode b_M_takeNumber 49 = .ok (.if_icmp .ne 9, 3) := by decide +kernel
theorem d_M_takeNumber_52 : decode b_M_takeNumber 52 = .ok (.ldc2_w 51, 3) := by decide +kernel
theorem d_M_takeNumber_55 : decode b_M_takeNumber 55 = .ok (.goto 13, 3) := by decide +kernel
theorem d_M_takeNumber_58 : decode b_M_takeNumber 58 = .ok (.lconst 1, 1) := by decide +kernel
theorem d_M_takeNumber_59 : decode b_M_takeNumber 59 = .ok (.bipush 8, 2) := by decide +kernel
theorem d_M_takeNumber_61 : decode b_M_takeNumber 61 = .ok (.iload_n 1, 1) := by decide +kernel
theorem d_M_takeNumber_62 : decode b_M_takeNumber 62 = .ok (.imul, 1) := by decide +kernel
theorem d_M_takeNumber_63 : decode b_M_takeNumber 63 = .ok (.iconst 2, 1) := by decide +kernel
theorem d_M_takeNumber_64 : decode b_M_takeNumber 64 = .ok (.isub, 1) := by decide +kernel
theorem d_M_takeNumber_65 : decode b_M_takeNumber 65 = .ok (.lshl, 1) := by decide +kernel
theorem d_M_takeNumber_66 : decode b_M_takeNumber 66 = .ok (.lconst 1, 1) := by decide +kernel
theorem d_M_takeNumber_67 : decode b_M_takeNumber 67 = .ok (.lsub, 1) := by decide +kernel
theorem d_M_takeNumber_68 : decode b_M_takeNumber 68 = .ok (.land, 1) := by decide +kernel
theorem d_M_takeNumber_69 : decode b_M_takeNumber 69 = .ok (.lreturn, 1) := by decide +kernel
theorem zy_M_pass : zy y_M_pass b_M_pass 4 (some .int) 1 := ⟨zmem 1129 (by decide +kernel) (by decide +kernel), zmem 73 (by decide +kernel) (by decide +kernel), by decide +kernel⟩
theorem zv_M_pass : Cond.instanceMethod y_M_pass ∈ ztb ∧ Cond.selects y_M_pass.cls y_M_pass y_M_pass ∈ ztb := ⟨zmem 1128 (by decide +kernel) (by decide +kernel), zmem 40 (by decide +kernel) (by decide +kernel)⟩
theorem d_M_pass_0 : decode b_M_pass 0 = .ok (.aload_n 0, 1) := by decide +kernel
theorem d_M_pass_1 : decode b_M_pass 1 = .ok (.getfield 110, 3) := by decide +kernel
theorem d_M_pass_4 : decode b_M_pass 4 = .ok (.istore_n 3, 1) := by decide +kernel
theorem d_M_pass_5 : decode b_M_pass 5 = .ok (.aload_n 0, 1) := by decide +kernel
theorem d_M_pass_6 : decode b_M_pass 6 = .ok (.getfield 116, 3) := by decide +kernel
theorem d_M_pass_9 : decode b_M_pass 9 = .ok (.ifCond .ne 18, 3) := by decide +kernel
theorem d_M_pass_12 : decode b_M_pass 12 = .ok (.aload_n 0, 1) := by decide +kernel
theorem d_M_pass_13 : decode b_M_pass 13 = .ok (.getfield 113, 3) := by decide +kernel
theorem d_M_pass_16 : decode b_M_pass 16 = .ok (.aload_n 0, 1) := by decide +kernel
theorem d_M_pass_17 : decode b_M_pass 17 = .ok (.getfield 110, 3) := by decide +kernel
theorem d_M_pass_20 : decode b_M_pass 20 = .ok (.isub, 1) := by decide +kernel
theorem d_M_pass_21 : decode b_M_pass 21 = .ok (.i2l, 1) := by decide +kernel
theorem d_M_pass_22 : decode b_M_pass 22 = .ok (.lload_n 1, 1) := by decide +kernel
theorem d_M_pass_23 : decode b_M_pass 23 = .ok (.lcmp, 1) := by decide +kernel
theorem d_M_pass_24 : decode b_M_pass 24 = .ok (.ifCond .ge 10, 3) := by decide +kernel
theorem d_M_pass_27 : decode b_M_pass 27 = .ok (.aload_n 0, 1) := by decide +kernel
theorem d_M_pass_28 : decode b_M_pass 28 = .ok (.iconst 1, 1) := by decide +kernel
theorem d_M_pass_29 : decode b_M_pass 29 = .ok (.putfield 116, 3) := by decide +kernel
theorem d_M_pass_32 : decode b_M_pass 32 = .ok (.iload_n 3, 1) := by decide +kernel
theorem d_M_pass_33 : decode b_M_pass 33 = .ok (.ireturn, 1) := by decide +kernel
theorem d_M_pass_34 : decode b_M_pass 34 = .ok (.aload_n 0, 1) := by decide +kernel
theorem d_M_pass_35 : decode b_M_pass 35 = .ok (.dup, 1) := by decide +kernel
theorem d_M_pass_36 : decode b_M_pass 36 = .ok (.getfield 110, 3) := by decide +kernel
theorem d_M_pass_39 : decode b_M_pass 39 = .ok (.lload_n 1, 1) := by decide +kernel
theorem d_M_pass_40 : decode b_M_pass 40 = .ok (.l2i, 1) := by decide +kernel
theorem d_M_pass_41 : decode b_M_pass 41 = .ok (.iadd, 1) := by decide +kernel
theorem d_M_pass_42 : decode b_M_pass 42 = .ok (.putfield 110, 3) := by decide +kernel
theorem d_M_pass_45 : decode b_M_pass 45 = .ok (.iload_n 3, 1) := by decide +kernel
theorem d_M_pass_46 : decode b_M_pass 46 = .ok (.ireturn, 1) := by decide +kernel
theorem zy_M_read : zy y_M_read b_M_read 4 (some .long) 1 := ⟨zmem 1078 (by decide +kernel) (by decide +kernel), zmem 73 (by decide +kernel) (by decide +kernel), by decide +kernel⟩
theorem zv_M_read : Cond.instanceMethod y_M_read ∈ ztb ∧ Cond.selects y_M_read.cls y_M_read y_M_read ∈ ztb := ⟨zmem 1076 (by decide +kernel) (by decide +kernel), zmem 1077 (by decide +kernel) (by decide +kernel)⟩
theorem d_M_read_0 : decode b_M_read 0 = .ok (.aload_n 0, 1) := by decide +kernel
theorem d_M_read_1 : decode b_M_read 1 = .ok (.iload_n 1, 1) := by decide +kernel
theorem d_M_read_2 : decode b_M_read 2 = .ok (.i2l, 1) := by decide +kernel
theorem d_M_read_3 : decode b_M_read 3 = .ok (.lconst 0, 1) := by decide +kernel
theorem d_M_read_4 : decode b_M_read 4 = .ok (.aload_n 0, 1) := by decide +kernel
theorem d_M_read_5 : decode b_M_read 5 = .ok (.getfield 57, 3) := by decide +kernel
theorem d_M_read_8 : decode b_M_read 8 = .ok (.i2l, 1) := by decide +kernel
theorem d_M_read_9 : decode b_M_read 9 = .ok (.lconst 1, 1) := by decide +kernel
theorem d_M_read_10 : decode b_M_read 10 = .ok (.lsub, 1) := by decide +kernel
theorem d_M_read_11 : decode b_M_read 11 = .ok (.invokestatic 53, 3) := by decide +kernel
theorem d_M_read_14 : decode b_M_read 14 = .ok (.ifCond .ne 7, 3) := by decide +kernel
theorem d_M_read_17 : decode b_M_read 17 = .ok (.iconst 1, 1) := by decide +kernel
theorem d_M_read_18 : decode b_M_read 18 = .ok (.goto 4, 3) := by decide +kernel
theorem d_M_read_21 : decode b_M_read 21 = .ok (.iconst 0, 1) := by decide +kernel
theorem d_M_read_22 : decode b_M_read 22 = .ok (.iconst 1, 1) := by decide +kernel
theorem d_M_read_23 : decode b_M_read 23 = .ok (.invokevirtual 62, 3) := by decide +kernel
theorem d_M_read_26 : decode b_M_read 26 = .ok (.ifCond .eq 5, 3) := by decide +kernel
theorem d_M_read_29 : decode b_M_read 29 = .ok (.lconst 0, 1) := by decide +kernel
theorem d_M_read_30 : decode b_M_read 30 = .ok (.lreturn, 1) := by decide +kernel
theorem d_M_read_31 : decode b_M_read 31 = .ok (.aload_n 0, 1) := by decide +kernel
theorem d_M_read_32 : decode b_M_read 32 = .ok (.iload_n 1, 1) := by decide +kernel
theorem d_M_read_33 : decode b_M_read 33 = .ok (.aload_n 0, 1) := by decide +kernel
theorem d_M_read_34 : decode b_M_read 34 = .ok (.getfield 57, 3) := by decide +kernel
theorem d_M_read_37 : decode b_M_read 37 = .ok (.invokevirtual 124, 3) := by decide +kernel
theorem d_M_read_40 : decode b_M_read 40 = .ok (.aload_n 0, 1) := by decide +kernel
theorem d_M_read_41 : decode b_M_read 41 = .ok (.invokevirtual 128, 3) := by decide +kernel
theorem d_M_read_44 : decode b_M_read 44 = .ok (.lstore_n 2, 1) := by decide +kernel
theorem d_M_read_45 : decode b_M_read 45 = .ok (.aload_n 0, 1) := by decide +kernel
theorem d_M_read_46 : decode b_M_read 46 = .ok (.getfield 116, 3) := by decide +kernel
theorem d_M_read_49 : decode b_M_read 49 = .ok (.ifCond .eq 9, 3) := by decide +kernel
theorem d_M_read_52 : decode b_M_read 52 = .ok (.ldc2_w 132, 3) := by decide +kernel
theorem d_M_read_55 : decode b_M_read 55 = .ok (.goto 4, 3) := by decide +kernel
theorem d_M_read_58 : decode b_M_read 58 = .ok (.lload_n 2, 1) := by decide +kernel
theorem d_M_read_59 : decode b_M_read 59 = .ok (.lreturn, 1) := by decide +kernel
theorem zy_M_isAck : zy y_M_isAck b_M_isAck 1 (some .boolean) 1 := ⟨zmem 1113 (by decide +kernel) (by decide +kernel), zmem 73 (by decide +kernel) (by decide +kernel), by decide +kernel⟩
theorem zv_M_isAck : Cond.static y_M_isAck ∈ ztb := zmem 1112 (by decide +kernel) (by decide +kernel)
theorem d_M_isAck_0 : decode b_M_isAck 0 = .ok (.iload_n 0, 1) := by decide +kernel
theorem d_M_isAck_1 : decode b_M_isAck 1 = .ok (.iconst 2, 1) := by decide +kernel
theorem d_M_isAck_2 : decode b_M_isAck 2 = .ok (.if_icmp .eq 8, 3) := by decide +kernel
theorem d_M_isAck_5 : decode b_M_isAck 5 = .ok (.iload_n 0, 1) := by decide +kernel
theorem d_M_isAck_6 : decode b_M_isAck 6 = .ok (.iconst 3, 1) := by decide +kernel
theorem d_M_isAck_7 : decode b_M_isAck 7 = .ok (.if_icmp .ne 7, 3) := by decide +kernel
theorem d_M_isAck_10 : decode b_M_isAck 10 = .ok (.iconst 1, 1) := by decide +kernel
theorem d_M_isAck_11 : decode b_M_isAck 11 = .ok (.goto 4, 3) := by decide +kernel
theorem d_M_isAck_14 : decode b_M_isAck 14 = .ok (.iconst 0, 1) := by decide +kernel
theorem d_M_isAck_15 : decode b_M_isAck 15 = .ok (.ireturn, 1) := by decide +kernel
theorem zy_M_fields : zy y_M_fields b_M_fields 1 (some .int) 1 := ⟨zmem 1140 (by decide +kernel) (by decide +kernel), zmem 73 (by decide +kernel) (by decide +kernel), by decide +kernel⟩
theorem zv_M_fields : Cond.static y_M_fields ∈ ztb := zmem 1139 (by decide +kernel) (by decide +kernel)
theorem d_M_fields_0 : decode b_M_fields 0 = .ok (.iload_n 0, 1) := by decide +kernel
theorem d_M_fields_1 : decode b_M_fields 1 = .ok (.tableswitch 151 4 29 #[119, 123, 126, 129, 151, 151, 151, 151, 151, 151, 151, 151, 151, 131, 151, 151, 151, 134, 151, 151, 137, 151, 140, 142, 144, 148], 119) := by decide +kernel
theorem d_M_fields_120 : decode b_M_fields 120 = .ok (.sipush 321, 3) := by decide +kernel
theorem d_M_fields_123 : decode b_M_fields 123 = .ok (.ireturn, 1) := by decide +kernel
theorem d_M_fields_124 : decode b_M_fields 124 = .ok (.bipush 21, 2) := by decide +kernel
theorem d_M_fields_126 : decode b_M_fields 126 = .ok (.ireturn, 1) := by decide +kernel
theorem d_M_fields_127 : decode b_M_fields 127 = .ok (.bipush 42, 2) := by decide +kernel
theorem d_M_fields_129 : decode b_M_fields 129 = .ok (.ireturn, 1) := by decide +kernel
theorem d_M_fields_130 : decode b_M_fields 130 = .ok (.iconst 4, 1) := by decide +kernel
theorem d_M_fields_131 : decode b_M_fields 131 = .ok (.ireturn, 1) := by decide +kernel
theorem d_M_fields_132 : decode b_M_fields 132 = .ok (.bipush 21, 2) := by decide +kernel
theorem d_M_fields_134 : decode b_M_fields 134 = .ok (.ireturn, 1) := by decide +kernel
theorem d_M_fields_135 : decode b_M_fields 135 = .ok (.bipush 21, 2) := by decide +kernel
theorem d_M_fields_137 : decode b_M_fields 137 = .ok (.ireturn, 1) := by decide +kernel
theorem d_M_fields_138 : decode b_M_fields 138 = .ok (.bipush 21, 2) := by decide +kernel
theorem d_M_fields_140 : decode b_M_fields 140 = .ok (.ireturn, 1) := by decide +kernel
theorem d_M_fields_141 : decode b_M_fields 141 = .ok (.iconst 5, 1) := by decide +kernel
theorem d_M_fields_142 : decode b_M_fields 142 = .ok (.ireturn, 1) := by decide +kernel
theorem d_M_fields_143 : decode b_M_fields 143 = .ok (.iconst 5, 1) := by decide +kernel
theorem d_M_fields_144 : decode b_M_fields 144 = .ok (.ireturn, 1) := by decide +kernel
theorem d_M_fields_145 : decode b_M_fields 145 = .ok (.sipush 421, 3) := by decide +kernel
theorem d_M_fields_148 : decode b_M_fields 148 = .ok (.ireturn, 1) := by decide +kernel
theorem d_M_fields_149 : decode b_M_fields 149 = .ok (.bipush 41, 2) := by decide +kernel
theorem d_M_fields_151 : decode b_M_fields 151 = .ok (.ireturn, 1) := by decide +kernel
theorem d_M_fields_152 : decode b_M_fields 152 = .ok (.iload_n 0, 1) := by decide +kernel
theorem d_M_fields_153 : decode b_M_fields 153 = .ok (.bipush 16, 2) := by decide +kernel
theorem d_M_fields_155 : decode b_M_fields 155 = .ok (.if_icmp .lt 13, 3) := by decide +kernel
theorem d_M_fields_158 : decode b_M_fields 158 = .ok (.iload_n 0, 1) := by decide +kernel
theorem d_M_fields_159 : decode b_M_fields 159 = .ok (.bipush 25, 2) := by decide +kernel
theorem d_M_fields_161 : decode b_M_fields 161 = .ok (.if_icmp .gt 7, 3) := by decide +kernel
theorem d_M_fields_164 : decode b_M_fields 164 = .ok (.iconst 1, 1) := by decide +kernel
theorem d_M_fields_165 : decode b_M_fields 165 = .ok (.goto 4, 3) := by decide +kernel
theorem d_M_fields_168 : decode b_M_fields 168 = .ok (.iconst 0, 1) := by decide +kernel
theorem d_M_fields_169 : decode b_M_fields 169 = .ok (.ireturn, 1) := by decide +kernel
theorem zy_M_takeData : zy y_M_takeData b_M_takeData 3 none 1 := ⟨zmem 1125 (by decide +kernel) (by decide +kernel), zmem 73 (by decide +kernel) (by decide +kernel), by decide +kernel⟩
theorem zv_M_takeData : Cond.instanceMethod y_M_takeData ∈ ztb ∧ Cond.selects y_M_takeData.cls y_M_takeData y_M_takeData ∈ ztb := ⟨zmem 1124 (by decide +kernel) (by decide +kernel), zmem 39 (by decide +kernel) (by decide +kernel)⟩
theorem d_M_takeData_0 : decode b_M_takeData 0 = .ok (.aload_n 0, 1) := by decide +kernel
theorem d_M_takeData_1 : decode b_M_takeData 1 = .ok (.aload_n 0, 1) := by decide +kernel
theorem d_M_takeData_2 : decode b_M_takeData 2 = .ok (.lload_n 1, 1) := by decide +kernel
theorem d_M_takeData_3 : decode b_M_takeData 3 = .ok (.invokevirtual 141, 3) := by decide +kernel
theorem d_M_takeData_6 : decode b_M_takeData 6 = .ok (.putfield 144, 3) := by decide +kernel
theorem d_M_takeData_9 : decode b_M_takeData 9 = .ok (.aload_n 0, 1) := by decide +kernel
theorem d_M_takeData_10 : decode b_M_takeData 10 = .ok (.aload_n 0, 1) := by decide +kernel
theorem d_M_takeData_11 : decode b_M_takeData 11 = .ok (.getfield 116, 3) := by decide +kernel
theorem d_M_takeData_14 : decode b_M_takeData 14 = .ok (.ifCond .eq 7, 3) := by decide +kernel
theorem d_M_takeData_17 : decode b_M_takeData 17 = .ok (.iconst 0, 1) := by decide +kernel
theorem d_M_takeData_18 : decode b_M_takeData 18 = .ok (.goto 5, 3) := by decide +kernel
theorem d_M_takeData_21 : decode b_M_takeData 21 = .ok (.lload_n 1, 1) := by decide +kernel
theorem d_M_takeData_22 : decode b_M_takeData 22 = .ok (.l2i, 1) := by decide +kernel
theorem d_M_takeData_23 : decode b_M_takeData 23 = .ok (.putfield 147, 3) := by decide +kernel
theorem d_M_takeData_26 : decode b_M_takeData 26 = .ok (.return_, 1) := by decide +kernel
theorem zy_M_takeStream : zy y_M_takeStream b_M_takeStream 2 none 1 := ⟨zmem 1121 (by decide +kernel) (by decide +kernel), zmem 73 (by decide +kernel) (by decide +kernel), by decide +kernel⟩
theorem zv_M_takeStream : Cond.instanceMethod y_M_takeStream ∈ ztb ∧ Cond.selects y_M_takeStream.cls y_M_takeStream y_M_takeStream ∈ ztb := ⟨zmem 1120 (by decide +kernel) (by decide +kernel), zmem 38 (by decide +kernel) (by decide +kernel)⟩
theorem d_M_takeStream_0 : decode b_M_takeStream 0 = .ok (.aload_n 0, 1) := by decide +kernel
theorem d_M_takeStream_1 : decode b_M_takeStream 1 = .ok (.getfield 22, 3) := by decide +kernel
theorem d_M_takeStream_4 : decode b_M_takeStream 4 = .ok (.iconst 2, 1) := by decide +kernel
theorem d_M_takeStream_5 : decode b_M_takeStream 5 = .ok (.iload_n 1, 1) := by decide +kernel
theorem d_M_takeStream_6 : decode b_M_takeStream 6 = .ok (.iconst 1, 1) := by decide +kernel
theorem d_M_takeStream_7 : decode b_M_takeStream 7 = .ok (.iand, 1) := by decide +kernel
theorem d_M_takeStream_8 : decode b_M_takeStream 8 = .ok (.i2l, 1) := by decide +kernel
theorem d_M_takeStream_9 : decode b_M_takeStream 9 = .ok (.lastore, 1) := by decide +kernel
theorem d_M_takeStream_10 : decode b_M_takeStream 10 = .ok (.aload_n 0, 1) := by decide +kernel
theorem d_M_takeStream_11 : decode b_M_takeStream 11 = .ok (.getfield 22, 3) := by decide +kernel
theorem d_M_takeStream_14 : decode b_M_takeStream 14 = .ok (.iconst 3, 1) := by decide +kernel
theorem d_M_takeStream_15 : decode b_M_takeStream 15 = .ok (.iload_n 1, 1) := by decide +kernel
theorem d_M_takeStream_16 : decode b_M_takeStream 16 = .ok (.iconst 1, 1) := by decide +kernel
theorem d_M_takeStream_17 : decode b_M_takeStream 17 = .ok (.ishr, 1) := by decide +kernel
theorem d_M_takeStream_18 : decode b_M_takeStream 18 = .ok (.iconst 1, 1) := by decide +kernel
theorem d_M_takeStream_19 : decode b_M_takeStream 19 = .ok (.iand, 1) := by decide +kernel
theorem d_M_takeStream_20 : decode b_M_takeStream 20 = .ok (.i2l, 1) := by decide +kernel
theorem d_M_takeStream_21 : decode b_M_takeStream 21 = .ok (.lastore, 1) := by decide +kernel
theorem d_M_takeStream_22 : decode b_M_takeStream 22 = .ok (.aload_n 0, 1) := by decide +kernel
theorem d_M_takeStream_23 : decode b_M_takeStream 23 = .ok (.getfield 22, 3) := by decide +kernel
theorem d_M_takeStream_26 : decode b_M_takeStream 26 = .ok (.iconst 0, 1) := by decide +kernel
theorem d_M_takeStream_27 : decode b_M_takeStream 27 = .ok (.aload_n 0, 1) := by decide +kernel
theorem d_M_takeStream_28 : decode b_M_takeStream 28 = .ok (.invokevirtual 128, 3) := by decide +kernel
theorem d_M_takeStream_31 : decode b_M_takeStream 31 = .ok (.lastore, 1) := by decide +kernel
theorem d_M_takeStream_32 : decode b_M_takeStream 32 = .ok (.aload_n 0, 1) := by decide +kernel
theorem d_M_takeStream_33 : decode b_M_takeStream 33 = .ok (.getfield 22, 3) := by decide +kernel
theorem d_M_takeStream_36 : decode b_M_takeStream 36 = .ok (.iconst 1, 1) := by decide +kernel
theorem d_M_takeStream_37 : decode b_M_takeStream 37 = .ok (.iload_n 1, 1) := by decide +kernel
theorem d_M_takeStream_38 : decode b_M_takeStream 38 = .ok (.iconst 4, 1) := by decide +kernel
theorem d_M_takeStream_39 : decode b_M_takeStream 39 = .ok (.iand, 1) := by decide +kernel
theorem d_M_takeStream_40 : decode b_M_takeStream 40 = .ok (.ifCond .le 10, 3) := by decide +kernel
theorem d_M_takeStream_43 : decode b_M_takeStream 43 = .ok (.aload_n 0, 1) := by decide +kernel
theorem d_M_takeStream_44 : decode b_M_takeStream 44 = .ok (.invokevirtual 128, 3) := by decide +kernel
theorem d_M_takeStream_47 : decode b_M_takeStream 47 = .ok (.goto 4, 3) := by decide +kernel
theorem d_M_takeStream_50 : decode b_M_takeStream 50 = .ok (.lconst 0, 1) := by decide +kernel
theorem d_M_takeStream_51 : decode b_M_takeStream 51 = .ok (.lastore, 1) := by decide +kernel
theorem d_M_takeStream_52 : decode b_M_takeStream 52 = .ok (.aload_n 0, 1) := by decide +kernel
theorem d_M_takeStream_53 : decode b_M_takeStream 53 = .ok (.aload_n 0, 1) := by decide +kernel
theorem d_M_takeStream_54 : decode b_M_takeStream 54 = .ok (.getfield 22, 3) := by decide +kernel
theorem d_M_takeStream_57 : decode b_M_takeStream 57 = .ok (.iconst 3, 1) := by decide +kernel
theorem d_M_takeStream_58 : decode b_M_takeStream 58 = .ok (.laload, 1) := by decide +kernel
theorem d_M_takeStream_59 : decode b_M_takeStream 59 = .ok (.lconst 1, 1) := by decide +kernel
theorem d_M_takeStream_60 : decode b_M_takeStream 60 = .ok (.lcmp, 1) := by decide +kernel
theorem d_M_takeStream_61 : decode b_M_takeStream 61 = .ok (.ifCond .ne 10, 3) := by decide +kernel
theorem d_M_takeStream_64 : decode b_M_takeStream 64 = .ok (.aload_n 0, 1) := by decide +kernel
theorem d_M_takeStream_65 : decode b_M_takeStream 65 = .ok (.invokevirtual 128, 3) := by decide +kernel
theorem d_M_takeStream_68 : decode b_M_takeStream 68 = .ok (.goto 25, 3) := by decide +kernel
theorem d_M_takeStream_71 : decode b_M_takeStream 71 = .ok (.aload_n 0, 1) := by decide +kernel
theorem d_M_takeStream_72 : decode b_M_takeStream 72 = .ok (.getfield 116, 3) := by decide +kernel
theorem d_M_takeStream_75 : decode b_M_takeStream 75 = .ok (.ifCond .eq 7, 3) := by decide +kernel
theorem d_M_takeStream_78 : decode b_M_takeStream 78 = .ok (.lconst 0, 1) := by decide +kernel
theorem d_M_takeStream_79 : decode b_M_takeStream 79 = .ok (.goto 14, 3) := by decide +kernel
theorem d_M_takeStream_82 : decode b_M_takeStream 82 = .ok (.aload_n 0, 1) := by decide +kernel
theorem d_M_takeStream_83 : decode b_M_takeStream 83 = .ok (.getfield 113, 3) := by decide +kernel
theorem d_M_takeStream_86 : decode b_M_takeStream 86 = .ok (.i2l, 1) := by decide +kernel
theorem d_M_takeStream_87 : decode b_M_takeStream 87 = .ok (.aload_n 0, 1) := by decide +kernel
theorem d_M_takeStream_88 : decode b_M_takeStream 88 = .ok (.getfield 110, 3) := by decide +kernel
theorem d_M_takeStream_91 : decode b_M_takeStream 91 = .ok (.i2l, 1) := by decide +kernel
theorem d_M_takeStream_92 : decode b_M_takeStream 92 = .ok (.lsub, 1) := by decide +kernel
theorem d_M_takeStream_93 : decode b_M_takeStream 93 = .ok (.invokevirtual 137, 3) := by decide +kernel
theorem d_M_takeStream_96 : decode b_M_takeStream 96 = .ok (.return_, 1) := by decide +kernel
theorem zy_M_takeAck : zy y_M_takeAck b_M_takeAck 6 none 1 := ⟨zmem 1117 (by decide +kernel) (by decide +kernel), zmem 73 (by decide +kernel) (by decide +kernel), by decide +kernel⟩
theorem zv_M_takeAck : Cond.instanceMethod y_M_takeAck ∈ ztb ∧ Cond.selects y_M_takeAck.cls y_M_takeAck y_M_takeAck ∈ ztb := ⟨zmem 1116 (by decide +kernel) (by decide +kernel), zmem 37 (by decide +kernel) (by decide +kernel)⟩
theorem d_M_takeAck_0 : decode b_M_takeAck 0 = .ok (.aload_n 0, 1) := by decide +kernel
theorem d_M_takeAck_1 : decode b_M_takeAck 1 = .ok (.getfield 22, 3) := by decide +kernel
theorem d_M_takeAck_4 : decode b_M_takeAck 4 = .ok (.iconst 0, 1) := by decide +kernel
theorem d_M_takeAck_5 : decode b_M_takeAck 5 = .ok (.aload_n 0, 1) := by decide +kernel
theorem d_M_takeAck_6 : decode b_M_takeAck 6 = .ok (.invokevirtual 128, 3) := by decide +kernel
theorem d_M_takeAck_9 : decode b_M_takeAck 9 = .ok (.lastore, 1) := by decide +kernel
theorem d_M_takeAck_10 : decode b_M_takeAck 10 = .ok (.aload_n 0, 1) := by decide +kernel
theorem d_M_takeAck_11 : decode b_M_takeAck 11 = .ok (.getfield 22, 3) := by decide +kernel
theorem d_M_takeAck_14 : decode b_M_takeAck 14 = .ok (.iconst 1, 1) := by decide +kernel
theorem d_M_takeAck_15 : decode b_M_takeAck 15 = .ok (.aload_n 0, 1) := by decide +kernel
theorem d_M_takeAck_16 : decode b_M_takeAck 16 = .ok (.invokevirtual 128, 3) := by decide +kernel
theorem d_M_takeAck_19 : decode b_M_takeAck 19 = .ok (.lastore, 1) := by decide +kernel
theorem d_M_takeAck_20 : decode b_M_takeAck 20 = .ok (.aload_n 0, 1) := by decide +kernel
theorem d_M_takeAck_21 : decode b_M_takeAck 21 = .ok (.invokevirtual 128, 3) := by decide +kernel
theorem d_M_takeAck_24 : decode b_M_takeAck 24 = .ok (.lstore_n 2, 1) := by decide +kernel
theorem d_M_takeAck_25 : decode b_M_takeAck 25 = .ok (.aload_n 0, 1) := by decide +kernel
theorem d_M_takeAck_26 : decode b_M_takeAck 26 = .ok (.aload_n 0, 1) := by decide +kernel
theorem d_M_takeAck_27 : decode b_M_takeAck 27 = .ok (.getfield 110, 3) := by decide +kernel
theorem d_M_takeAck_30 : decode b_M_takeAck 30 = .ok (.putfield 150, 3) := by decide +kernel
theorem d_M_takeAck_33 : decode b_M_takeAck 33 = .ok (.aload_n 0, 1) := by decide +kernel
theorem d_M_takeAck_34 : decode b_M_takeAck 34 = .ok (.invokevirtual 128, 3) := by decide +kernel
theorem d_M_takeAck_37 : decode b_M_takeAck 37 = .ok (.pop2, 1) := by decide +kernel
theorem d_M_takeAck_38 : decode b_M_takeAck 38 = .ok (.lconst 0, 1) := by decide +kernel
theorem d_M_takeAck_39 : decode b_M_takeAck 39 = .ok (.lstore 4, 2) := by decide +kernel
theorem d_M_takeAck_41 : decode b_M_takeAck 41 = .ok (.lload 4, 2) := by decide +kernel
theorem d_M_takeAck_43 : decode b_M_takeAck 43 = .ok (.lload_n 2, 1) := by decide +kernel
theorem d_M_takeAck_44 : decode b_M_takeAck 44 = .ok (.lcmp, 1) := by decide +kernel
theorem d_M_takeAck_45 : decode b_M_takeAck 45 = .ok (.ifCond .ge 29, 3) := by decide +kernel
theorem d_M_takeAck_48 : decode b_M_takeAck 48 = .ok (.aload_n 0, 1) := by decide +kernel
theorem d_M_takeAck_49 : decode b_M_takeAck 49 = .ok (.getfield 116, 3) := by decide +kernel
theorem d_M_takeAck_52 : decode b_M_takeAck 52 = .ok (.ifCond .ne 22, 3) := by decide +kernel
theorem d_M_takeAck_55 : decode b_M_takeAck 55 = .ok (.aload_n 0, 1) := by decide +kernel
theorem d_M_takeAck_56 : decode b_M_takeAck 56 = .ok (.invokevirtual 128, 3) := by decide +kernel
theorem d_M_takeAck_59 : decode b_M_takeAck 59 = .ok (.pop2, 1) := by decide +kernel
theorem d_M_takeAck_60 : decode b_M_takeAck 60 = .ok (.aload_n 0, 1) := by decide +kernel
theorem d_M_takeAck_61 : decode b_M_takeAck 61 = .ok (.invokevirtual 128, 3) := by decide +kernel
theorem d_M_takeAck_64 : decode b_M_takeAck 64 = .ok (.pop2, 1) := by decide +kernel
theorem d_M_takeAck_65 : decode b_M_takeAck 65 = .ok (.lload 4, 2) := by decide +kernel
theorem d_M_takeAck_67 : decode b_M_takeAck 67 = .ok (.lconst 1, 1) := by decide +kernel
theorem d_M_takeAck_68 : decode b_M_takeAck 68 = .ok (.ladd, 1) := by decide +kernel
theorem d_M_takeAck_69 : decode b_M_takeAck 69 = .ok (.lstore 4, 2) := by decide +kernel
theorem d_M_takeAck_71 : decode b_M_takeAck 71 = .ok (.goto (-30), 3) := by decide +kernel
theorem d_M_takeAck_74 : decode b_M_takeAck 74 = .ok (.aload_n 0, 1) := by decide +kernel
theorem d_M_takeAck_75 : decode b_M_takeAck 75 = .ok (.aload_n 0, 1) := by decide +kernel
theorem d_M_takeAck_76 : decode b_M_takeAck 76 = .ok (.getfield 116, 3) := by decide +kernel
theorem d_M_takeAck_79 : decode b_M_takeAck 79 = .ok (.ifCond .eq 7, 3) := by decide +kernel
theorem d_M_takeAck_82 : decode b_M_takeAck 82 = .ok (.iconst 0, 1) := by decide +kernel
theorem d_M_takeAck_83 : decode b_M_takeAck 83 = .ok (.goto 7, 3) := by decide +kernel
theorem d_M_takeAck_86 : decode b_M_takeAck 86 = .ok (.iconst 1, 1) := by decide +kernel
theorem d_M_takeAck_87 : decode b_M_takeAck 87 = .ok (.lload_n 2, 1) := by decide +kernel
theorem d_M_takeAck_88 : decode b_M_takeAck 88 = .ok (.l2i, 1) := by decide +kernel
theorem d_M_takeAck_89 : decode b_M_takeAck 89 = .ok (.iadd, 1) := by decide +kernel
theorem d_M_takeAck_90 : decode b_M_takeAck 90 = .ok (.putfield 153, 3) := by decide +kernel
theorem d_M_takeAck_93 : decode b_M_takeAck 93 = .ok (.bipush 9, 2) := by decide +kernel
theorem d_M_takeAck_95 : decode b_M_takeAck 95 = .ok (.istore 4, 2) := by decide +kernel
theorem d_M_takeAck_97 : decode b_M_takeAck 97 = .ok (.iload 4, 2) := by decide +kernel
theorem d_M_takeAck_99 : decode b_M_takeAck 99 = .ok (.bipush 12, 2) := by decide +kernel
theorem d_M_takeAck_101 : decode b_M_takeAck 101 = .ok (.if_icmp .ge 25, 3) := by decide +kernel
theorem d_M_takeAck_104 : decode b_M_takeAck 104 = .ok (.iload_n 1, 1) := by decide +kernel
theorem d_M_takeAck_105 : decode b_M_takeAck 105 = .ok (.iconst 3, 1) := by decide +kernel
theorem d_M_takeAck_106 : decode b_M_takeAck 106 = .ok (.if_icmp .ne 20, 3) := by decide +kernel
theorem d_M_takeAck_109 : decode b_M_takeAck 109 = .ok (.aload_n 0, 1) := by decide +kernel
theorem d_M_takeAck_110 : decode b_M_takeAck 110 = .ok (.getfield 22, 3) := by decide +kernel
theorem d_M_takeAck_113 : decode b_M_takeAck 113 = .ok (.iload 4, 2) := by decide +kernel
theorem d_M_takeAck_115 : decode b_M_takeAck 115 = .ok (.aload_n 0, 1) := by decide +kernel
theorem d_M_takeAck_116 : decode b_M_takeAck 116 = .ok (.invokevirtual 128, 3) := by decide +kernel
theorem d_M_takeAck_119 : decode b_M_takeAck 119 = .ok (.lastore, 1) := by decide +kernel
theorem d_M_takeAck_120 : decode b_M_takeAck 120 = .ok (.iinc 4 1, 3) := by decide +kernel
theorem d_M_takeAck_123 : decode b_M_takeAck 123 = .ok (.goto (-26), 3) := by decide +kernel
theorem d_M_takeAck_126 : decode b_M_takeAck 126 = .ok (.return_, 1) := by decide +kernel
theorem zy_M_takePadding : zy y_M_takePadding b_M_takePadding 1 none 0 := ⟨zmem 1110 (by decide +kernel) (by decide +kernel), zmem 73 (by decide +kernel) (by decide +kernel), by decide +kernel⟩
theorem zv_M_takePadding : Cond.instanceMethod y_M_takePadding ∈ ztb ∧ Cond.selects y_M_takePadding.cls y_M_takePadding y_M_takePadding ∈ ztb := ⟨zmem 1109 (by decide +kernel) (by decide +kernel), zmem 36 (by decide +kernel) (by decide +kernel)⟩
theorem d_M_takePadding_0 : decode b_M_takePadding 0 = .ok (.aload_n 0, 1) := by decide +kernel
theorem d_M_takePadding_1 : decode b_M_takePadding 1 = .ok (.getfield 22, 3) := by decide +kernel
theorem d_M_takePadding_4 : decode b_M_takePadding 4 = .ok (.iconst 0, 1) := by decide +kernel
theorem d_M_takePadding_5 : decode b_M_takePadding 5 = .ok (.lconst 1, 1) := by decide +kernel
theorem d_M_takePadding_6 : decode b_M_takePadding 6 = .ok (.lastore, 1) := by decide +kernel
theorem d_M_takePadding_7 : decode b_M_takePadding 7 = .ok (.aload_n 0, 1) := by decide +kernel
theorem d_M_takePadding_8 : decode b_M_takePadding 8 = .ok (.getfield 110, 3) := by decide +kernel
theorem d_M_takePadding_11 : decode b_M_takePadding 11 = .ok (.aload_n 0, 1) := by decide +kernel
theorem d_M_takePadding_12 : decode b_M_takePadding 12 = .ok (.getfield 113, 3) := by decide +kernel
theorem d_M_takePadding_15 : decode b_M_takePadding 15 = .ok (.if_icmp .ge 38, 3) := by decide +kernel
theorem d_M_takePadding_18 : decode b_M_takePadding 18 = .ok (.aload_n 0, 1) := by decide +kernel
theorem d_M_takePadding_19 : decode b_M_takePadding 19 = .ok (.getfield 8, 3) := by decide +kernel
theorem d_M_takePadding_22 : decode b_M_takePadding 22 = .ok (.aload_n 0, 1) := by decide +kernel
theorem d_M_takePadding_23 : decode b_M_takePadding 23 = .ok (.getfield 110, 3) := by decide +kernel
theorem d_M_takePadding_26 : decode b_M_takePadding 26 = .ok (.baload, 1) := by decide +kernel
theorem d_M_takePadding_27 : decode b_M_takePadding 27 = .ok (.ifCond .ne 26, 3) := by decide +kernel
theorem d_M_takePadding_30 : decode b_M_takePadding 30 = .ok (.aload_n 0, 1) := by decide +kernel
theorem d_M_takePadding_31 : decode b_M_takePadding 31 = .ok (.dup, 1) := by decide +kernel
theorem d_M_takePadding_32 : decode b_M_takePadding 32 = .ok (.getfield 110, 3) := by decide +kernel
theorem d_M_takePadding_35 : decode b_M_takePadding 35 = .ok (.iconst 1, 1) := by decide +kernel
theorem d_M_takePadding_36 : decode b_M_takePadding 36 = .ok (.iadd, 1) := by decide +kernel
theorem d_M_takePadding_37 : decode b_M_takePadding 37 = .ok (.putfield 110, 3) := by decide +kernel
theorem d_M_takePadding_40 : decode b_M_takePadding 40 = .ok (.aload_n 0, 1) := by decide +kernel
theorem d_M_takePadding_41 : decode b_M_takePadding 41 = .ok (.getfield 22, 3) := by decide +kernel
theorem d_M_takePadding_44 : decode b_M_takePadding 44 = .ok (.iconst 0, 1) := by decide +kernel
theorem d_M_takePadding_45 : decode b_M_takePadding 45 = .ok (.dup2, 1) := by decide +kernel
theorem d_M_takePadding_46 : decode b_M_takePadding 46 = .ok (.laload, 1) := by decide +kernel
theorem d_M_takePadding_47 : decode b_M_takePadding 47 = .ok (.lconst 1, 1) := by decide +kernel
theorem d_M_takePadding_48 : decode b_M_takePadding 48 = .ok (.ladd, 1) := by decide +kernel
theorem d_M_takePadding_49 : decode b_M_takePadding 49 = .ok (.lastore, 1) := by decide +kernel
theorem d_M_takePadding_50 : decode b_M_takePadding 50 = .ok (.goto (-43), 3) := by decide +kernel
theorem d_M_takePadding_53 : decode b_M_takePadding 53 = .ok (.return_, 1) := by decide +kernel
theorem zy_M_kindAt : zy y_M_kindAt b_M_kindAt 3 (some .int) 1 := ⟨zmem 1102 (by decide +kernel) (by decide +kernel), zmem 73 (by decide +kernel) (by decide +kernel), by decide +kernel⟩
theorem zv_M_kindAt : Cond.instanceMethod y_M_kindAt ∈ ztb ∧ Cond.selects y_M_kindAt.cls y_M_kindAt y_M_kindAt ∈ ztb := ⟨zmem 1101 (by decide +kernel) (by decide +kernel), zmem 34 (by decide +kernel) (by decide +kernel)⟩
theorem d_M_kindAt_0 : decode b_M_kindAt 0 = .ok (.aload_n 0, 1) := by decide +kernel
theorem d_M_kindAt_1 : decode b_M_kindAt 1 = .ok (.iload_n 1, 1) := by decide +kernel
theorem d_M_kindAt_2 : decode b_M_kindAt 2 = .ok (.invokevirtual 106, 3) := by decide +kernel
theorem d_M_kindAt_5 : decode b_M_kindAt 5 = .ok (.istore_n 2, 1) := by decide +kernel
theorem d_M_kindAt_6 : decode b_M_kindAt 6 = .ok (.iload_n 2, 1) := by decide +kernel
theorem d_M_kindAt_7 : decode b_M_kindAt 7 = .ok (.bipush 30, 2) := by decide +kernel
theorem d_M_kindAt_9 : decode b_M_kindAt 9 = .ok (.if_icmp .le 7, 3) := by decide +kernel
theorem d_M_kindAt_12 : decode b_M_kindAt 12 = .ok (.iconst (-1), 1) := by decide +kernel
theorem d_M_kindAt_13 : decode b_M_kindAt 13 = .ok (.goto 21, 3) := by decide +kernel
theorem d_M_kindAt_16 : decode b_M_kindAt 16 = .ok (.iload_n 2, 1) := by decide +kernel
theorem d_M_kindAt_17 : decode b_M_kindAt 17 = .ok (.bipush 8, 2) := by decide +kernel
theorem d_M_kindAt_19 : decode b_M_kindAt 19 = .ok (.if_icmp .lt 14, 3) := by decide +kernel
theorem d_M_kindAt_22 : decode b_M_kindAt 22 = .ok (.iload_n 2, 1) := by decide +kernel
theorem d_M_kindAt_23 : decode b_M_kindAt 23 = .ok (.bipush 16, 2) := by decide +kernel
theorem d_M_kindAt_25 : decode b_M_kindAt 25 = .ok (.if_icmp .ge 8, 3) := by decide +kernel
theorem d_M_kindAt_28 : decode b_M_kindAt 28 = .ok (.bipush 8, 2) := by decide +kernel
theorem d_M_kindAt_30 : decode b_M_kindAt 30 = .ok (.goto 4, 3) := by decide +kernel
theorem d_M_kindAt_33 : decode b_M_kindAt 33 = .ok (.iload_n 2, 1) := by decide +kernel
theorem d_M_kindAt_34 : decode b_M_kindAt 34 = .ok (.ireturn, 1) := by decide +kernel
theorem zy_M_edge : zy y_M_edge b_M_edge 10 (some .long) 2 := ⟨zmem 1149 (by decide +kernel) (by decide +kernel), zmem 73 (by decide +kernel) (by decide +kernel), by decide +kernel⟩
theorem zv_M_edge : Cond.instanceMethod y_M_edge ∈ ztb ∧ Cond.selects y_M_edge.cls y_M_edge y_M_edge ∈ ztb := ⟨zmem 1148 (by decide +kernel) (by decide +kernel), zmem 44 (by decide +kernel) (by decide +kernel)⟩
theorem d_M_edge_0 : decode b_M_edge 0 = .ok (.aload_n 0, 1) := by decide +kernel
theorem d_M_edge_1 : decode b_M_edge 1 = .ok (.getfield 110, 3) := by decide +kernel
theorem d_M_edge_4 : decode b_M_edge 4 = .ok (.istore_n 3, 1) := by decide +kernel
theorem d_M_edge_5 : decode b_M_edge 5 = .ok (.aload_n 0, 1) := by decide +kernel
theorem d_M_edge_6 : decode b_M_edge 6 = .ok (.getfield 113, 3) := by decide +kernel
theorem d_M_edge_9 : decode b_M_edge 9 = .ok (.istore 4, 2) := by decide +kernel
theorem d_M_edge_11 : decode b_M_edge 11 = .ok (.aload_n 0, 1) := by decide +kernel
theorem d_M_edge_12 : decode b_M_edge 12 = .ok (.aload_n 0, 1) := by decide +kernel
theorem d_M_edge_13 : decode b_M_edge 13 = .ok (.getfield 150, 3) := by decide +kernel
theorem d_M_edge_16 : decode b_M_edge 16 = .ok (.iload 4, 2) := by decide +kernel
theorem d_M_edge_18 : decode b_M_edge 18 = .ok (.invokevirtual 124, 3) := by decide +kernel
theorem d_M_edge_21 : decode b_M_edge 21 = .ok (.aload_n 0, 1) := by decide +kernel
theorem d_M_edge_22 : decode b_M_edge 22 = .ok (.getfield 22, 3) := by decide +kernel
theorem d_M_edge_25 : decode b_M_edge 25 = .ok (.iconst 0, 1) := by decide +kernel
theorem d_M_edge_26 : decode b_M_edge 26 = .ok (.laload, 1) := by decide +kernel
theorem d_M_edge_27 : decode b_M_edge 27 = .ok (.lstore 5, 2) := by decide +kernel
theorem d_M_edge_29 : decode b_M_edge 29 = .ok (.lload 5, 2) := by decide +kernel
theorem d_M_edge_31 : decode b_M_edge 31 = .ok (.aload_n 0, 1) := by decide +kernel
theorem d_M_edge_32 : decode b_M_edge 32 = .ok (.invokevirtual 128, 3) := by decide +kernel
theorem d_M_edge_35 : decode b_M_edge 35 = .ok (.lsub, 1) := by decide +kernel
theorem d_M_edge_36 : decode b_M_edge 36 = .ok (.lstore 7, 2) := by decide +kernel
theorem d_M_edge_38 : decode b_M_edge 38 = .ok (.iconst 0, 1) := by decide +kernel
theorem d_M_edge_39 : decode b_M_edge 39 = .ok (.istore 9, 2) := by decide +kernel
theorem d_M_edge_41 : decode b_M_edge 41 = .ok (.iload 9, 2) := by decide +kernel
theorem d_M_edge_43 : decode b_M_edge 43 = .ok (.iload_n 1, 1) := by decide +kernel
theorem d_M_edge_44 : decode b_M_edge 44 = .ok (.if_icmp .ge 51, 3) := by decide +kernel
theorem d_M_edge_47 : decode b_M_edge 47 = .ok (.lload 7, 2) := by decide +kernel
theorem d_M_edge_49 : decode b_M_edge 49 = .ok (.lconst 0, 1) := by decide +kernel
theorem d_M_edge_50 : decode b_M_edge 50 = .ok (.lcmp, 1) := by decide +kernel
theorem d_M_edge_51 : decode b_M_edge 51 = .ok (.ifCond .lt 44, 3) := by decide +kernel
theorem d_M_edge_54 : decode b_M_edge 54 = .ok (.lload 7, 2) := by decide +kernel
theorem d_M_edge_56 : decode b_M_edge 56 = .ok (.aload_n 0, 1) := by decide +kernel
theorem d_M_edge_57 : decode b_M_edge 57 = .ok (.invokevirtual 128, 3) := by decide +kernel
theorem d_M_edge_60 : decode b_M_edge 60 = .ok (.lsub, 1) := by decide +kernel
theorem d_M_edge_61 : decode b_M_edge 61 = .ok (.ldc2_w 76, 3) := by decide +kernel
theorem d_M_edge_64 : decode b_M_edge 64 = .ok (.lsub, 1) := by decide +kernel
theorem d_M_edge_65 : decode b_M_edge 65 = .ok (.lstore 5, 2) := by decide +kernel
theorem d_M_edge_67 : decode b_M_edge 67 = .ok (.lload 5, 2) := by decide +kernel
theorem d_M_edge_69 : decode b_M_edge 69 = .ok (.lconst 0, 1) := by decide +kernel
theorem d_M_edge_70 : decode b_M_edge 70 = .ok (.lcmp, 1) := by decide +kernel
theorem d_M_edge_71 : decode b_M_edge 71 = .ok (.ifCond .ge 9, 3) := by decide +kernel
theorem d_M_edge_74 : decode b_M_edge 74 = .ok (.ldc2_w 132, 3) := by decide +kernel
theorem d_M_edge_77 : decode b_M_edge 77 = .ok (.goto 10, 3) := by decide +kernel
theorem d_M_edge_80 : decode b_M_edge 80 = .ok (.lload 5, 2) := by decide +kernel
theorem d_M_edge_82 : decode b_M_edge 82 = .ok (.aload_n 0, 1) := by decide +kernel
theorem d_M_edge_83 : decode b_M_edge 83 = .ok (.invokevirtual 128, 3) := by decide +kernel
theorem d_M_edge_86 : decode b_M_edge 86 = .ok (.lsub, 1) := by decide +kernel
theorem d_M_edge_87 : decode b_M_edge 87 = .ok (.lstore 7, 2) := by decide +kernel
theorem d_M_edge_89 : decode b_M_edge 89 = .ok (.iinc 9 1, 3) := by decide +kernel
theorem d_M_edge_92 : decode b_M_edge 92 = .ok (.goto (-51), 3) := by decide +kernel
theorem d_M_edge_95 : decode b_M_edge 95 = .ok (.aload_n 0, 1) := by decide +kernel
theorem d_M_edge_96 : decode b_M_edge 96 = .ok (.iload_n 3, 1) := by decide +kernel
theorem d_M_edge_97 : decode b_M_edge 97 = .ok (.putfield 110, 3) := by decide +kernel
theorem d_M_edge_100 : decode b_M_edge 100 = .ok (.lload 7, 2) := by decide +kernel
theorem d_M_edge_102 : decode b_M_edge 102 = .ok (.lconst 0, 1) := by decide +kernel
theorem d_M_edge_103 : decode b_M_edge 103 = .ok (.lcmp, 1) := by decide +kernel
theorem d_M_edge_104 : decode b_M_edge 104 = .ok (.ifCond .ge 9, 3) := by decide +kernel
theorem d_M_edge_107 : decode b_M_edge 107 = .ok (.ldc2_w 132, 3) := by decide +kernel
theorem d_M_edge_110 : decode b_M_edge 110 = .ok (.goto 14, 3) := by decide +kernel
theorem d_M_edge_113 : decode b_M_edge 113 = .ok (.iload_n 2, 1) := by decide +kernel
theorem d_M_edge_114 : decode b_M_edge 114 = .ok (.ifCond .eq 8, 3) := by decide +kernel
theorem d_M_edge_117 : decode b_M_edge 117 = .ok (.lload 5, 2) := by decide +kernel
theorem d_M_edge_119 : decode b_M_edge 119 = .ok (.goto 5, 3) := by decide +kernel
theorem d_M_edge_122 : decode b_M_edge 122 = .ok (.lload 7, 2) := by decide +kernel
theorem d_M_edge_124 : decode b_M_edge 124 = .ok (.lreturn, 1) := by decide +kernel
theorem zy_M_isRight : zy y_M_isRight b_M_isRight 2 (some .boolean) 1 := ⟨zmem 1145 (by decide +kernel) (by decide +kernel), zmem 73 (by decide +kernel) (by decide +kernel), by decide +kernel⟩
theorem zv_M_isRight : Cond.instanceMethod y_M_isRight ∈ ztb ∧ Cond.selects y_M_isRight.cls y_M_isRight y_M_isRight ∈ ztb := ⟨zmem 1144 (by decide +kernel) (by decide +kernel), zmem 43 (by decide +kernel) (by decide +kernel)⟩
theorem d_M_isRight_0 : decode b_M_isRight 0 = .ok (.iload_n 1, 1) := by decide +kernel
theorem d_M_isRight_1 : decode b_M_isRight 1 = .ok (.invokestatic 171, 3) := by decide +kernel
theorem d_M_isRight_4 : decode b_M_isRight 4 = .ok (.ifCond .eq 25, 3) := by decide +kernel
theorem d_M_isRight_7 : decode b_M_isRight 7 = .ok (.aload_n 0, 1) := by decide +kernel
theorem d_M_isRight_8 : decode b_M_isRight 8 = .ok (.aload_n 0, 1) := by decide +kernel
theorem d_M_isRight_9 : decode b_M_isRight 9 = .ok (.getfield 153, 3) := by decide +kernel
theorem d_M_isRight_12 : decode b_M_isRight 12 = .ok (.iconst 1, 1) := by decide +kernel
theorem d_M_isRight_13 : decode b_M_isRight 13 = .ok (.isub, 1) := by decide +kernel
theorem d_M_isRight_14 : decode b_M_isRight 14 = .ok (.iconst 0, 1) := by decide +kernel
theorem d_M_isRight_15 : decode b_M_isRight 15 = .ok (.invokevirtual 184, 3) := by decide +kernel
theorem d_M_isRight_18 : decode b_M_isRight 18 = .ok (.lconst 0, 1) := by decide +kernel
theorem d_M_isRight_19 : decode b_M_isRight 19 = .ok (.lcmp, 1) := by decide +kernel
theorem d_M_isRight_20 : decode b_M_isRight 20 = .ok (.ifCond .lt 7, 3) := by decide +kernel
theorem d_M_isRight_23 : decode b_M_isRight 23 = .ok (.iconst 1, 1) := by decide +kernel
theorem d_M_isRight_24 : decode b_M_isRight 24 = .ok (.goto 4, 3) := by decide +kernel
theorem d_M_isRight_27 : decode b_M_isRight 27 = .ok (.iconst 0, 1) := by decide +kernel
theorem d_M_isRight_28 : decode b_M_isRight 28 = .ok (.ireturn, 1) := by decide +kernel
theorem d_M_isRight_29 : decode b_M_isRight 29 = .ok (.iload_n 1, 1) := by decide +kernel
theorem d_M_isRight_30 : decode b_M_isRight 30 = .ok (.bipush 18, 2) := by decide +kernel
theorem d_M_isRight_32 : decode b_M_isRight 32 = .ok (.if_icmp .eq 21, 3) := by decide +kernel
theorem d_M_isRight_35 : decode b_M_isRight 35 = .ok (.iload_n 1, 1) := by decide +kernel
theorem d_M_isRight_36 : decode b_M_isRight 36 = .ok (.bipush 19, 2) := by decide +kernel
theorem d_M_isRight_38 : decode b_M_isRight 38 = .ok (.if_icmp .eq 15, 3) := by decide +kernel
theorem d_M_isRight_41 : decode b_M_isRight 41 = .ok (.iload_n 1, 1) := by decide +kernel
theorem d_M_isRight_42 : decode b_M_isRight 42 = .ok (.bipush 22, 2) := by decide +kernel
theorem d_M_isRight_44 : decode b_M_isRight 44 = .ok (.if_icmp .eq 9, 3) := by decide +kernel
theorem d_M_isRight_47 : decode b_M_isRight 47 = .ok (.iload_n 1, 1) := by decide +kernel
theorem d_M_isRight_48 : decode b_M_isRight 48 = .ok (.bipush 23, 2) := by decide +kernel
theorem d_M_isRight_50 : decode b_M_isRight 50 = .ok (.if_icmp .ne 22, 3) := by decide +kernel
theorem d_M_isRight_53 : decode b_M_isRight 53 = .ok (.aload_n 0, 1) := by decide +kernel
theorem d_M_isRight_54 : decode b_M_isRight 54 = .ok (.getfield 22, 3) := by decide +kernel
theorem d_M_isRight_57 : decode b_M_isRight 57 = .ok (.iconst 0, 1) := by decide +kernel
theorem d_M_isRight_58 : decode b_M_isRight 58 = .ok (.laload, 1) := by decide +kernel
theorem d_M_isRight_59 : decode b_M_isRight 59 = .ok (.ldc2_w 188, 3) := by decide +kernel
theorem d_M_isRight_62 : decode b_M_isRight 62 = .ok (.lcmp, 1) := by decide +kernel
theorem d_M_isRight_63 : decode b_M_isRight 63 = .ok (.ifCond .gt 7, 3) := by decide +kernel
theorem d_M_isRight_66 : decode b_M_isRight 66 = .ok (.iconst 1, 1) := by decide +kernel
theorem d_M_isRight_67 : decode b_M_isRight 67 = .ok (.goto 4, 3) := by decide +kernel
theorem d_M_isRight_70 : decode b_M_isRight 70 = .ok (.iconst 0, 1) := by decide +kernel
theorem d_M_isRight_71 : decode b_M_isRight 71 = .ok (.ireturn, 1) := by decide +kernel
theorem d_M_isRight_72 : decode b_M_isRight 72 = .ok (.iload_n 1, 1) := by decide +kernel
theorem d_M_isRight_73 : decode b_M_isRight 73 = .ok (.bipush 7, 2) := by decide +kernel
theorem d_M_isRight_75 : decode b_M_isRight 75 = .ok (.if_icmp .ne 16, 3) := by decide +kernel
theorem d_M_isRight_78 : decode b_M_isRight 78 = .ok (.aload_n 0, 1) := by decide +kernel
theorem d_M_isRight_79 : decode b_M_isRight 79 = .ok (.getfield 147, 3) := by decide +kernel
theorem d_M_isRight_82 : decode b_M_isRight 82 = .ok (.ifCond .le 7, 3) := by decide +kernel
theorem d_M_isRight_85 : decode b_M_isRight 85 = .ok (.iconst 1, 1) := by decide +kernel
theorem d_M_isRight_86 : decode b_M_isRight 86 = .ok (.goto 4, 3) := by decide +kernel
theorem d_M_isRight_89 : decode b_M_isRight 89 = .ok (.iconst 0, 1) := by decide +kernel
theorem d_M_isRight_90 : decode b_M_isRight 90 = .ok (.ireturn, 1) := by decide +kernel
theorem d_M_isRight_91 : decode b_M_isRight 91 = .ok (.iload_n 1, 1) := by decide +kernel
theorem d_M_isRight_92 : decode b_M_isRight 92 = .ok (.bipush 24, 2) := by decide +kernel
theorem d_M_isRight_94 : decode b_M_isRight 94 = .ok (.if_icmp .ne 41, 3) := by decide +kernel
theorem d_M_isRight_97 : decode b_M_isRight 97 = .ok (.aload_n 0, 1) := by decide +kernel
theorem d_M_isRight_98 : decode b_M_isRight 98 = .ok (.getfield 22, 3) := by decide +kernel
theorem d_M_isRight_101 : decode b_M_isRight 101 = .ok (.iconst 1, 1) := by decide +kernel
theorem d_M_isRight_102 : decode b_M_isRight 102 = .ok (.laload, 1) := by decide +kernel
theorem d_M_isRight_103 : decode b_M_isRight 103 = .ok (.aload_n 0, 1) := by decide +kernel
theorem d_M_isRight_104 : decode b_M_isRight 104 = .ok (.getfield 22, 3) := by decide +kernel
theorem d_M_isRight_107 : decode b_M_isRight 107 = .ok (.iconst 0, 1) := by decide +kernel
theorem d_M_isRight_108 : decode b_M_isRight 108 = .ok (.laload, 1) := by decide +kernel
theorem d_M_isRight_109 : decode b_M_isRight 109 = .ok (.lcmp, 1) := by decide +kernel
theorem d_M_isRight_110 : decode b_M_isRight 110 = .ok (.ifCond .gt 23, 3) := by decide +kernel
theorem d_M_isRight_113 : decode b_M_isRight 113 = .ok (.aload_n 0, 1) := by decide +kernel
theorem d_M_isRight_114 : decode b_M_isRight 114 = .ok (.getfield 147, 3) := by decide +kernel
theorem d_M_isRight_117 : decode b_M_isRight 117 = .ok (.ifCond .le 16, 3) := by decide +kernel
theorem d_M_isRight_120 : decode b_M_isRight 120 = .ok (.aload_n 0, 1) := by decide +kernel
theorem d_M_isRight_121 : decode b_M_isRight 121 = .ok (.getfield 147, 3) := by decide +kernel
theorem d_M_isRight_124 : decode b_M_isRight 124 = .ok (.bipush 20, 2) := by decide +kernel
theorem d_M_isRight_126 : decode b_M_isRight 126 = .ok (.if_icmp .gt 7, 3) := by decide +kernel
theorem d_M_isRight_129 : decode b_M_isRight 129 = .ok (.iconst 1, 1) := by decide +kernel
theorem d_M_isRight_130 : decode b_M_isRight 130 = .ok (.goto 4, 3) := by decide +kernel
theorem d_M_isRight_133 : decode b_M_isRight 133 = .ok (.iconst 0, 1) := by decide +kernel
theorem d_M_isRight_134 : decode b_M_isRight 134 = .ok (.ireturn, 1) := by decide +kernel
theorem d_M_isRight_135 : decode b_M_isRight 135 = .ok (.iload_n 1, 1) := by decide +kernel
theorem d_M_isRight_136 : decode b_M_isRight 136 = .ok (.bipush 6, 2) := by decide +kernel
theorem d_M_isRight_138 : decode b_M_isRight 138 = .ok (.if_icmp .eq 9, 3) := by decide +kernel
theorem d_M_isRight_141 : decode b_M_isRight 141 = .ok (.iload_n 1, 1) := by decide +kernel
theorem d_M_isRight_142 : decode b_M_isRight 142 = .ok (.bipush 8, 2) := by decide +kernel
theorem d_M_isRight_144 : decode b_M_isRight 144 = .ok (.if_icmp .ne 22, 3) := by decide +kernel
theorem d_M_isRight_147 : decode b_M_isRight 147 = .ok (.aload_n 0, 1) := by decide +kernel
theorem d_M_isRight_148 : decode b_M_isRight 148 = .ok (.getfield 22, 3) := by decide +kernel
theorem d_M_isRight_151 : decode b_M_isRight 151 = .ok (.iconst 1, 1) := by decide +kernel
theorem d_M_isRight_152 : decode b_M_isRight 152 = .ok (.laload, 1) := by decide +kernel
theorem d_M_isRight_153 : decode b_M_isRight 153 = .ok (.aload_n 0, 1) := by decide +kernel
theorem d_M_isRight_154 : decode b_M_isRight 154 = .ok (.getfield 147, 3) := by decide +kernel
theorem d_M_isRight_157 : decode b_M_isRight 157 = .ok (.i2l, 1) := by decide +kernel
theorem d_M_isRight_158 : decode b_M_isRight 158 = .ok (.ladd, 1) := by decide +kernel
theorem d_M_isRight_159 : decode b_M_isRight 159 = .ok (.ldc2_w 51, 3) := by decide +kernel
theorem d_M_isRight_162 : decode b_M_isRight 162 = .ok (.lcmp, 1) := by decide +kernel
theorem d_M_isRight_163 : decode b_M_isRight 163 = .ok (.ifCond .gt 7, 3) := by decide +kernel
theorem d_M_isRight_166 : decode b_M_isRight 166 = .ok (.iconst 1, 1) := by decide +kernel
theorem d_M_isRight_167 : decode b_M_isRight 167 = .ok (.goto 4, 3) := by decide +kernel
theorem d_M_isRight_170 : decode b_M_isRight 170 = .ok (.iconst 0, 1) := by decide +kernel
theorem d_M_isRight_171 : decode b_M_isRight 171 = .ok (.ireturn, 1) := by decide +kernel
theorem zy_M_tell : zy y_M_tell b_M_tell 3 none 2 := ⟨zmem 1154 (by decide +kernel) (by decide +kernel), zmem 73 (by decide +kernel) (by decide +kernel), by decide +kernel⟩
theorem zv_M_tell : Cond.instanceMethod y_M_tell ∈ ztb ∧ Cond.selects y_M_tell.cls y_M_tell y_M_tell ∈ ztb := ⟨zmem 1153 (by decide +kernel) (by decide +kernel), zmem 45 (by decide +kernel) (by decide +kernel)⟩
theorem d_M_tell_0 : decode b_M_tell 0 = .ok (.aload_n 0, 1) := by decide +kernel
theorem d_M_tell_1 : decode b_M_tell 1 = .ok (.iload_n 1, 1) := by decide +kernel
theorem d_M_tell_2 : decode b_M_tell 2 = .ok (.putfield 91, 3) := by decide +kernel
theorem d_M_tell_5 : decode b_M_tell 5 = .ok (.aload_n 0, 1) := by decide +kernel
theorem d_M_tell_6 : decode b_M_tell 6 = .ok (.iload_n 1, 1) := by decide +kernel
theorem d_M_tell_7 : decode b_M_tell 7 = .ok (.ifCond .ne 7, 3) := by decide +kernel
theorem d_M_tell_10 : decode b_M_tell 10 = .ok (.iconst (-1), 1) := by decide +kernel
theorem d_M_tell_11 : decode b_M_tell 11 = .ok (.goto 4, 3) := by decide +kernel
theorem d_M_tell_14 : decode b_M_tell 14 = .ok (.iload_n 2, 1) := by decide +kernel
theorem d_M_tell_15 : decode b_M_tell 15 = .ok (.putfield 14, 3) := by decide +kernel
theorem d_M_tell_18 : decode b_M_tell 18 = .ok (.return_, 1) := by decide +kernel
theorem zy_M_fault : zy y_M_fault b_M_fault 2 (some .int) 1 := ⟨zmem 1158 (by decide +kernel) (by decide +kernel), zmem 73 (by decide +kernel) (by decide +kernel), by decide +kernel⟩
theorem zv_M_fault : Cond.instanceMethod y_M_fault ∈ ztb ∧ Cond.selects y_M_fault.cls y_M_fault y_M_fault ∈ ztb := ⟨zmem 1156 (by decide +kernel) (by decide +kernel), zmem 1157 (by decide +kernel) (by decide +kernel)⟩
theorem d_M_fault_0 : decode b_M_fault 0 = .ok (.aload_n 0, 1) := by decide +kernel
theorem d_M_fault_1 : decode b_M_fault 1 = .ok (.iconst 0, 1) := by decide +kernel
theorem d_M_fault_2 : decode b_M_fault 2 = .ok (.putfield 48, 3) := by decide +kernel
theorem d_M_fault_5 : decode b_M_fault 5 = .ok (.iload_n 1, 1) := by decide +kernel
theorem d_M_fault_6 : decode b_M_fault 6 = .ok (.ifCond .eq 10, 3) := by decide +kernel
theorem d_M_fault_9 : decode b_M_fault 9 = .ok (.aload_n 0, 1) := by decide +kernel
theorem d_M_fault_10 : decode b_M_fault 10 = .ok (.getfield 14, 3) := by decide +kernel
theorem d_M_fault_13 : decode b_M_fault 13 = .ok (.goto 7, 3) := by decide +kernel
theorem d_M_fault_16 : decode b_M_fault 16 = .ok (.aload_n 0, 1) := by decide +kernel
theorem d_M_fault_17 : decode b_M_fault 17 = .ok (.getfield 91, 3) := by decide +kernel
theorem d_M_fault_20 : decode b_M_fault 20 = .ok (.ireturn, 1) := by decide +kernel
theorem zy_M_draft : zy y_M_draft b_M_draft 2 none 0 := ⟨zmem 1179 (by decide +kernel) (by decide +kernel), zmem 73 (by decide +kernel) (by decide +kernel), by decide +kernel⟩
theorem zv_M_draft : Cond.instanceMethod y_M_draft ∈ ztb ∧ Cond.selects y_M_draft.cls y_M_draft y_M_draft ∈ ztb := ⟨zmem 1177 (by decide +kernel) (by decide +kernel), zmem 1178 (by decide +kernel) (by decide +kernel)⟩
theorem d_M_draft_0 : decode b_M_draft 0 = .ok (.aload_n 0, 1) := by decide +kernel
theorem d_M_draft_1 : decode b_M_draft 1 = .ok (.iconst 0, 1) := by decide +kernel
theorem d_M_draft_2 : decode b_M_draft 2 = .ok (.putfield 48, 3) := by decide +kernel
theorem d_M_draft_5 : decode b_M_draft 5 = .ok (.iconst 0, 1) := by decide +kernel
theorem d_M_draft_6 : decode b_M_draft 6 = .ok (.istore_n 1, 1) := by decide +kernel
theorem d_M_draft_7 : decode b_M_draft 7 = .ok (.iload_n 1, 1) := by decide +kernel
theorem d_M_draft_8 : decode b_M_draft 8 = .ok (.bipush 12, 2) := by decide +kernel
theorem d_M_draft_10 : decode b_M_draft 10 = .ok (.if_icmp .ge 16, 3) := by decide +kernel
theorem d_M_draft_13 : decode b_M_draft 13 = .ok (.aload_n 0, 1) := by decide +kernel
theorem d_M_draft_14 : decode b_M_draft 14 = .ok (.getfield 26, 3) := by decide +kernel
theorem d_M_draft_17 : decode b_M_draft 17 = .ok (.iload_n 1, 1) := by decide +kernel
theorem d_M_draft_18 : decode b_M_draft 18 = .ok (.lconst 0, 1) := by decide +kernel
theorem d_M_draft_19 : decode b_M_draft 19 = .ok (.lastore, 1) := by decide +kernel
theorem d_M_draft_20 : decode b_M_draft 20 = .ok (.iinc 1 1, 3) := by decide +kernel
theorem d_M_draft_23 : decode b_M_draft 23 = .ok (.goto (-16), 3) := by decide +kernel
theorem d_M_draft_26 : decode b_M_draft 26 = .ok (.aload_n 0, 1) := by decide +kernel
theorem d_M_draft_27 : decode b_M_draft 27 = .ok (.iconst 0, 1) := by decide +kernel
theorem d_M_draft_28 : decode b_M_draft 28 = .ok (.putfield 211, 3) := by decide +kernel
theorem d_M_draft_31 : decode b_M_draft 31 = .ok (.aload_n 0, 1) := by decide +kernel
theorem d_M_draft_32 : decode b_M_draft 32 = .ok (.iconst 0, 1) := by decide +kernel
theorem d_M_draft_33 : decode b_M_draft 33 = .ok (.putfield 214, 3) := by decide +kernel
theorem d_M_draft_36 : decode b_M_draft 36 = .ok (.return_, 1) := by decide +kernel
theorem zin_M_120 : Cond.methodLink R_M 120 y_M_take ∈ ztb := zmem 1087 (by decide +kernel) (by decide +kernel)
theorem zin_M_124 : Cond.methodLink R_M 124 y_M_look ∈ ztb := zmem 1079 (by decide +kernel) (by decide +kernel)
theorem zin_M_128 : Cond.methodLink R_M 128 y_M_takeNumber ∈ ztb := zmem 1083 (by decide +kernel) (by decide +kernel)
theorem zin_M_132 : Cond.constantLong R_M 132 (-1 : Int64) ∈ ztb := zmem 937 (by decide +kernel) (by decide +kernel)
theorem zin_M_141 : Cond.methodLink R_M 141 y_M_pass ∈ ztb := zmem 1126 (by decide +kernel) (by decide +kernel)
theorem zin_M_144 : Cond.fieldLink R_M 144 "WireCodecModel" "dataAt" "I" ∈ ztb := zmem 951 (by decide +kernel) (by decide +kernel)
theorem zin_M_147 : Cond.fieldLink R_M 147 "WireCodecModel" "dataSize" "I" ∈ ztb := zmem 952 (by decide +kernel) (by decide +kernel)
theorem zin_M_22 : Cond.fieldLink R_M 22 "WireCodecModel" "field" "[J" ∈ ztb := zmem 950 (by decide +kernel) (by decide +kernel)
theorem zin_M_137 : Cond.methodLink R_M 137 y_M_takeData ∈ ztb := zmem 1122 (by decide +kernel) (by decide +kernel)
theorem zin_M_150 : Cond.fieldLink R_M 150 "WireCodecModel" "rangesAt" "I" ∈ ztb := zmem 955 (by decide +kernel) (by decide +kernel)
theorem zin_M_153 : Cond.fieldLink R_M 153 "WireCodecModel" "ranges" "I" ∈ ztb := zmem 954 (by decide +kernel) (by decide +kernel)
theorem zin_M_171 : Cond.methodLink R_M 171 y_M_isAck ∈ ztb := zmem 1111 (by decide +kernel) (by decide +kernel)
theorem zin_M_188 : Cond.constantLong R_M 188 (1152921504606846976 : Int64) ∈ ztb := zmem 1150 (by decide +kernel) (by decide +kernel)
theorem zin_M_184 : Cond.methodLink R_M 184 y_M_edge ∈ ztb := zmem 1146 (by decide +kernel) (by decide +kernel)
theorem zin_M_211 : Cond.fieldLink R_M 211 "WireCodecModel" "gives" "I" ∈ ztb := zmem 961 (by decide +kernel) (by decide +kernel)
theorem zin_M_214 : Cond.fieldLink R_M 214 "WireCodecModel" "spans" "I" ∈ ztb := zmem 964 (by decide +kernel) (by decide +kernel)
theorem zin_M_26 : Cond.fieldLink R_M 26 "WireCodecModel" "draft" "[J" ∈ ztb := zmem 959 (by decide +kernel) (by decide +kernel)
noncomputable def g_M_takeNumber_w20 (sM_20 : zM) : Option (Int64 × zM) := some ((0 : Int64), sM_20)
noncomputable def g_M_takeNumber_18 (N : Nat) (sM : zM) : Option (Int64 × zM) := g_M_takeNumber_w20 (zM_over' sM (1 : Int32))
noncomputable def g_M_takeNumber_68 (N : Nat) (sM : zM) (s0 : Int64) (s1 : Int64) : Option (Int64 × zM) := some (s1 &&& s0, sM)
noncomputable def g_M_takeNumber_c41 (N : Nat) (r_31 : Int32) (sM_41 : zM) (r_41 : Int64) : Option (Int64 × zM) := if ((1 : Int32) <<< ((r_31 >>> ((6 : Int32) &&& 31)) &&& 31)) = (8 : Int32) then (g_M_takeNumber_68 N sM_41 (4611686018427387903 : Int64) r_41) else (g_M_takeNumber_68 N sM_41 (((1 : Int64) <<< ((((8 : Int32) * ((1 : Int32) <<< ((r_31 >>> ((6 : Int32) &&& 31)) &&& 31))) - (2 : Int32)).toInt64 &&& 63)) - (1 : Int64)) r_41)
noncomputable def g_M_takeNumber_c31 (N : Nat) (sM : zM) (r_31 : Int32) : Option (Int64 × zM) := (g_M_take N sM ((1 : Int32) <<< ((r_31 >>> ((6 : Int32) &&& 31)) &&& 31))).bind (fun a => g_M_takeNumber_c41 N r_31 a.2 a.1)
noncomputable def g_M_takeNumber (N : Nat) (sM : zM) : Option (Int64 × zM) := if (zM_over sM) = (0 : Int32) then (if (zM_at sM) < (zM_end sM) then ((g_M_byteAt sM (zM_at sM)).bind (fun a => g_M_takeNumber_c31 N sM a)) else (g_M_takeNumber_18 N sM)) else (g_M_takeNumber_18 N sM)
def q_M_takeNumber (dC : Nat → ClassId) (dI : Nat → Nat → Nat) (cB cI cL : ClassId) (A : Nat → Prop) (adM : Nat) (adM_tape : Nat) (adM_frameAt : Nat) (adM_field : Nat) (adM_draft : Nat) (adM_given : Nat) (adM_low : Nat) (adM_high : Nat) (adM_packet : Nat) (adM_known : Nat) (a : Int64 × zM) : Array Value → State → Outcome → State → Prop := va_Ql (fun (r : Int64) (u : zM) => (r, u) = a) (fun u U => va_P (dC, dI) zcl (zwM adM adM_tape adM_frameAt adM_field adM_draft adM_given adM_low adM_high adM_packet adM_known cB cI cL u) U.heap ∧ va_D A (zwM adM adM_tape adM_frameAt adM_field adM_draft adM_given adM_low adM_high adM_packet adM_known cB cI cL u)) A
set_option maxRecDepth 100000 in
set_option maxHeartbeats 4000000 in
theorem k_M_takeNumber_18 {p : Program} {l : Launch} {e : Env} {R : Room} {s : State} {m : MethodId} {args : Array Value} {below : List Frame} {meth : Method} {c : Code} {dC : Nat → ClassId} {dI : Nat → Nat → Nat} {cB cI cL : ClassId} {A : Nat → Prop} (X : zx p s m args meth c R R_M b_M_takeNumber (some .long) 4 2 45) (hA : ∀ q, s.heap.size ≤ q → A q) (zz : zk dC dI cB cI cL A s)  (N : Nat) (sM : zM) (a : Int64 × zM) (hG : g_M_takeNumber_18 N sM = some a) (adM adM_tape adM_frameAt adM_field adM_draft adM_given adM_low adM_high adM_packet adM_known : Nat) (H : Heap) (locs : List Loc) (hP : va_P (dC, dI) zcl (zwM adM adM_tape adM_frameAt adM_field adM_draft adM_given adM_low adM_high adM_packet adM_known cB cI cL sM) H) (hD : va_D A (zwM adM adM_tape adM_frameAt adM_field adM_draft adM_given adM_low adM_high adM_packet adM_known cB cI cL sM)) (hS : va_S A s.heap H locs) (ls : Array Slot) (hl : lv_has ls 4 [(0, .ref adM)]) : W p l e R s m args below meth c H locs 0 0 (MQ below (q_M_takeNumber dC dI cB cI cL A adM adM_tape adM_frameAt adM_field adM_draft adM_given adM_low adM_high adM_packet adM_known a) args s 0 0 A) (F0 m 18 ls []) := by
  obtain ⟨hx, hb, hr, hml, hown, hts, hlocks, hRf, hRl⟩ := id X
  unfold g_M_takeNumber_18 at hG
  refine lv_aload_n hx hb d_M_takeNumber_18 rfl (lv_at hl 0 rfl) ?_
  refine lv_iconst (v := (1 : Int32)) hx hb d_M_takeNumber_19 (by decide) ?_
  refine va_put (D := (dC, dI)) (ci := 8) (v := .int (1 : Int32)) (ty := .boolean) (C := R_M) (T := F_M) (N := 26) hx hb hts zi_M zty_M zty_M_ok znm_M hown zz.1 hP hD hS 0 rfl rfl 15 (by decide) (hts (.fieldLink R_M 116 "WireCodecModel" "over" "Z") zin_M_116) (fun _ h9 => h9) rfl (by decide +kernel) rfl rfl (Nat.le_of_ble_eq_true rfl) d_M_takeNumber_20 (fun H locs hP hD hS => ?_)
  have hP := zp_M_over hP
  have hD := zd_M_over hD
  have hG : g_M_takeNumber_w20 (zM_over' sM (1 : Int32)) = some a := hG
  generalize zM_over' sM (1 : Int32) = sM_20 at hP hD hG
  unfold g_M_takeNumber_w20 at hG
  refine lv_lconst (v := (0 : Int64)) hx hb d_M_takeNumber_23 (by decide) ?_
  exact W.lret (v := (0 : Int64)) hx hb hr (fun t9 ht9 hW9 => ⟨⟨(0 : Int64), (sM_20), rfl, Option.some.inj hG, by rw [ht9]; exact hP, hD⟩, hS.F ht9⟩) hS.2.2 d_M_takeNumber_24
set_option maxRecDepth 100000 in
set_option maxHeartbeats 4000000 in
theorem k_M_takeNumber_68 {p : Program} {l : Launch} {e : Env} {R : Room} {s : State} {m : MethodId} {args : Array Value} {below : List Frame} {meth : Method} {c : Code} {dC : Nat → ClassId} {dI : Nat → Nat → Nat} {cB cI cL : ClassId} {A : Nat → Prop} (X : zx p s m args meth c R R_M b_M_takeNumber (some .long) 4 2 45) (hA : ∀ q, s.heap.size ≤ q → A q) (zz : zk dC dI cB cI cL A s)  (N : Nat) (sM : zM) (s0 : Int64) (s1 : Int64) (a : Int64 × zM) (hG : g_M_takeNumber_68 N sM s0 s1 = some a) (adM adM_tape adM_frameAt adM_field adM_draft adM_given adM_low adM_high adM_packet adM_known : Nat) (H : Heap) (locs : List Loc) (hP : va_P (dC, dI) zcl (zwM adM adM_tape adM_frameAt adM_field adM_draft adM_given adM_low adM_high adM_packet adM_known cB cI cL sM) H) (hD : va_D A (zwM adM adM_tape adM_frameAt adM_field adM_draft adM_given adM_low adM_high adM_packet adM_known cB cI cL sM)) (hS : va_S A s.heap H locs) (ls : Array Slot) (hl : lv_has ls 4 []) : W p l e R s m args below meth c H locs 0 0 (MQ below (q_M_takeNumber dC dI cB cI cL A adM adM_tape adM_frameAt adM_field adM_draft adM_given adM_low adM_high adM_packet adM_known a) args s 0 0 A) (F0 m 68 ls [.long s0, .long s1]) := by
  obtain ⟨hx, hb, hr, hml, hown, hts, hlocks, hRf, hRl⟩ := id X
  unfold g_M_takeNumber_68 at hG
  refine lv_land hx hb d_M_takeNumber_68 ?_
  exact W.lret (v := s1 &&& s0) hx hb hr (fun t9 ht9 hW9 => ⟨⟨s1 &&& s0, (sM), rfl, Option.some.inj hG, by rw [ht9]; exact hP, hD⟩, hS.F ht9⟩) hS.2.2 d_M_takeNumber_69
set_option maxRecDepth 100000 in
set_option maxHeartbeats 4000000 in
theorem k_M_takeNumber_0 {p : Program} {l : Launch} {e : Env} {R : Room} {s : State} {m : MethodId} {args : Array Value} {below : List Frame} {meth : Method} {c : Code} {dC : Nat → ClassId} {dI : Nat → Nat → Nat} {cB cI cL : ClassId} {A : Nat → Prop} (X : zx p s m args meth c R R_M b_M_takeNumber (some .long) 4 2 45) (hA : ∀ q, s.heap.size ≤ q → A q) (zz : zk dC dI cB cI cL A s)  (N : Nat) (sM : zM) (a : Int64 × zM) (hG : g_M_takeNumber N sM = some a) (adM adM_tape adM_frameAt adM_field adM_draft adM_given adM_low adM_high adM_packet adM_known : Nat) (H : Heap) (locs : List Loc) (hP : va_P (dC, dI) zcl (zwM adM adM_tape adM_frameAt adM_field adM_draft adM_given adM_low adM_high adM_packet adM_known cB cI cL sM) H) (hD : va_D A (zwM adM adM_tape adM_frameAt adM_field adM_draft adM_given adM_low adM_high adM_packet adM_known cB cI cL sM)) (hS : va_S A s.heap H locs) (ls : Array Slot) (hl : lv_has ls 4 [(0, .ref adM)]) : W p l e R s m args below meth c H locs 0 0 (MQ below (q_M_takeNumber dC dI cB cI cL A adM adM_tape adM_frameAt adM_field adM_draft adM_given adM_low adM_high adM_packet adM_known a) args s 0 0 A) (F0 m 0 ls []) := by
  obtain ⟨hx, hb, hr, hml, hown, hts, hlocks, hRf, hRl⟩ := id X
  unfold g_M_takeNumber at hG
  refine lv_aload_n hx hb d_M_takeNumber_0 rfl (lv_at hl 0 rfl) ?_
  refine va_get (D := (dC, dI)) (ci := 8) (v := .int (zM_over sM)) (C := R_M) (T := F_M) (N := 26) hx hb hts zi_M hown zz.1 hP 0 rfl rfl 15 (by decide) (hts (.fieldLink R_M 116 "WireCodecModel" "over" "Z") zin_M_116) (fun _ h9 => h9) rfl d_M_takeNumber_1 ?_
  refine lv_if_ne (tgt := 18) hx hb d_M_takeNumber_4 (by decide) (fun hc => ?_) (fun hc => ?_)
  · have hG := zf hG hc
    exact k_M_takeNumber_18 X hA zz N sM _ hG adM adM_tape adM_frameAt adM_field adM_draft adM_given adM_low adM_high adM_packet adM_known _ _ hP hD hS _ (lv_sub hl [0] rfl)
  · have hG := zt hG hc
    refine lv_aload_n hx hb d_M_takeNumber_7 rfl (lv_at hl 0 rfl) ?_
    refine va_get (D := (dC, dI)) (ci := 8) (v := .int (zM_at sM)) (C := R_M) (T := F_M) (N := 26) hx hb hts zi_M hown zz.1 hP 0 rfl rfl 14 (by decide) (hts (.fieldLink R_M 110 "WireCodecModel" "at" "I") zin_M_110) (fun _ h9 => h9) rfl d_M_takeNumber_8 ?_
    refine lv_aload_n hx hb d_M_takeNumber_11 rfl (lv_at hl 0 rfl) ?_
    refine va_get (D := (dC, dI)) (ci := 8) (v := .int (zM_end sM)) (C := R_M) (T := F_M) (N := 26) hx hb hts zi_M hown zz.1 hP 0 rfl rfl 16 (by decide) (hts (.fieldLink R_M 113 "WireCodecModel" "end" "I") zin_M_113) (fun _ h9 => h9) rfl d_M_takeNumber_12 ?_
    refine lv_icmp_lt (tgt := 25) hx hb d_M_takeNumber_15 (by decide) (fun hc => ?_) (fun hc => ?_)
    · have hG := zt hG hc
      refine lv_iconst (v := (1 : Int32)) hx hb d_M_takeNumber_25 (by decide) ?_
      refine lv_aload_n hx hb d_M_takeNumber_26 rfl (lv_at hl 0 rfl) ?_
      refine lv_aload_n hx hb d_M_takeNumber_27 rfl (lv_at hl 0 rfl) ?_
      refine va_get (D := (dC, dI)) (ci := 8) (v := .int (zM_at sM)) (C := R_M) (T := F_M) (N := 26) hx hb hts zi_M hown zz.1 hP 0 rfl rfl 14 (by decide) (hts (.fieldLink R_M 110 "WireCodecModel" "at" "I") zin_M_110) (fun _ h9 => h9) rfl d_M_takeNumber_28 ?_
      obtain ⟨a_31, hx_31, hG⟩ := zb hG
      have hr_31 := zrunV (p := p) (e := e) (below := below) (meth := meth) (As := [.int (zM_at sM)]) (rest := [.int (1 : Int32)]) (st0 := [.int (zM_at sM), .ref adM, .int (1 : Int32)]) (cells := 0) (slots := 0) X zz hP hD hS hA [0, 1, 2, 3, 4, 5, 6, 7, 8, 9] (by decide) rfl (c_M_byteAt l dC dI cB cI cL H.size adM adM_tape adM_frameAt adM_field adM_draft adM_given adM_low adM_high adM_packet adM_known sM (zM_at sM) _ hx_31) zy_M_byteAt zv_M_byteAt (hts (.methodLink R_M 106 y_M_byteAt) zin_M_106) hl rfl rfl d_M_takeNumber_31 (lv_room (Nat.le_of_ble_eq_true rfl)) rfl rfl ⟨Nat.le_trans (Nat.le_of_ble_eq_true rfl) hRf, Nat.le_trans (Nat.le_of_ble_eq_true rfl) hRl⟩ ⟨Nat.zero_le _, Nat.zero_le _⟩ 0 8 rfl rfl
      refine zcalli (wr := ([] : va_W)) hr_31 hP hD hS hA [0, 1, 2, 3, 4, 5, 6, 7, 8, 9] [] rfl rfl (by decide) (by decide) (fun r_31 u_31 H locs hw_31 hP hD hS => ?_)
      subst hw_31
      have hP : va_P (dC, dI) zcl (zwM adM adM_tape adM_frameAt adM_field adM_draft adM_given adM_low adM_high adM_packet adM_known cB cI cL sM) H := hP
      have hD : va_D A (zwM adM adM_tape adM_frameAt adM_field adM_draft adM_given adM_low adM_high adM_packet adM_known cB cI cL sM) := hD
      have hG : g_M_takeNumber_c31 N sM r_31 = some a := hG
      unfold g_M_takeNumber_c31 at hG
      refine lv_bipush (v := (6 : Int32)) hx hb d_M_takeNumber_34 (by decide) ?_
      refine lv_ishr hx hb d_M_takeNumber_36 ?_
      refine lv_ishl hx hb d_M_takeNumber_37 ?_
      refine lv_istore_n (lv' := [(1, .int ((1 : Int32) <<< ((r_31 >>> ((6 : Int32) &&& 31)) &&& 31))), (0, .ref adM)]) hx hb d_M_takeNumber_38 rfl hl (by decide) rfl (fun ls hl => ?_)
      refine lv_aload_n hx hb d_M_takeNumber_39 rfl (lv_at hl 1 rfl) ?_
      refine lv_iload_n hx hb d_M_takeNumber_40 rfl (lv_at hl 0 rfl) ?_
      obtain ⟨a_41, hx_41, hG⟩ := zb hG
      have hr_41 := zrunV (p := p) (e := e) (below := below) (meth := meth) (As := [.int ((1 : Int32) <<< ((r_31 >>> ((6 : Int32) &&& 31)) &&& 31))]) (rest := []) (st0 := [.int ((1 : Int32) <<< ((r_31 >>> ((6 : Int32) &&& 31)) &&& 31)), .ref adM]) (cells := 0) (slots := 0) X zz hP hD hS hA [0, 1, 2, 3, 4, 5, 6, 7, 8, 9] (by decide) rfl (c_M_take l dC dI cB cI cL H.size adM adM_tape adM_frameAt adM_field adM_draft adM_given adM_low adM_high adM_packet adM_known N sM ((1 : Int32) <<< ((r_31 >>> ((6 : Int32) &&& 31)) &&& 31)) _ hx_41) zy_M_take zv_M_take (hts (.methodLink R_M 120 y_M_take) zin_M_120) hl rfl rfl d_M_takeNumber_41 (lv_room (Nat.le_of_ble_eq_true rfl)) rfl rfl ⟨Nat.le_trans (Nat.le_of_ble_eq_true rfl) hRf, Nat.le_trans (Nat.le_of_ble_eq_true rfl) hRl⟩ ⟨Nat.zero_le _, Nat.zero_le _⟩ 0 8 rfl rfl
      refine zcalll (wr := ([] : va_W)) hr_41 hP hD hS hA [0, 1, 2, 3, 4, 5, 6, 7, 8, 9] [] rfl rfl (by decide) (by decide) (fun r_41 u_41 H locs hw_41 hP hD hS => ?_)
      obtain ⟨sM_41, rfl⟩ : ∃ z, z = u_41 := ⟨_, rfl⟩
      subst hw_41
      have hP : va_P (dC, dI) zcl (zwM adM adM_tape adM_frameAt adM_field adM_draft adM_given adM_low adM_high adM_packet adM_known cB cI cL sM_41) H := hP
      have hD : va_D A (zwM adM adM_tape adM_frameAt adM_field adM_draft adM_given adM_low adM_high adM_packet adM_known cB cI cL sM_41) := hD
      have hG : g_M_takeNumber_c41 N r_31 sM_41 r_41 = some a := hG
      unfold g_M_takeNumber_c41 at hG
      refine lv_lstore_n (lv' := [(2, .long r_41), (1, .int ((1 : Int32) <<< ((r_31 >>> ((6 : Int32) &&& 31)) &&& 31))), (0, .ref adM)]) hx hb d_M_takeNumber_44 rfl hl (by decide) rfl (fun ls hl => ?_)
      refine lv_lload_n hx hb d_M_takeNumber_45 rfl (lv_at hl 0 rfl) ?_
      refine lv_iload_n hx hb d_M_takeNumber_46 rfl (lv_at hl 1 rfl) ?_
      refine lv_bipush (v := (8 : Int32)) hx hb d_M_takeNumber_47 (by decide) ?_
      refine lv_icmp_ne (tgt := 58) hx hb d_M_takeNumber_49 (by decide) (fun hc => ?_) (fun hc => ?_)
      · have hG := zf hG hc
        refine lv_lconst (v := (1 : Int64)) hx hb d_M_takeNumber_58 (by decide) ?_
        refine lv_bipush (v := (8 : Int32)) hx hb d_M_takeNumber_59 (by decide) ?_
        refine lv_iload_n hx hb d_M_takeNumber_61 rfl (lv_at hl 1 rfl) ?_
        refine lv_imul hx hb d_M_takeNumber_62 ?_
        refine lv_iconst (v := (2 : Int32)) hx hb d_M_takeNumber_63 (by decide) ?_
        refine lv_isub hx hb d_M_takeNumber_64 ?_
        refine lv_lshl hx hb d_M_takeNumber_65 rfl ?_
        refine lv_lconst (v := (1 : Int64)) hx hb d_M_takeNumber_66 (by decide) ?_
        refine lv_lsub hx hb d_M_takeNumber_67 ?_
        exact k_M_takeNumber_68 X hA zz N sM_41 (((1 : Int64) <<< ((((8 : Int32) * ((1 : Int32) <<< ((r_31 >>> ((6 : Int32) &&& 31)) &&& 31))) - (2 : Int32)).toInt64 &&& 63)) - (1 : Int64)) r_41 _ hG adM adM_tape adM_frameAt adM_field adM_draft adM_given adM_low adM_high adM_packet adM_known _ _ hP hD hS _ (lv_sub hl [] rfl)
      · have hG := zt hG hc
        refine lv_ldc2 (v := (4611686018427387903 : Int64)) hx hb hown (hts (.constantLong R_M 51 (4611686018427387903 : Int64)) zin_M_51) d_M_takeNumber_52 ?_
        refine lv_goto (tgt := 68) hx hb d_M_takeNumber_55 (by decide) ?_
        exact k_M_takeNumber_68 X hA zz N sM_41 (4611686018427387903 : Int64) r_41 _ hG adM adM_tape adM_frameAt adM_field adM_draft adM_given adM_low adM_high adM_packet adM_known _ _ hP hD hS _ (lv_sub hl [] rfl)
    · have hG := zf hG hc
      exact k_M_takeNumber_18 X hA zz N sM _ hG adM adM_tape adM_frameAt adM_field adM_draft adM_given adM_low adM_high adM_packet adM_known _ _ hP hD hS _ (lv_sub hl [0] rfl)
set_option maxRecDepth 100000 in
set_option maxHeartbeats 4000000 in
theorem c_M_takeNumber (l : Launch) (dC : Nat → ClassId) (dI : Nat → Nat → Nat) (cB cI cL : ClassId) (sz : Nat) (adM adM_tape adM_frameAt adM_field adM_draft adM_given adM_low adM_high adM_packet adM_known : Nat) (N : Nat) (sM : zM) (a : Int64 × zM) (hG : g_M_takeNumber N sM = some a) : Met l y_M_takeNumber (zw y_M_takeNumber b_M_takeNumber 4 (some .long)) ({ frames := 2, cells := 0, slots := 0, locals := 45 }) (va_Pc [.ref adM] (zpre dC dI cB cI cL sz (zwM adM adM_tape adM_frameAt adM_field adM_draft adM_given adM_low adM_high adM_packet adM_known cB cI cL sM))) (q_M_takeNumber dC dI cB cI cL (va_A (zwM adM adM_tape adM_frameAt adM_field adM_draft adM_given adM_low adM_high adM_packet adM_known cB cI cL sM) sz) adM adM_tape adM_frameAt adM_field adM_draft adM_given adM_low adM_high adM_packet adM_known a) 0 0 (va_A (zwM adM adM_tape adM_frameAt adM_field adM_draft adM_given adM_low adM_high adM_packet adM_known cB cI cL sM) sz) := by
  refine Met.ofW (cc := b_M_takeNumber) (maxL := 4) (ret := (some .long)) (by decide) rfl ?_
  intro p e s m args below meth c s₁ B hml hv
  obtain ⟨rfl, hsz, hP, zz, hD0⟩ := hv
  subst hsz
  have X := zx_of (F := 2) (L := 45) B hml (Nat.le_refl _) (Nat.le_refl _)
  have hD := hD0.self (sz := s.heap.size)
  have hA : ∀ q : Nat, s.heap.size ≤ q → va_A (zwM adM adM_tape adM_frameAt adM_field adM_draft adM_given adM_low adM_high adM_packet adM_known cB cI cL sM) s.heap.size q := fun q h => Or.inr h
  have hl := lv_entry ([.ref adM]) (n := 4) (Nat.le_of_ble_eq_true rfl)
  rw [lg_entry_eq]
  generalize (lg_sl ([.ref adM]) ++ List.replicate (4 - (lg_sl ([.ref adM])).length) Slot.unset).toArray = ls at hl ⊢
  exact k_M_takeNumber_0 X hA zz N sM a hG adM adM_tape adM_frameAt adM_field adM_draft adM_given adM_low adM_high adM_packet adM_known _ _ hP hD va_S.rf ls hl
noncomputable def g_M_pass_w29 (v3 : Int32) (sM_29 : zM) : Option (Int32 × zM) := some (v3, sM_29)
noncomputable def g_M_pass_27 (sM : zM) (v3 : Int32) : Option (Int32 × zM) := g_M_pass_w29 v3 (zM_over' sM (1 : Int32))
noncomputable def g_M_pass_w42 (sM : zM) (sM_42 : zM) : Option (Int32 × zM) := some (zM_at sM, sM_42)
noncomputable def g_M_pass (sM : zM) (v1 : Int64) : Option (Int32 × zM) := if (zM_over sM) = (0 : Int32) then (if (0 : Int32) ≤ (lg_cmp (((zM_end sM) - (zM_at sM)).toInt64) v1) then (g_M_pass_w42 sM (zM_at' sM ((zM_at sM) + v1.toInt32))) else (g_M_pass_27 sM (zM_at sM))) else (g_M_pass_27 sM (zM_at sM))
def q_M_pass (dC : Nat → ClassId) (dI : Nat → Nat → Nat) (cB cI cL : ClassId) (A : Nat → Prop) (adM : Nat) (adM_tape : Nat) (adM_frameAt : Nat) (adM_field : Nat) (adM_draft : Nat) (adM_given : Nat) (adM_low : Nat) (adM_high : Nat) (adM_packet : Nat) (adM_known : Nat) (a : Int32 × zM) : Array Value → State → Outcome → State → Prop := va_Qi (fun (r : Int32) (u : zM) => (r, u) = a) (fun u U => va_P (dC, dI) zcl (zwM adM adM_tape adM_frameAt adM_field adM_draft adM_given adM_low adM_high adM_packet adM_known cB cI cL u) U.heap ∧ va_D A (zwM adM adM_tape adM_frameAt adM_field adM_draft adM_given adM_low adM_high adM_packet adM_known cB cI cL u)) A
set_option maxRecDepth 100000 in
set_option maxHeartbeats 4000000 in
theorem k_M_pass_27 {p : Program} {l : Launch} {e : Env} {R : Room} {s : State} {m : MethodId} {args : Array Value} {below : List Frame} {meth : Method} {c : Code} {dC : Nat → ClassId} {dI : Nat → Nat → Nat} {cB cI cL : ClassId} {A : Nat → Prop} (X : zx p s m args meth c R R_M b_M_pass (some .int) 4 0 0) (hA : ∀ q, s.heap.size ≤ q → A q) (zz : zk dC dI cB cI cL A s)  (sM : zM) (v3 : Int32) (a : Int32 × zM) (hG : g_M_pass_27 sM v3 = some a) (adM adM_tape adM_frameAt adM_field adM_draft adM_given adM_low adM_high adM_packet adM_known : Nat) (H : Heap) (locs : List Loc) (hP : va_P (dC, dI) zcl (zwM adM adM_tape adM_frameAt adM_field adM_draft adM_given adM_low adM_high adM_packet adM_known cB cI cL sM) H) (hD : va_D A (zwM adM adM_tape adM_frameAt adM_field adM_draft adM_given adM_low adM_high adM_packet adM_known cB cI cL sM)) (hS : va_S A s.heap H locs) (ls : Array Slot) (hl : lv_has ls 4 [(0, .ref adM), (3, .int v3)]) : W p l e R s m args below meth c H locs 0 0 (MQ below (q_M_pass dC dI cB cI cL A adM adM_tape adM_frameAt adM_field adM_draft adM_given adM_low adM_high adM_packet adM_known a) args s 0 0 A) (F0 m 27 ls []) := by
  obtain ⟨hx, hb, hr, hml, hown, hts, hlocks, hRf, hRl⟩ := id X
  unfold g_M_pass_27 at hG
  refine lv_aload_n hx hb d_M_pass_27 rfl (lv_at hl 0 rfl) ?_
  refine lv_iconst (v := (1 : Int32)) hx hb d_M_pass_28 (by decide) ?_
  refine va_put (D := (dC, dI)) (ci := 8) (v := .int (1 : Int32)) (ty := .boolean) (C := R_M) (T := F_M) (N := 26) hx hb hts zi_M zty_M zty_M_ok znm_M hown zz.1 hP hD hS 0 rfl rfl 15 (by decide) (hts (.fieldLink R_M 116 "WireCodecModel" "over" "Z") zin_M_116) (fun _ h9 => h9) rfl (by decide +kernel) rfl rfl (Nat.le_of_ble_eq_true rfl) d_M_pass_29 (fun H locs hP hD hS => ?_)
  have hP := zp_M_over hP
  have hD := zd_M_over hD
  have hG : g_M_pass_w29 v3 (zM_over' sM (1 : Int32)) = some a := hG
  generalize zM_over' sM (1 : Int32) = sM_29 at hP hD hG
  unfold g_M_pass_w29 at hG
  refine lv_iload_n hx hb d_M_pass_32 rfl (lv_at hl 1 rfl) ?_
  exact W.iret (v := v3) hx hb hr (fun t9 ht9 hW9 => ⟨⟨v3, (sM_29), rfl, Option.some.inj hG, by rw [ht9]; exact hP, hD⟩, hS.F ht9⟩) hS.2.2 d_M_pass_33
set_option maxRecDepth 100000 in
set_option maxHeartbeats 4000000 in
theorem k_M_pass_0 {p : Program} {l : Launch} {e : Env} {R : Room} {s : State} {m : MethodId} {args : Array Value} {below : List Frame} {meth : Method} {c : Code} {dC : Nat → ClassId} {dI : Nat → Nat → Nat} {cB cI cL : ClassId} {A : Nat → Prop} (X : zx p s m args meth c R R_M b_M_pass (some .int) 4 0 0) (hA : ∀ q, s.heap.size ≤ q → A q) (zz : zk dC dI cB cI cL A s)  (sM : zM) (v1 : Int64) (a : Int32 × zM) (hG : g_M_pass sM v1 = some a) (adM adM_tape adM_frameAt adM_field adM_draft adM_given adM_low adM_high adM_packet adM_known : Nat) (H : Heap) (locs : List Loc) (hP : va_P (dC, dI) zcl (zwM adM adM_tape adM_frameAt adM_field adM_draft adM_given adM_low adM_high adM_packet adM_known cB cI cL sM) H) (hD : va_D A (zwM adM adM_tape adM_frameAt adM_field adM_draft adM_given adM_low adM_high adM_packet adM_known cB cI cL sM)) (hS : va_S A s.heap H locs) (ls : Array Slot) (hl : lv_has ls 4 [(0, .ref adM), (1, .long v1)]) : W p l e R s m args below meth c H locs 0 0 (MQ below (q_M_pass dC dI cB cI cL A adM adM_tape adM_frameAt adM_field adM_draft adM_given adM_low adM_high adM_packet adM_known a) args s 0 0 A) (F0 m 0 ls []) := by
  obtain ⟨hx, hb, hr, hml, hown, hts, hlocks, hRf, hRl⟩ := id X
  unfold g_M_pass at hG
  refine lv_aload_n hx hb d_M_pass_0 rfl (lv_at hl 0 rfl) ?_
  refine va_get (D := (dC, dI)) (ci := 8) (v := .int (zM_at sM)) (C := R_M) (T := F_M) (N := 26) hx hb hts zi_M hown zz.1 hP 0 rfl rfl 14 (by decide) (hts (.fieldLink R_M 110 "WireCodecModel" "at" "I") zin_M_110) (fun _ h9 => h9) rfl d_M_pass_1 ?_
  refine lv_istore_n (lv' := [(3, .int (zM_at sM)), (0, .ref adM), (1, .long v1)]) hx hb d_M_pass_4 rfl hl (by decide) rfl (fun ls hl => ?_)
  refine lv_aload_n hx hb d_M_pass_5 rfl (lv_at hl 1 rfl) ?_
  refine va_get (D := (dC, dI)) (ci := 8) (v := .int (zM_over sM)) (C := R_M) (T := F_M) (N := 26) hx hb hts zi_M hown zz.1 hP 0 rfl rfl 15 (by decide) (hts (.fieldLink R_M 116 "WireCodecModel" "over" "Z") zin_M_116) (fun _ h9 => h9) rfl d_M_pass_6 ?_
  refine lv_if_ne (tgt := 27) hx hb d_M_pass_9 (by decide) (fun hc => ?_) (fun hc => ?_)
  · have hG := zf hG hc
    exact k_M_pass_27 X hA zz sM (zM_at sM) _ hG adM adM_tape adM_frameAt adM_field adM_draft adM_given adM_low adM_high adM_packet adM_known _ _ hP hD hS _ (lv_sub hl [1, 0] rfl)
  · have hG := zt hG hc
    refine lv_aload_n hx hb d_M_pass_12 rfl (lv_at hl 1 rfl) ?_
    refine va_get (D := (dC, dI)) (ci := 8) (v := .int (zM_end sM)) (C := R_M) (T := F_M) (N := 26) hx hb hts zi_M hown zz.1 hP 0 rfl rfl 16 (by decide) (hts (.fieldLink R_M 113 "WireCodecModel" "end" "I") zin_M_113) (fun _ h9 => h9) rfl d_M_pass_13 ?_
    refine lv_aload_n hx hb d_M_pass_16 rfl (lv_at hl 1 rfl) ?_
    refine va_get (D := (dC, dI)) (ci := 8) (v := .int (zM_at sM)) (C := R_M) (T := F_M) (N := 26) hx hb hts zi_M hown zz.1 hP 0 rfl rfl 14 (by decide) (hts (.fieldLink R_M 110 "WireCodecModel" "at" "I") zin_M_110) (fun _ h9 => h9) rfl d_M_pass_17 ?_
    refine lv_isub hx hb d_M_pass_20 ?_
    refine lv_i2l hx hb d_M_pass_21 rfl ?_
    refine lv_lload_n hx hb d_M_pass_22 rfl (lv_at hl 2 rfl) ?_
    refine W.lcmp hx hb d_M_pass_23 ?_
    refine lv_if_ge (tgt := 34) hx hb d_M_pass_24 (by decide) (fun hc => ?_) (fun hc => ?_)
    · have hG := zt hG hc
      refine lv_aload_n hx hb d_M_pass_34 rfl (lv_at hl 1 rfl) ?_
      refine lv_dup hx hb d_M_pass_35 rfl ?_
      refine va_get (D := (dC, dI)) (ci := 8) (v := .int (zM_at sM)) (C := R_M) (T := F_M) (N := 26) hx hb hts zi_M hown zz.1 hP 0 rfl rfl 14 (by decide) (hts (.fieldLink R_M 110 "WireCodecModel" "at" "I") zin_M_110) (fun _ h9 => h9) rfl d_M_pass_36 ?_
      refine lv_lload_n hx hb d_M_pass_39 rfl (lv_at hl 2 rfl) ?_
      refine lv_l2i hx hb d_M_pass_40 rfl ?_
      refine lv_iadd hx hb d_M_pass_41 ?_
      refine va_put (D := (dC, dI)) (ci := 8) (v := .int ((zM_at sM) + v1.toInt32)) (ty := .int) (C := R_M) (T := F_M) (N := 26) hx hb hts zi_M zty_M zty_M_ok znm_M hown zz.1 hP hD hS 0 rfl rfl 14 (by decide) (hts (.fieldLink R_M 110 "WireCodecModel" "at" "I") zin_M_110) (fun _ h9 => h9) rfl (by decide +kernel) rfl rfl (Nat.le_of_ble_eq_true rfl) d_M_pass_42 (fun H locs hP hD hS => ?_)
      have hP := zp_M_at hP
      have hD := zd_M_at hD
      have hG : g_M_pass_w42 sM (zM_at' sM ((zM_at sM) + v1.toInt32)) = some a := hG
      generalize zM_at' sM ((zM_at sM) + v1.toInt32) = sM_42 at hP hD hG
      unfold g_M_pass_w42 at hG
      refine lv_iload_n hx hb d_M_pass_45 rfl (lv_at hl 0 rfl) ?_
      exact W.iret (v := zM_at sM) hx hb hr (fun t9 ht9 hW9 => ⟨⟨zM_at sM, (sM_42), rfl, Option.some.inj hG, by rw [ht9]; exact hP, hD⟩, hS.F ht9⟩) hS.2.2 d_M_pass_46
    · have hG := zf hG hc
      exact k_M_pass_27 X hA zz sM (zM_at sM) _ hG adM adM_tape adM_frameAt adM_field adM_draft adM_given adM_low adM_high adM_packet adM_known _ _ hP hD hS _ (lv_sub hl [1, 0] rfl)
set_option maxRecDepth 100000 in
set_option maxHeartbeats 4000000 in
theorem c_M_pass (l : Launch) (dC : Nat → ClassId) (dI : Nat → Nat → Nat) (cB cI cL : ClassId) (sz : Nat) (adM adM_tape adM_frameAt adM_field adM_draft adM_given adM_low adM_high adM_packet adM_known : Nat) (sM : zM) (v1 : Int64) (a : Int32 × zM) (hG : g_M_pass sM v1 = some a) : Met l y_M_pass (zw y_M_pass b_M_pass 4 (some .int)) ({ frames := 0, cells := 0, slots := 0, locals := 0 }) (va_Pc [.ref adM, .long v1] (zpre dC dI cB cI cL sz (zwM adM adM_tape adM_frameAt adM_field adM_draft adM_given adM_low adM_high adM_packet adM_known cB cI cL sM))) (q_M_pass dC dI cB cI cL (va_A (zwM adM adM_tape adM_frameAt adM_field adM_draft adM_given adM_low adM_high adM_packet adM_known cB cI cL sM) sz) adM adM_tape adM_frameAt adM_field adM_draft adM_given adM_low adM_high adM_packet adM_known a) 0 0 (va_A (zwM adM adM_tape adM_frameAt adM_field adM_draft adM_given adM_low adM_high adM_packet adM_known cB cI cL sM) sz) := by
  refine Met.ofW (cc := b_M_pass) (maxL := 4) (ret := (some .int)) (by decide) rfl ?_
  intro p e s m args below meth c s₁ B hml hv
  obtain ⟨rfl, hsz, hP, zz, hD0⟩ := hv
  subst hsz
  have X := zx_of (F := 0) (L := 0) B hml (Nat.le_refl _) (Nat.le_refl _)
  have hD := hD0.self (sz := s.heap.size)
  have hA : ∀ q : Nat, s.heap.size ≤ q → va_A (zwM adM adM_tape adM_frameAt adM_field adM_draft adM_given adM_low adM_high adM_packet adM_known cB cI cL sM) s.heap.size q := fun q h => Or.inr h
  have hl := lv_entry ([.ref adM, .long v1]) (n := 4) (Nat.le_of_ble_eq_true rfl)
  rw [lg_entry_eq]
  generalize (lg_sl ([.ref adM, .long v1]) ++ List.replicate (4 - (lg_sl ([.ref adM, .long v1])).length) Slot.unset).toArray = ls at hl ⊢
  exact k_M_pass_0 X hA zz sM v1 a hG adM adM_tape adM_frameAt adM_field adM_draft adM_given adM_low adM_high adM_packet adM_known _ _ hP hD va_S.rf ls hl
noncomputable def g_M_read_59 (N : Nat) (sM : zM) (s0 : Int64) : Option (Int64 × zM) := some (s0, sM)
noncomputable def g_M_read_c41 (N : Nat) (sM_41 : zM) (r_41 : Int64) : Option (Int64 × zM) := if (zM_over sM_41) = (0 : Int32) then (g_M_read_59 N sM_41 r_41) else (g_M_read_59 N sM_41 (-1 : Int64))
noncomputable def g_M_read_c37 (N : Nat) (sM_37 : zM) : Option (Int64 × zM) := (g_M_takeNumber N sM_37).bind (fun a => g_M_read_c41 N a.2 a.1)
noncomputable def g_M_read_c23 (N : Nat) (v1 : Int32) (sM_23 : zM) (r_23 : Int32) : Option (Int64 × zM) := if r_23 = (0 : Int32) then ((g_M_look sM_23 v1 (zM_size sM_23)).bind (fun a => g_M_read_c37 N a)) else (some ((0 : Int64), sM_23))
noncomputable def g_M_read_22 (N : Nat) (sM : zM) (v1 : Int32) (s0 : Int32) : Option (Int64 × zM) := (g_M_fails sM s0 (1 : Int32)).bind (fun a => g_M_read_c23 N v1 a.2 a.1)
noncomputable def g_M_read_c11 (N : Nat) (sM : zM) (v1 : Int32) (r_11 : Int32) : Option (Int64 × zM) := if r_11 = (0 : Int32) then (g_M_read_22 N sM v1 (1 : Int32)) else (g_M_read_22 N sM v1 (0 : Int32))
noncomputable def g_M_read (N : Nat) (sM : zM) (v1 : Int32) : Option (Int64 × zM) := (g_M_within v1.toInt64 (0 : Int64) (((zM_size sM).toInt64) - (1 : Int64))).bind (fun a => g_M_read_c11 N sM v1 a)
def q_M_read (dC : Nat → ClassId) (dI : Nat → Nat → Nat) (cB cI cL : ClassId) (A : Nat → Prop) (adM : Nat) (adM_tape : Nat) (adM_frameAt : Nat) (adM_field : Nat) (adM_draft : Nat) (adM_given : Nat) (adM_low : Nat) (adM_high : Nat) (adM_packet : Nat) (adM_known : Nat) (a : Int64 × zM) : Array Value → State → Outcome → State → Prop := va_Ql (fun (r : Int64) (u : zM) => (r, u) = a) (fun u U => va_P (dC, dI) zcl (zwM adM adM_tape adM_frameAt adM_field adM_draft adM_given adM_low adM_high adM_packet adM_known cB cI cL u) U.heap ∧ va_D A (zwM adM adM_tape adM_frameAt adM_field adM_draft adM_given adM_low adM_high adM_packet adM_known cB cI cL u)) A
set_option maxRecDepth 100000 in
set_option maxHeartbeats 4000000 in
theorem k_M_read_59 {p : Program} {l : Launch} {e : Env} {R : Room} {s : State} {m : MethodId} {args : Array Value} {below : List Frame} {meth : Method} {c : Code} {dC : Nat → ClassId} {dI : Nat → Nat → Nat} {cB cI cL : ClassId} {A : Nat → Prop} (X : zx p s m args meth c R R_M b_M_read (some .long) 4 3 68) (hA : ∀ q, s.heap.size ≤ q → A q) (zz : zk dC dI cB cI cL A s)  (N : Nat) (sM : zM) (s0 : Int64) (a : Int64 × zM) (hG : g_M_read_59 N sM s0 = some a) (adM adM_tape adM_frameAt adM_field adM_draft adM_given adM_low adM_high adM_packet adM_known : Nat) (H : Heap) (locs : List Loc) (hP : va_P (dC, dI) zcl (zwM adM adM_tape adM_frameAt adM_field adM_draft adM_given adM_low adM_high adM_packet adM_known cB cI cL sM) H) (hD : va_D A (zwM adM adM_tape adM_frameAt adM_field adM_draft adM_given adM_low adM_high adM_packet adM_known cB cI cL sM)) (hS : va_S A s.heap H locs) (ls : Array Slot) (hl : lv_has ls 4 []) : W p l e R s m args below meth c H locs 0 0 (MQ below (q_M_read dC dI cB cI cL A adM adM_tape adM_frameAt adM_field adM_draft adM_given adM_low adM_high adM_packet adM_known a) args s 0 0 A) (F0 m 59 ls [.long s0]) := by
  obtain ⟨hx, hb, hr, hml, hown, hts, hlocks, hRf, hRl⟩ := id X
  unfold g_M_read_59 at hG
  exact W.lret (v := s0) hx hb hr (fun t9 ht9 hW9 => ⟨⟨s0, (sM), rfl, Option.some.inj hG, by rw [ht9]; exact hP, hD⟩, hS.F ht9⟩) hS.2.2 d_M_read_59
set_option maxRecDepth 100000 in
set_option maxHeartbeats 4000000 in
theorem k_M_read_22 {p : Program} {l : Launch} {e : Env} {R : Room} {s : State} {m : MethodId} {args : Array Value} {below : List Frame} {meth : Method} {c : Code} {dC : Nat → ClassId} {dI : Nat → Nat → Nat} {cB cI cL : ClassId} {A : Nat → Prop} (X : zx p s m args meth c R R_M b_M_read (some .long) 4 3 68) (hA : ∀ q, s.heap.size ≤ q → A q) (zz : zk dC dI cB cI cL A s)  (N : Nat) (sM : zM) (v1 : Int32) (s0 : Int32) (a : Int64 × zM) (hG : g_M_read_22 N sM v1 s0 = some a) (adM adM_tape adM_frameAt adM_field adM_draft adM_given adM_low adM_high adM_packet adM_known : Nat) (H : Heap) (locs : List Loc) (hP : va_P (dC, dI) zcl (zwM adM adM_tape adM_frameAt adM_field adM_draft adM_given adM_low adM_high adM_packet adM_known cB cI cL sM) H) (hD : va_D A (zwM adM adM_tape adM_frameAt adM_field adM_draft adM_given adM_low adM_high adM_packet adM_known cB cI cL sM)) (hS : va_S A s.heap H locs) (ls : Array Slot) (hl : lv_has ls 4 [(0, .ref adM), (1, .int v1)]) : W p l e R s m args below meth c H locs 0 0 (MQ below (q_M_read dC dI cB cI cL A adM adM_tape adM_frameAt adM_field adM_draft adM_given adM_low adM_high adM_packet adM_known a) args s 0 0 A) (F0 m 22 ls [.int s0, .ref adM]) := by
  obtain ⟨hx, hb, hr, hml, hown, hts, hlocks, hRf, hRl⟩ := id X
  unfold g_M_read_22 at hG
  refine lv_iconst (v := (1 : Int32)) hx hb d_M_read_22 (by decide) ?_
  obtain ⟨a_23, hx_23, hG⟩ := zb hG
  have hr_23 := zrunV (p := p) (e := e) (below := below) (meth := meth) (As := [.int s0, .int (1 : Int32)]) (rest := []) (st0 := [.int (1 : Int32), .int s0, .ref adM]) (cells := 0) (slots := 0) X zz hP hD hS hA [0, 1, 2, 3, 4, 5, 6, 7, 8, 9] (by decide) rfl (c_M_fails l dC dI cB cI cL H.size adM adM_tape adM_frameAt adM_field adM_draft adM_given adM_low adM_high adM_packet adM_known sM s0 (1 : Int32) _ hx_23) zy_M_fails zv_M_fails (hts (.methodLink R_M 62 y_M_fails) zin_M_62) hl rfl rfl d_M_read_23 (lv_room (Nat.le_of_ble_eq_true rfl)) rfl rfl ⟨Nat.le_trans (Nat.le_of_ble_eq_true rfl) hRf, Nat.le_trans (Nat.le_of_ble_eq_true rfl) hRl⟩ ⟨Nat.zero_le _, Nat.zero_le _⟩ 0 8 rfl rfl
  refine zcalli (wr := ([] : va_W)) hr_23 hP hD hS hA [0, 1, 2, 3, 4, 5, 6, 7, 8, 9] [] rfl rfl (by decide) (by decide) (fun r_23 u_23 H locs hw_23 hP hD hS => ?_)
  obtain ⟨sM_23, rfl⟩ : ∃ z, z = u_23 := ⟨_, rfl⟩
  subst hw_23
  have hP : va_P (dC, dI) zcl (zwM adM adM_tape adM_frameAt adM_field adM_draft adM_given adM_low adM_high adM_packet adM_known cB cI cL sM_23) H := hP
  have hD : va_D A (zwM adM adM_tape adM_frameAt adM_field adM_draft adM_given adM_low adM_high adM_packet adM_known cB cI cL sM_23) := hD
  have hG : g_M_read_c23 N v1 sM_23 r_23 = some a := hG
  unfold g_M_read_c23 at hG
  refine lv_if_eq (tgt := 31) hx hb d_M_read_26 (by decide) (fun hc => ?_) (fun hc => ?_)
  · have hG := zt hG hc
    refine lv_aload_n hx hb d_M_read_31 rfl (lv_at hl 0 rfl) ?_
    refine lv_iload_n hx hb d_M_read_32 rfl (lv_at hl 1 rfl) ?_
    refine lv_aload_n hx hb d_M_read_33 rfl (lv_at hl 0 rfl) ?_
    refine va_get (D := (dC, dI)) (ci := 8) (v := .int (zM_size sM_23)) (C := R_M) (T := F_M) (N := 26) hx hb hts zi_M hown zz.1 hP 0 rfl rfl 2 (by decide) (hts (.fieldLink R_M 57 "WireCodecModel" "size" "I") zin_M_57) (fun _ h9 => h9) rfl d_M_read_34 ?_
    obtain ⟨a_37, hx_37, hG⟩ := zb hG
    have hr_37 := zrunV (p := p) (e := e) (below := below) (meth := meth) (As := [.int v1, .int (zM_size sM_23)]) (rest := []) (st0 := [.int (zM_size sM_23), .int v1, .ref adM]) (cells := 0) (slots := 0) X zz hP hD hS hA [0, 1, 2, 3, 4, 5, 6, 7, 8, 9] (by decide) rfl (c_M_look l dC dI cB cI cL H.size adM adM_tape adM_frameAt adM_field adM_draft adM_given adM_low adM_high adM_packet adM_known sM_23 v1 (zM_size sM_23) _ hx_37) zy_M_look zv_M_look (hts (.methodLink R_M 124 y_M_look) zin_M_124) hl rfl rfl d_M_read_37 (lv_room (Nat.le_of_ble_eq_true rfl)) rfl rfl ⟨Nat.le_trans (Nat.le_of_ble_eq_true rfl) hRf, Nat.le_trans (Nat.le_of_ble_eq_true rfl) hRl⟩ ⟨Nat.zero_le _, Nat.zero_le _⟩ 0 8 rfl rfl
    refine zcallv (wr := ([] : va_W)) hr_37 hP hD hS hA [0, 1, 2, 3, 4, 5, 6, 7, 8, 9] [] rfl rfl (by decide) (by decide) (fun u_37 H locs hw_37 hP hD hS => ?_)
    obtain ⟨sM_37, rfl⟩ : ∃ z, z = u_37 := ⟨_, rfl⟩
    subst hw_37
    have hP : va_P (dC, dI) zcl (zwM adM adM_tape adM_frameAt adM_field adM_draft adM_given adM_low adM_high adM_packet adM_known cB cI cL sM_37) H := hP
    have hD : va_D A (zwM adM adM_tape adM_frameAt adM_field adM_draft adM_given adM_low adM_high adM_packet adM_known cB cI cL sM_37) := hD
    have hG : g_M_read_c37 N sM_37 = some a := hG
    unfold g_M_read_c37 at hG
    refine lv_aload_n hx hb d_M_read_40 rfl (lv_at hl 0 rfl) ?_
    obtain ⟨a_41, hx_41, hG⟩ := zb hG
    have hr_41 := zrunV (p := p) (e := e) (below := below) (meth := meth) (As := []) (rest := []) (st0 := [.ref adM]) (cells := 0) (slots := 0) X zz hP hD hS hA [0, 1, 2, 3, 4, 5, 6, 7, 8, 9] (by decide) rfl (c_M_takeNumber l dC dI cB cI cL H.size adM adM_tape adM_frameAt adM_field adM_draft adM_given adM_low adM_high adM_packet adM_known N sM_37 _ hx_41) zy_M_takeNumber zv_M_takeNumber (hts (.methodLink R_M 128 y_M_takeNumber) zin_M_128) hl rfl rfl d_M_read_41 (lv_room (Nat.le_of_ble_eq_true rfl)) rfl rfl ⟨Nat.le_trans (Nat.le_of_ble_eq_true rfl) hRf, Nat.le_trans (Nat.le_of_ble_eq_true rfl) hRl⟩ ⟨Nat.zero_le _, Nat.zero_le _⟩ 0 8 rfl rfl
    refine zcalll (wr := ([] : va_W)) hr_41 hP hD hS hA [0, 1, 2, 3, 4, 5, 6, 7, 8, 9] [] rfl rfl (by decide) (by decide) (fun r_41 u_41 H locs hw_41 hP hD hS => ?_)
    obtain ⟨sM_41, rfl⟩ : ∃ z, z = u_41 := ⟨_, rfl⟩
    subst hw_41
    have hP : va_P (dC, dI) zcl (zwM adM adM_tape adM_frameAt adM_field adM_draft adM_given adM_low adM_high adM_packet adM_known cB cI cL sM_41) H := hP
    have hD : va_D A (zwM adM adM_tape adM_frameAt adM_field adM_draft adM_given adM_low adM_high adM_packet adM_known cB cI cL sM_41) := hD
    have hG : g_M_read_c41 N sM_41 r_41 = some a := hG
    unfold g_M_read_c41 at hG
    refine lv_lstore_n (lv' := [(2, .long r_41), (0, .ref adM), (1, .int v1)]) hx hb d_M_read_44 rfl hl (by decide) rfl (fun ls hl => ?_)
    refine lv_aload_n hx hb d_M_read_45 rfl (lv_at hl 1 rfl) ?_
    refine va_get (D := (dC, dI)) (ci := 8) (v := .int (zM_over sM_41)) (C := R_M) (T := F_M) (N := 26) hx hb hts zi_M hown zz.1 hP 0 rfl rfl 15 (by decide) (hts (.fieldLink R_M 116 "WireCodecModel" "over" "Z") zin_M_116) (fun _ h9 => h9) rfl d_M_read_46 ?_
    refine lv_if_eq (tgt := 58) hx hb d_M_read_49 (by decide) (fun hc => ?_) (fun hc => ?_)
    · have hG := zt hG hc
      refine lv_lload_n hx hb d_M_read_58 rfl (lv_at hl 0 rfl) ?_
      exact k_M_read_59 X hA zz N sM_41 r_41 _ hG adM adM_tape adM_frameAt adM_field adM_draft adM_given adM_low adM_high adM_packet adM_known _ _ hP hD hS _ (lv_sub hl [] rfl)
    · have hG := zf hG hc
      refine lv_ldc2 (v := (-1 : Int64)) hx hb hown (hts (.constantLong R_M 132 (-1 : Int64)) zin_M_132) d_M_read_52 ?_
      refine lv_goto (tgt := 59) hx hb d_M_read_55 (by decide) ?_
      exact k_M_read_59 X hA zz N sM_41 (-1 : Int64) _ hG adM adM_tape adM_frameAt adM_field adM_draft adM_given adM_low adM_high adM_packet adM_known _ _ hP hD hS _ (lv_sub hl [] rfl)
  · have hG := zf hG hc
    refine lv_lconst (v := (0 : Int64)) hx hb d_M_read_29 (by decide) ?_
    exact W.lret (v := (0 : Int64)) hx hb hr (fun t9 ht9 hW9 => ⟨⟨(0 : Int64), (sM_23), rfl, Option.some.inj hG, by rw [ht9]; exact hP, hD⟩, hS.F ht9⟩) hS.2.2 d_M_read_30
set_option maxRecDepth 100000 in
set_option maxHeartbeats 4000000 in
theorem k_M_read_0 {p : Program} {l : Launch} {e : Env} {R : Room} {s : State} {m : MethodId} {args : Array Value} {below : List Frame} {meth : Method} {c : Code} {dC : Nat → ClassId} {dI : Nat → Nat → Nat} {cB cI cL : ClassId} {A : Nat → Prop} (X : zx p s m args meth c R R_M b_M_read (some .long) 4 3 68) (hA : ∀ q, s.heap.size ≤ q → A q) (zz : zk dC dI cB cI cL A s)  (N : Nat) (sM : zM) (v1 : Int32) (a : Int64 × zM) (hG : g_M_read N sM v1 = some a) (adM adM_tape adM_frameAt adM_field adM_draft adM_given adM_low adM_high adM_packet adM_known : Nat) (H : Heap) (locs : List Loc) (hP : va_P (dC, dI) zcl (zwM adM adM_tape adM_frameAt adM_field adM_draft adM_given adM_low adM_high adM_packet adM_known cB cI cL sM) H) (hD : va_D A (zwM adM adM_tape adM_frameAt adM_field adM_draft adM_given adM_low adM_high adM_packet adM_known cB cI cL sM)) (hS : va_S A s.heap H locs) (ls : Array Slot) (hl : lv_has ls 4 [(0, .ref adM), (1, .int v1)]) : W p l e R s m args below meth c H locs 0 0 (MQ below (q_M_read dC dI cB cI cL A adM adM_tape adM_frameAt adM_field adM_draft adM_given adM_low adM_high adM_packet adM_known a) args s 0 0 A) (F0 m 0 ls []) := by
  obtain ⟨hx, hb, hr, hml, hown, hts, hlocks, hRf, hRl⟩ := id X
  unfold g_M_read at hG
  refine lv_aload_n hx hb d_M_read_0 rfl (lv_at hl 0 rfl) ?_
  refine lv_iload_n hx hb d_M_read_1 rfl (lv_at hl 1 rfl) ?_
  refine lv_i2l hx hb d_M_read_2 rfl ?_
  refine lv_lconst (v := (0 : Int64)) hx hb d_M_read_3 (by decide) ?_
  refine lv_aload_n hx hb d_M_read_4 rfl (lv_at hl 0 rfl) ?_
  refine va_get (D := (dC, dI)) (ci := 8) (v := .int (zM_size sM)) (C := R_M) (T := F_M) (N := 26) hx hb hts zi_M hown zz.1 hP 0 rfl rfl 2 (by decide) (hts (.fieldLink R_M 57 "WireCodecModel" "size" "I") zin_M_57) (fun _ h9 => h9) rfl d_M_read_5 ?_
  refine lv_i2l hx hb d_M_read_8 rfl ?_
  refine lv_lconst (v := (1 : Int64)) hx hb d_M_read_9 (by decide) ?_
  refine lv_lsub hx hb d_M_read_10 ?_
  obtain ⟨a_11, hx_11, hG⟩ := zb hG
  have hr_11 := zrunS (p := p) (e := e) (below := below) (meth := meth) (As := [.long v1.toInt64, .long (0 : Int64), .long (((zM_size sM).toInt64) - (1 : Int64))]) (rest := [.ref adM]) (st0 := [.long (((zM_size sM).toInt64) - (1 : Int64)), .long (0 : Int64), .long v1.toInt64, .ref adM]) (cells := 0) (slots := 0) X zz hP hD hS hA [] (by decide) rfl (c_M_within l dC dI cB cI cL H.size v1.toInt64 (0 : Int64) (((zM_size sM).toInt64) - (1 : Int64)) _ hx_11) zy_M_within zv_M_within (hts (.methodLink R_M 53 y_M_within) zin_M_53) hl rfl rfl d_M_read_11 (lv_room (Nat.le_of_ble_eq_true rfl)) rfl rfl ⟨Nat.le_trans (Nat.le_of_ble_eq_true rfl) hRf, Nat.le_trans (Nat.le_of_ble_eq_true rfl) hRl⟩ ⟨Nat.zero_le _, Nat.zero_le _⟩
  refine zcalli (wr := (zwM adM adM_tape adM_frameAt adM_field adM_draft adM_given adM_low adM_high adM_packet adM_known cB cI cL sM)) hr_11 hP hD hS hA [] [0, 1, 2, 3, 4, 5, 6, 7, 8, 9] rfl rfl (by decide) (by decide) (fun r_11 u_11 H locs hw_11 hP hD hS => ?_)
  subst hw_11
  have hP : va_P (dC, dI) zcl (zwM adM adM_tape adM_frameAt adM_field adM_draft adM_given adM_low adM_high adM_packet adM_known cB cI cL sM) H := hP
  have hD : va_D A (zwM adM adM_tape adM_frameAt adM_field adM_draft adM_given adM_low adM_high adM_packet adM_known cB cI cL sM) := hD
  have hG : g_M_read_c11 N sM v1 r_11 = some a := hG
  unfold g_M_read_c11 at hG
  refine lv_if_ne (tgt := 21) hx hb d_M_read_14 (by decide) (fun hc => ?_) (fun hc => ?_)
  · have hG := zf hG hc
    refine lv_iconst (v := (0 : Int32)) hx hb d_M_read_21 (by decide) ?_
    exact k_M_read_22 X hA zz N sM v1 (0 : Int32) _ hG adM adM_tape adM_frameAt adM_field adM_draft adM_given adM_low adM_high adM_packet adM_known _ _ hP hD hS _ (lv_sub hl [0, 1] rfl)
  · have hG := zt hG hc
    refine lv_iconst (v := (1 : Int32)) hx hb d_M_read_17 (by decide) ?_
    refine lv_goto (tgt := 22) hx hb d_M_read_18 (by decide) ?_
    exact k_M_read_22 X hA zz N sM v1 (1 : Int32) _ hG adM adM_tape adM_frameAt adM_field adM_draft adM_given adM_low adM_high adM_packet adM_known _ _ hP hD hS _ (lv_sub hl [0, 1] rfl)
set_option maxRecDepth 100000 in
set_option maxHeartbeats 4000000 in
theorem c_M_read (l : Launch) (dC : Nat → ClassId) (dI : Nat → Nat → Nat) (cB cI cL : ClassId) (sz : Nat) (adM adM_tape adM_frameAt adM_field adM_draft adM_given adM_low adM_high adM_packet adM_known : Nat) (N : Nat) (sM : zM) (v1 : Int32) (a : Int64 × zM) (hG : g_M_read N sM v1 = some a) : Met l y_M_read (zw y_M_read b_M_read 4 (some .long)) ({ frames := 3, cells := 0, slots := 0, locals := 68 }) (va_Pc [.ref adM, .int v1] (zpre dC dI cB cI cL sz (zwM adM adM_tape adM_frameAt adM_field adM_draft adM_given adM_low adM_high adM_packet adM_known cB cI cL sM))) (q_M_read dC dI cB cI cL (va_A (zwM adM adM_tape adM_frameAt adM_field adM_draft adM_given adM_low adM_high adM_packet adM_known cB cI cL sM) sz) adM adM_tape adM_frameAt adM_field adM_draft adM_given adM_low adM_high adM_packet adM_known a) 0 0 (va_A (zwM adM adM_tape adM_frameAt adM_field adM_draft adM_given adM_low adM_high adM_packet adM_known cB cI cL sM) sz) := by
  refine Met.ofW (cc := b_M_read) (maxL := 4) (ret := (some .long)) (by decide) rfl ?_
  intro p e s m args below meth c s₁ B hml hv
  obtain ⟨rfl, hsz, hP, zz, hD0⟩ := hv
  subst hsz
  have X := zx_of (F := 3) (L := 68) B hml (Nat.le_refl _) (Nat.le_refl _)
  have hD := hD0.self (sz := s.heap.size)
  have hA : ∀ q : Nat, s.heap.size ≤ q → va_A (zwM adM adM_tape adM_frameAt adM_field adM_draft adM_given adM_low adM_high adM_packet adM_known cB cI cL sM) s.heap.size q := fun q h => Or.inr h
  have hl := lv_entry ([.ref adM, .int v1]) (n := 4) (Nat.le_of_ble_eq_true rfl)
  rw [lg_entry_eq]
  generalize (lg_sl ([.ref adM, .int v1]) ++ List.replicate (4 - (lg_sl ([.ref adM, .int v1])).length) Slot.unset).toArray = ls at hl ⊢
  exact k_M_read_0 X hA zz N sM v1 a hG adM adM_tape adM_frameAt adM_field adM_draft adM_given adM_low adM_high adM_packet adM_known _ _ hP hD va_S.rf ls hl
noncomputable def g_M_isAck_15 (s0 : Int32) : Option (Int32) := zg (narrow .boolean (.int s0) = .int s0) (some (s0))
noncomputable def g_M_isAck_10  : Option (Int32) := g_M_isAck_15 (1 : Int32)
noncomputable def g_M_isAck (v0 : Int32) : Option (Int32) := if v0 = (2 : Int32) then g_M_isAck_10 else (if v0 = (3 : Int32) then g_M_isAck_10 else (g_M_isAck_15 (0 : Int32)))
def q_M_isAck (dC : Nat → ClassId) (dI : Nat → Nat → Nat) (cB cI cL : ClassId) (A : Nat → Prop) (a : Int32) : Array Value → State → Outcome → State → Prop := va_Qi (fun (r : Int32) (u : Unit) => (r) = a) (fun u U => va_P (dC, dI) zcl ([] : va_W) U.heap ∧ va_D A ([] : va_W)) A
set_option maxRecDepth 100000 in
set_option maxHeartbeats 4000000 in
theorem k_M_isAck_15 {p : Program} {l : Launch} {e : Env} {R : Room} {s : State} {m : MethodId} {args : Array Value} {below : List Frame} {meth : Method} {c : Code} {dC : Nat → ClassId} {dI : Nat → Nat → Nat} {cB cI cL : ClassId} {A : Nat → Prop} (X : zx p s m args meth c R R_M b_M_isAck (some .boolean) 1 0 0) (hA : ∀ q, s.heap.size ≤ q → A q) (zz : zk dC dI cB cI cL A s)  (s0 : Int32) (a : Int32) (hG : g_M_isAck_15 s0 = some a) (H : Heap) (locs : List Loc) (hP : va_P (dC, dI) zcl ([] : va_W) H) (hD : va_D A ([] : va_W)) (hS : va_S A s.heap H locs) (ls : Array Slot) (hl : lv_has ls 1 []) : W p l e R s m args below meth c H locs 0 0 (MQ below (q_M_isAck dC dI cB cI cL A a) args s 0 0 A) (F0 m 15 ls [.int s0]) := by
  obtain ⟨hx, hb, hr, hml, hown, hts, hlocks, hRf, hRl⟩ := id X
  unfold g_M_isAck_15 at hG
  obtain ⟨hnb, hG⟩ := zgd hG
  exact W.zret (v := s0) hx hb hr hnb (fun t9 ht9 hW9 => ⟨⟨s0, (), rfl, Option.some.inj hG, by rw [ht9]; exact hP, hD⟩, hS.F ht9⟩) hS.2.2 d_M_isAck_15
set_option maxRecDepth 100000 in
set_option maxHeartbeats 4000000 in
theorem k_M_isAck_10 {p : Program} {l : Launch} {e : Env} {R : Room} {s : State} {m : MethodId} {args : Array Value} {below : List Frame} {meth : Method} {c : Code} {dC : Nat → ClassId} {dI : Nat → Nat → Nat} {cB cI cL : ClassId} {A : Nat → Prop} (X : zx p s m args meth c R R_M b_M_isAck (some .boolean) 1 0 0) (hA : ∀ q, s.heap.size ≤ q → A q) (zz : zk dC dI cB cI cL A s)  (a : Int32) (hG : g_M_isAck_10  = some a) (H : Heap) (locs : List Loc) (hP : va_P (dC, dI) zcl ([] : va_W) H) (hD : va_D A ([] : va_W)) (hS : va_S A s.heap H locs) (ls : Array Slot) (hl : lv_has ls 1 []) : W p l e R s m args below meth c H locs 0 0 (MQ below (q_M_isAck dC dI cB cI cL A a) args s 0 0 A) (F0 m 10 ls []) := by
  obtain ⟨hx, hb, hr, hml, hown, hts, hlocks, hRf, hRl⟩ := id X
  unfold g_M_isAck_10 at hG
  refine lv_iconst (v := (1 : Int32)) hx hb d_M_isAck_10 (by decide) ?_
  refine lv_goto (tgt := 15) hx hb d_M_isAck_11 (by decide) ?_
  exact k_M_isAck_15 X hA zz (1 : Int32) _ hG _ _ hP hD hS _ (lv_sub hl [] rfl)
set_option maxRecDepth 100000 in
set_option maxHeartbeats 4000000 in
theorem k_M_isAck_0 {p : Program} {l : Launch} {e : Env} {R : Room} {s : State} {m : MethodId} {args : Array Value} {below : List Frame} {meth : Method} {c : Code} {dC : Nat → ClassId} {dI : Nat → Nat → Nat} {cB cI cL : ClassId} {A : Nat → Prop} (X : zx p s m args meth c R R_M b_M_isAck (some .boolean) 1 0 0) (hA : ∀ q, s.heap.size ≤ q → A q) (zz : zk dC dI cB cI cL A s)  (v0 : Int32) (a : Int32) (hG : g_M_isAck v0 = some a) (H : Heap) (locs : List Loc) (hP : va_P (dC, dI) zcl ([] : va_W) H) (hD : va_D A ([] : va_W)) (hS : va_S A s.heap H locs) (ls : Array Slot) (hl : lv_has ls 1 [(0, .int v0)]) : W p l e R s m args below meth c H locs 0 0 (MQ below (q_M_isAck dC dI cB cI cL A a) args s 0 0 A) (F0 m 0 ls []) := by
  obtain ⟨hx, hb, hr, hml, hown, hts, hlocks, hRf, hRl⟩ := id X
  unfold g_M_isAck at hG
  refine lv_iload_n hx hb d_M_isAck_0 rfl (lv_at hl 0 rfl) ?_
  refine lv_iconst (v := (2 : Int32)) hx hb d_M_isAck_1 (by decide) ?_
  refine lv_icmp_eq (tgt := 10) hx hb d_M_isAck_2 (by decide) (fun hc => ?_) (fun hc => ?_)
  · have hG := zt hG hc
    exact k_M_isAck_10 X hA zz _ hG _ _ hP hD hS _ (lv_sub hl [] rfl)
  · have hG := zf hG hc
    refine lv_iload_n hx hb d_M_isAck_5 rfl (lv_at hl 0 rfl) ?_
    refine lv_iconst (v := (3 : Int32)) hx hb d_M_isAck_6 (by decide) ?_
    refine lv_icmp_ne (tgt := 14) hx hb d_M_isAck_7 (by decide) (fun hc => ?_) (fun hc => ?_)
    · have hG := zf hG hc
      refine lv_iconst (v := (0 : Int32)) hx hb d_M_isAck_14 (by decide) ?_
      exact k_M_isAck_15 X hA zz (0 : Int32) _ hG _ _ hP hD hS _ (lv_sub hl [] rfl)
    · have hG := zt hG hc
      exact k_M_isAck_10 X hA zz _ hG _ _ hP hD hS _ (lv_sub hl [] rfl)
set_option maxRecDepth 100000 in
set_option maxHeartbeats 4000000 in
theorem c_M_isAck (l : Launch) (dC : Nat → ClassId) (dI : Nat → Nat → Nat) (cB cI cL : ClassId) (sz : Nat) (v0 : Int32) (a : Int32) (hG : g_M_isAck v0 = some a) : Met l y_M_isAck (zw y_M_isAck b_M_isAck 1 (some .boolean)) ({ frames := 0, cells := 0, slots := 0, locals := 0 }) (va_Pc [.int v0] (zpre dC dI cB cI cL sz ([] : va_W))) (q_M_isAck dC dI cB cI cL (va_A ([] : va_W) sz) a) 0 0 (va_A ([] : va_W) sz) := by
  refine Met.ofW (cc := b_M_isAck) (maxL := 1) (ret := (some .boolean)) (by decide) rfl ?_
  intro p e s m args below meth c s₁ B hml hv
  obtain ⟨rfl, hsz, hP, zz, hD0⟩ := hv
  subst hsz
  have X := zx_of (F := 0) (L := 0) B hml (Nat.le_refl _) (Nat.le_refl _)
  have hD := hD0.self (sz := s.heap.size)
  have hA : ∀ q : Nat, s.heap.size ≤ q → va_A ([] : va_W) s.heap.size q := fun q h => Or.inr h
  have hl := lv_entry ([.int v0]) (n := 1) (Nat.le_of_ble_eq_true rfl)
  rw [lg_entry_eq]
  generalize (lg_sl ([.int v0]) ++ List.replicate (1 - (lg_sl ([.int v0])).length) Slot.unset).toArray = ls at hl ⊢
  exact k_M_isAck_0 X hA zz v0 a hG _ _ hP hD va_S.rf ls hl
noncomputable def g_M_fields_169 (s0 : Int32) : Option (Int32) := some (s0)
noncomputable def g_M_fields_168  : Option (Int32) := g_M_fields_169 (0 : Int32)
noncomputable def g_M_fields_152 (v0 : Int32) : Option (Int32) := if v0 < (16 : Int32) then g_M_fields_168 else (if (25 : Int32) < v0 then g_M_fields_168 else (g_M_fields_169 (1 : Int32)))
noncomputable def g_M_fields (v0 : Int32) : Option (Int32) := if v0 = (4 : Int32) then (some ((321 : Int32))) else if v0 = (5 : Int32) then (some ((21 : Int32))) else if v0 = (6 : Int32) then (some ((42 : Int32))) else if v0 = (7 : Int32) then (some ((4 : Int32))) else if v0 = (17 : Int32) then (some ((21 : Int32))) else if v0 = (21 : Int32) then (some ((21 : Int32))) else if v0 = (24 : Int32) then (some ((21 : Int32))) else if v0 = (26 : Int32) then (some ((5 : Int32))) else if v0 = (27 : Int32) then (some ((5 : Int32))) else if v0 = (28 : Int32) then (some ((421 : Int32))) else if v0 = (29 : Int32) then (some ((41 : Int32))) else (g_M_fields_152 v0)
def q_M_fields (dC : Nat → ClassId) (dI : Nat → Nat → Nat) (cB cI cL : ClassId) (A : Nat → Prop) (a : Int32) : Array Value → State → Outcome → State → Prop := va_Qi (fun (r : Int32) (u : Unit) => (r) = a) (fun u U => va_P (dC, dI) zcl ([] : va_W) U.heap ∧ va_D A ([] : va_W)) A
set_option maxRecDepth 100000 in
set_option maxHeartbeats 4000000 in
theorem k_M_fields_169 {p : Program} {l : Launch} {e : Env} {R : Room} {s : State} {m : MethodId} {args : Array Value} {below : List Frame} {meth : Method} {c : Code} {dC : Nat → ClassId} {dI : Nat → Nat → Nat} {cB cI cL : ClassId} {A : Nat → Prop} (X : zx p s m args meth c R R_M b_M_fields (some .int) 1 0 0) (hA : ∀ q, s.heap.size ≤ q → A q) (zz : zk dC dI cB cI cL A s)  (s0 : Int32) (a : Int32) (hG : g_M_fields_169 s0 = some a) (H : Heap) (locs : List Loc) (hP : va_P (dC, dI) zcl ([] : va_W) H) (hD : va_D A ([] : va_W)) (hS : va_S A s.heap H locs) (ls : Array Slot) (hl : lv_has ls 1 []) : W p l e R s m args below meth c H locs 0 0 (MQ below (q_M_fields dC dI cB cI cL A a) args s 0 0 A) (F0 m 169 ls [.int s0]) := by
  obtain ⟨hx, hb, hr, hml, hown, hts, hlocks, hRf, hRl⟩ := id X
  unfold g_M_fields_169 at hG
  exact W.iret (v := s0) hx hb hr (fun t9 ht9 hW9 => ⟨⟨s0, (), rfl, Option.some.inj hG, by rw [ht9]; exact hP, hD⟩, hS.F ht9⟩) hS.2.2 d_M_fields_169
set_option maxRecDepth 100000 in
set_option maxHeartbeats 4000000 in
theorem k_M_fields_168 {p : Program} {l : Launch} {e : Env} {R : Room} {s : State} {m : MethodId} {args : Array Value} {below : List Frame} {meth : Method} {c : Code} {dC : Nat → ClassId} {dI : Nat → Nat → Nat} {cB cI cL : ClassId} {A : Nat → Prop} (X : zx p s m args meth c R R_M b_M_fields (some .int) 1 0 0) (hA : ∀ q, s.heap.size ≤ q → A q) (zz : zk dC dI cB cI cL A s)  (a : Int32) (hG : g_M_fields_168  = some a) (H : Heap) (locs : List Loc) (hP : va_P (dC, dI) zcl ([] : va_W) H) (hD : va_D A ([] : va_W)) (hS : va_S A s.heap H locs) (ls : Array Slot) (hl : lv_has ls 1 []) : W p l e R s m args below meth c H locs 0 0 (MQ below (q_M_fields dC dI cB cI cL A a) args s 0 0 A) (F0 m 168 ls []) := by
  obtain ⟨hx, hb, hr, hml, hown, hts, hlocks, hRf, hRl⟩ := id X
  unfold g_M_fields_168 at hG
  refine lv_iconst (v := (0 : Int32)) hx hb d_M_fields_168 (by decide) ?_
  exact k_M_fields_169 X hA zz (0 : Int32) _ hG _ _ hP hD hS _ (lv_sub hl [] rfl)
set_option maxRecDepth 100000 in
set_option maxHeartbeats 4000000 in
theorem k_M_fields_152 {p : Program} {l : Launch} {e : Env} {R : Room} {s : State} {m : MethodId} {args : Array Value} {below : List Frame} {meth : Method} {c : Code} {dC : Nat → ClassId} {dI : Nat → Nat → Nat} {cB cI cL : ClassId} {A : Nat → Prop} (X : zx p s m args meth c R R_M b_M_fields (some .int) 1 0 0) (hA : ∀ q, s.heap.size ≤ q → A q) (zz : zk dC dI cB cI cL A s)  (v0 : Int32) (a : Int32) (hG : g_M_fields_152 v0 = some a) (H : Heap) (locs : List Loc) (hP : va_P (dC, dI) zcl ([] : va_W) H) (hD : va_D A ([] : va_W)) (hS : va_S A s.heap H locs) (ls : Array Slot) (hl : lv_has ls 1 [(0, .int v0)]) : W p l e R s m args below meth c H locs 0 0 (MQ below (q_M_fields dC dI cB cI cL A a) args s 0 0 A) (F0 m 152 ls []) := by
  obtain ⟨hx, hb, hr, hml, hown, hts, hlocks, hRf, hRl⟩ := id X
  unfold g_M_fields_152 at hG
  refine lv_iload_n hx hb d_M_fields_152 rfl (lv_at hl 0 rfl) ?_
  refine lv_bipush (v := (16 : Int32)) hx hb d_M_fields_153 (by decide) ?_
  refine lv_icmp_lt (tgt := 168) hx hb d_M_fields_155 (by decide) (fun hc => ?_) (fun hc => ?_)
  · have hG := zt hG hc
    exact k_M_fields_168 X hA zz _ hG _ _ hP hD hS _ (lv_sub hl [] rfl)
  · have hG := zf hG hc
    refine lv_iload_n hx hb d_M_fields_158 rfl (lv_at hl 0 rfl) ?_
    refine lv_bipush (v := (25 : Int32)) hx hb d_M_fields_159 (by decide) ?_
    refine lv_icmp_gt (tgt := 168) hx hb d_M_fields_161 (by decide) (fun hc => ?_) (fun hc => ?_)
    · have hG := zt hG hc
      exact k_M_fields_168 X hA zz _ hG _ _ hP hD hS _ (lv_sub hl [] rfl)
    · have hG := zf hG hc
      refine lv_iconst (v := (1 : Int32)) hx hb d_M_fields_164 (by decide) ?_
      refine lv_goto (tgt := 169) hx hb d_M_fields_165 (by decide) ?_
      exact k_M_fields_169 X hA zz (1 : Int32) _ hG _ _ hP hD hS _ (lv_sub hl [] rfl)
set_option maxRecDepth 100000 in
set_option maxHeartbeats 4000000 in
theorem k_M_fields_0 {p : Program} {l : Launch} {e : Env} {R : Room} {s : State} {m : MethodId} {args : Array Value} {below : List Frame} {meth : Method} {c : Code} {dC : Nat → ClassId} {dI : Nat → Nat → Nat} {cB cI cL : ClassId} {A : Nat → Prop} (X : zx p s m args meth c R R_M b_M_fields (some .int) 1 0 0) (hA : ∀ q, s.heap.size ≤ q → A q) (zz : zk dC dI cB cI cL A s)  (v0 : Int32) (a : Int32) (hG : g_M_fields v0 = some a) (H : Heap) (locs : List Loc) (hP : va_P (dC, dI) zcl ([] : va_W) H) (hD : va_D A ([] : va_W)) (hS : va_S A s.heap H locs) (ls : Array Slot) (hl : lv_has ls 1 [(0, .int v0)]) : W p l e R s m args below meth c H locs 0 0 (MQ below (q_M_fields dC dI cB cI cL A a) args s 0 0 A) (F0 m 0 ls []) := by
  obtain ⟨hx, hb, hr, hml, hown, hts, hlocks, hRf, hRl⟩ := id X
  unfold g_M_fields at hG
  refine lv_iload_n hx hb d_M_fields_0 rfl (lv_at hl 0 rfl) ?_
  by_cases hlo : v0.toInt < 4 ∨ 29 < v0.toInt
  · have hG := zf hG (fun h9 => by rw [h9] at hlo; revert hlo; decide)
    have hG := zf hG (fun h9 => by rw [h9] at hlo; revert hlo; decide)
    have hG := zf hG (fun h9 => by rw [h9] at hlo; revert hlo; decide)
    have hG := zf hG (fun h9 => by rw [h9] at hlo; revert hlo; decide)
    have hG := zf hG (fun h9 => by rw [h9] at hlo; revert hlo; decide)
    have hG := zf hG (fun h9 => by rw [h9] at hlo; revert hlo; decide)
    have hG := zf hG (fun h9 => by rw [h9] at hlo; revert hlo; decide)
    have hG := zf hG (fun h9 => by rw [h9] at hlo; revert hlo; decide)
    have hG := zf hG (fun h9 => by rw [h9] at hlo; revert hlo; decide)
    have hG := zf hG (fun h9 => by rw [h9] at hlo; revert hlo; decide)
    have hG := zf hG (fun h9 => by rw [h9] at hlo; revert hlo; decide)
    refine lv_tableOut (tgt := 152) hx hb d_M_fields_1 hlo (by decide) ?_
    exact k_M_fields_152 X hA zz v0 _ hG _ _ hP hD hS _ (lv_sub hl [0] rfl)
  obtain ⟨h1, h2⟩ := zlohi hlo
  obtain ⟨j9, hj9, hx9⟩ := zrng (lo := 4) (hi := 29) h1 h2
  have hj9 : j9 < 26 := hj9
  by_cases e9 : j9 = 0
  · subst e9
    have hc : v0 = (4 : Int32) := hx9
    have hG := zt hG hc
    refine lv_tableIn (tgt := 120) hx hb d_M_fields_1 h1 h2 (by rw [hc]; rfl) (by decide) ?_
    refine lv_sipush (v := (321 : Int32)) hx hb d_M_fields_120 (by decide) ?_
    exact W.iret (v := (321 : Int32)) hx hb hr (fun t9 ht9 hW9 => ⟨⟨(321 : Int32), (), rfl, Option.some.inj hG, by rw [ht9]; exact hP, hD⟩, hS.F ht9⟩) hS.2.2 d_M_fields_123
  by_cases e9 : j9 = 1
  · subst e9
    have hc : v0 = (5 : Int32) := hx9
    have hG := zf hG (by rw [hc]; decide)
    have hG := zt hG hc
    refine lv_tableIn (tgt := 124) hx hb d_M_fields_1 h1 h2 (by rw [hc]; rfl) (by decide) ?_
    refine lv_bipush (v := (21 : Int32)) hx hb d_M_fields_124 (by decide) ?_
    exact W.iret (v := (21 : Int32)) hx hb hr (fun t9 ht9 hW9 => ⟨⟨(21 : Int32), (), rfl, Option.some.inj hG, by rw [ht9]; exact hP, hD⟩, hS.F ht9⟩) hS.2.2 d_M_fields_126
  by_cases e9 : j9 = 2
  · subst e9
    have hc : v0 = (6 : Int32) := hx9
    have hG := zf hG (by rw [hc]; decide)
    have hG := zf hG (by rw [hc]; decide)
    have hG := zt hG hc
    refine lv_tableIn (tgt := 127) hx hb d_M_fields_1 h1 h2 (by rw [hc]; rfl) (by decide) ?_
    refine lv_bipush (v := (42 : Int32)) hx hb d_M_fields_127 (by decide) ?_
    exact W.iret (v := (42 : Int32)) hx hb hr (fun t9 ht9 hW9 => ⟨⟨(42 : Int32), (), rfl, Option.some.inj hG, by rw [ht9]; exact hP, hD⟩, hS.F ht9⟩) hS.2.2 d_M_fields_129
  by_cases e9 : j9 = 3
  · subst e9
    have hc : v0 = (7 : Int32) := hx9
    have hG := zf hG (by rw [hc]; decide)
    have hG := zf hG (by rw [hc]; decide)
    have hG := zf hG (by rw [hc]; decide)
    have hG := zt hG hc
    refine lv_tableIn (tgt := 130) hx hb d_M_fields_1 h1 h2 (by rw [hc]; rfl) (by decide) ?_
    refine lv_iconst (v := (4 : Int32)) hx hb d_M_fields_130 (by decide) ?_
    exact W.iret (v := (4 : Int32)) hx hb hr (fun t9 ht9 hW9 => ⟨⟨(4 : Int32), (), rfl, Option.some.inj hG, by rw [ht9]; exact hP, hD⟩, hS.F ht9⟩) hS.2.2 d_M_fields_131
  by_cases e9 : j9 = 4
  · subst e9
    have hc : v0 = (8 : Int32) := hx9
    have hG := zf hG (by rw [hc]; decide)
    have hG := zf hG (by rw [hc]; decide)
    have hG := zf hG (by rw [hc]; decide)
    have hG := zf hG (by rw [hc]; decide)
    have hG := zf hG (by rw [hc]; decide)
    have hG := zf hG (by rw [hc]; decide)
    have hG := zf hG (by rw [hc]; decide)
    have hG := zf hG (by rw [hc]; decide)
    have hG := zf hG (by rw [hc]; decide)
    have hG := zf hG (by rw [hc]; decide)
    have hG := zf hG (by rw [hc]; decide)
    refine lv_tableIn (tgt := 152) hx hb d_M_fields_1 h1 h2 (by rw [hc]; rfl) (by decide) ?_
    exact k_M_fields_152 X hA zz v0 _ hG _ _ hP hD hS _ (lv_sub hl [0] rfl)
  by_cases e9 : j9 = 5
  · subst e9
    have hc : v0 = (9 : Int32) := hx9
    have hG := zf hG (by rw [hc]; decide)
    have hG := zf hG (by rw [hc]; decide)
    have hG := zf hG (by rw [hc]; decide)
    have hG := zf hG (by rw [hc]; decide)
    have hG := zf hG (by rw [hc]; decide)
    have hG := zf hG (by rw [hc]; decide)
    have hG := zf hG (by rw [hc]; decide)
    have hG := zf hG (by rw [hc]; decide)
    have hG := zf hG (by rw [hc]; decide)
    have hG := zf hG (by rw [hc]; decide)
    have hG := zf hG (by rw [hc]; decide)
    refine lv_tableIn (tgt := 152) hx hb d_M_fields_1 h1 h2 (by rw [hc]; rfl) (by decide) ?_
    exact k_M_fields_152 X hA zz v0 _ hG _ _ hP hD hS _ (lv_sub hl [0] rfl)
  by_cases e9 : j9 = 6
  · subst e9
    have hc : v0 = (10 : Int32) := hx9
    have hG := zf hG (by rw [hc]; decide)
    have hG := zf hG (by rw [hc]; decide)
    have hG := zf hG (by rw [hc]; decide)
    have hG := zf hG (by rw [hc]; decide)
    have hG := zf hG (by rw [hc]; decide)
    have hG := zf hG (by rw [hc]; decide)
    have hG := zf hG (by rw [hc]; decide)
    have hG := zf hG (by rw [hc]; decide)
    have hG := zf hG (by rw [hc]; decide)
    have hG := zf hG (by rw [hc]; decide)
    have hG := zf hG (by rw [hc]; decide)
    refine lv_tableIn (tgt := 152) hx hb d_M_fields_1 h1 h2 (by rw [hc]; rfl) (by decide) ?_
    exact k_M_fields_152 X hA zz v0 _ hG _ _ hP hD hS _ (lv_sub hl [0] rfl)
  by_cases e9 : j9 = 7
  · subst e9
    have hc : v0 = (11 : Int32) := hx9
    have hG := zf hG (by rw [hc]; decide)
    have hG := zf hG (by rw [hc]; decide)
    have hG := zf hG (by rw [hc]; decide)
    have hG := zf hG (by rw [hc]; decide)
    have hG := zf hG (by rw [hc]; decide)
    have hG := zf hG (by rw [hc]; decide)
    have hG := zf hG (by rw [hc]; decide)
    have hG := zf hG (by rw [hc]; decide)
    have hG := zf hG (by rw [hc]; decide)
    have hG := zf hG (by rw [hc]; decide)
    have hG := zf hG (by rw [hc]; decide)
    refine lv_tableIn (tgt := 152) hx hb d_M_fields_1 h1 h2 (by rw [hc]; rfl) (by decide) ?_
    exact k_M_fields_152 X hA zz v0 _ hG _ _ hP hD hS _ (lv_sub hl [0] rfl)
  by_cases e9 : j9 = 8
  · subst e9
    have hc : v0 = (12 : Int32) := hx9
    have hG := zf hG (by rw [hc]; decide)
    have hG := zf hG (by rw [hc]; decide)
    have hG := zf hG (by rw [hc]; decide)
    have hG := zf hG (by rw [hc]; decide)
    have hG := zf hG (by rw [hc]; decide)
    have hG := zf hG (by rw [hc]; decide)
    have hG := zf hG (by rw [hc]; decide)
    have hG := zf hG (by rw [hc]; decide)
    have hG := zf hG (by rw [hc]; decide)
    have hG := zf hG (by rw [hc]; decide)
    have hG := zf hG (by rw [hc]; decide)
    refine lv_tableIn (tgt := 152) hx hb d_M_fields_1 h1 h2 (by rw [hc]; rfl) (by decide) ?_
    exact k_M_fields_152 X hA zz v0 _ hG _ _ hP hD hS _ (lv_sub hl [0] rfl)
  by_cases e9 : j9 = 9
  · subst e9
    have hc : v0 = (13 : Int32) := hx9
    have hG := zf hG (by rw [hc]; decide)
    have hG := zf hG (by rw [hc]; decide)
    have hG := zf hG (by rw [hc]; decide)
    have hG := zf hG (by rw [hc]; decide)
    have hG := zf hG (by rw [hc]; decide)
    have hG := zf hG (by rw [hc]; decide)
    have hG := zf hG (by rw [hc]; decide)
    have hG := zf hG (by rw [hc]; decide)
    have hG := zf hG (by rw [hc]; decide)
    have hG := zf hG (by rw [hc]; decide)
    have hG := zf hG (by rw [hc]; decide)
    refine lv_tableIn (tgt := 152) hx hb d_M_fields_1 h1 h2 (by rw [hc]; rfl) (by decide) ?_
    exact k_M_fields_152 X hA zz v0 _ hG _ _ hP hD hS _ (lv_sub hl [0] rfl)
  by_cases e9 : j9 = 10
  · subst e9
    have hc : v0 = (14 : Int32) := hx9
    have hG := zf hG (by rw [hc]; decide)
    have hG := zf hG (by rw [hc]; decide)
    have hG := zf hG (by rw [hc]; decide)
    have hG := zf hG (by rw [hc]; decide)
    have hG := zf hG (by rw [hc]; decide)
    have hG := zf hG (by rw [hc]; decide)
    have hG := zf hG (by rw [hc]; decide)
    have hG := zf hG (by rw [hc]; decide)
    have hG := zf hG (by rw [hc]; decide)
    have hG := zf hG (by rw [hc]; decide)
    have hG := zf hG (by rw [hc]; decide)
    refine lv_tableIn (tgt := 152) hx hb d_M_fields_1 h1 h2 (by rw [hc]; rfl) (by decide) ?_
    exact k_M_fields_152 X hA zz v0 _ hG _ _ hP hD hS _ (lv_sub hl [0] rfl)
  by_cases e9 : j9 = 11
  · subst e9
    have hc : v0 = (15 : Int32) := hx9
    have hG := zf hG (by rw [hc]; decide)
    have hG := zf hG (by rw [hc]; decide)
    have hG := zf hG (by rw [hc]; decide)
    have hG := zf hG (by rw [hc]; decide)
    have hG := zf hG (by rw [hc]; decide)
    have hG := zf hG (by rw [hc]; decide)
    have hG := zf hG (by rw [hc]; decide)
    have hG := zf hG (by rw [hc]; decide)
    have hG := zf hG (by rw [hc]; decide)
    have hG := zf hG (by rw [hc]; decide)
    have hG := zf hG (by rw [hc]; decide)
    refine lv_tableIn (tgt := 152) hx hb d_M_fields_1 h1 h2 (by rw [hc]; rfl) (by decide) ?_
    exact k_M_fields_152 X hA zz v0 _ hG _ _ hP hD hS _ (lv_sub hl [0] rfl)
  by_cases e9 : j9 = 12
  · subst e9
    have hc : v0 = (16 : Int32) := hx9
    have hG := zf hG (by rw [hc]; decide)
    have hG := zf hG (by rw [hc]; decide)
    have hG := zf hG (by rw [hc]; decide)
    have hG := zf hG (by rw [hc]; decide)
    have hG := zf hG (by rw [hc]; decide)
    have hG := zf hG (by rw [hc]; decide)
    have hG := zf hG (by rw [hc]; decide)
    have hG := zf hG (by rw [hc]; decide)
    have hG := zf hG (by rw [hc]; decide)
    have hG := zf hG (by rw [hc]; decide)
    have hG := zf hG (by rw [hc]; decide)
    refine lv_tableIn (tgt := 152) hx hb d_M_fields_1 h1 h2 (by rw [hc]; rfl) (by decide) ?_
    exact k_M_fields_152 X hA zz v0 _ hG _ _ hP hD hS _ (lv_sub hl [0] rfl)
  by_cases e9 : j9 = 13
  · subst e9
    have hc : v0 = (17 : Int32) := hx9
    have hG := zf hG (by rw [hc]; decide)
    have hG := zf hG (by rw [hc]; decide)
    have hG := zf hG (by rw [hc]; decide)
    have hG := zf hG (by rw [hc]; decide)
    have hG := zt hG hc
    refine lv_tableIn (tgt := 132) hx hb d_M_fields_1 h1 h2 (by rw [hc]; rfl) (by decide) ?_
    refine lv_bipush (v := (21 : Int32)) hx hb d_M_fields_132 (by decide) ?_
    exact W.iret (v := (21 : Int32)) hx hb hr (fun t9 ht9 hW9 => ⟨⟨(21 : Int32), (), rfl, Option.some.inj hG, by rw [ht9]; exact hP, hD⟩, hS.F ht9⟩) hS.2.2 d_M_fields_134
  by_cases e9 : j9 = 14
  · subst e9
    have hc : v0 = (18 : Int32) := hx9
    have hG := zf hG (by rw [hc]; decide)
    have hG := zf hG (by rw [hc]; decide)
    have hG := zf hG (by rw [hc]; decide)
    have hG := zf hG (by rw [hc]; decide)
    have hG := zf hG (by rw [hc]; decide)
    have hG := zf hG (by rw [hc]; decide)
    have hG := zf hG (by rw [hc]; decide)
    have hG := zf hG (by rw [hc]; decide)
    have hG := zf hG (by rw [hc]; decide)
    have hG := zf hG (by rw [hc]; decide)
    have hG := zf hG (by rw [hc]; decide)
    refine lv_tableIn (tgt := 152) hx hb d_M_fields_1 h1 h2 (by rw [hc]; rfl) (by decide) ?_
    exact k_M_fields_152 X hA zz v0 _ hG _ _ hP hD hS _ (lv_sub hl [0] rfl)
  by_cases e9 : j9 = 15
  · subst e9
    have hc : v0 = (19 : Int32) := hx9
    have hG := zf hG (by rw [hc]; decide)
    have hG := zf hG (by rw [hc]; decide)
    have hG := zf hG (by rw [hc]; decide)
    have hG := zf hG (by rw [hc]; decide)
    have hG := zf hG (by rw [hc]; decide)
    have hG := zf hG (by rw [hc]; decide)
    have hG := zf hG (by rw [hc]; decide)
    have hG := zf hG (by rw [hc]; decide)
    have hG := zf hG (by rw [hc]; decide)
    have hG := zf hG (by rw [hc]; decide)
    have hG := zf hG (by rw [hc]; decide)
    refine lv_tableIn (tgt := 152) hx hb d_M_fields_1 h1 h2 (by rw [hc]; rfl) (by decide) ?_
    exact k_M_fields_152 X hA zz v0 _ hG _ _ hP hD hS _ (lv_sub hl [0] rfl)
  by_cases e9 : j9 = 16
  · subst e9
    have hc : v0 = (20 : Int32) := hx9
    have hG := zf hG (by rw [hc]; decide)
    have hG := zf hG (by rw [hc]; decide)
    have hG := zf hG (by rw [hc]; decide)
    have hG := zf hG (by rw [hc]; decide)
    have hG := zf hG (by rw [hc]; decide)
    have hG := zf hG (by rw [hc]; decide)
    have hG := zf hG (by rw [hc]; decide)
    have hG := zf hG (by rw [hc]; decide)
    have hG := zf hG (by rw [hc]; decide)
    have hG := zf hG (by rw [hc]; decide)
    have hG := zf hG (by rw [hc]; decide)
    refine lv_tableIn (tgt := 152) hx hb d_M_fields_1 h1 h2 (by rw [hc]; rfl) (by decide) ?_
    exact k_M_fields_152 X hA zz v0 _ hG _ _ hP hD hS _ (lv_sub hl [0] rfl)
  by_cases e9 : j9 = 17
  · subst e9
    have hc : v0 = (21 : Int32) := hx9
    have hG := zf hG (by rw [hc]; decide)
    have hG := zf hG (by rw [hc]; decide)
    have hG := zf hG (by rw [hc]; decide)
    have hG := zf hG (by rw [hc]; decide)
    have hG := zf hG (by rw [hc]; decide)
    have hG := zt hG hc
    refine lv_tableIn (tgt := 135) hx hb d_M_fields_1 h1 h2 (by rw [hc]; rfl) (by decide) ?_
    refine lv_bipush (v := (21 : Int32)) hx hb d_M_fields_135 (by decide) ?_
    exact W.iret (v := (21 : Int32)) hx hb hr (fun t9 ht9 hW9 => ⟨⟨(21 : Int32), (), rfl, Option.some.inj hG, by rw [ht9]; exact hP, hD⟩, hS.F ht9⟩) hS.2.2 d_M_fields_137
  by_cases e9 : j9 = 18
  · subst e9
    have hc : v0 = (22 : Int32) := hx9
    have hG := zf hG (by rw [hc]; decide)
    have hG := zf hG (by rw [hc]; decide)
    have hG := zf hG (by rw [hc]; decide)
    have hG := zf hG (by rw [hc]; decide)
    have hG := zf hG (by rw [hc]; decide)
    have hG := zf hG (by rw [hc]; decide)
    have hG := zf hG (by rw [hc]; decide)
    have hG := zf hG (by rw [hc]; decide)
    have hG := zf hG (by rw [hc]; decide)
    have hG := zf hG (by rw [hc]; decide)
    have hG := zf hG (by rw [hc]; decide)
    refine lv_tableIn (tgt := 152) hx hb d_M_fields_1 h1 h2 (by rw [hc]; rfl) (by decide) ?_
    exact k_M_fields_152 X hA zz v0 _ hG _ _ hP hD hS _ (lv_sub hl [0] rfl)
  by_cases e9 : j9 = 19
  · subst e9
    have hc : v0 = (23 : Int32) := hx9
    have hG := zf hG (by rw [hc]; decide)
    have hG := zf hG (by rw [hc]; decide)
    have hG := zf hG (by rw [hc]; decide)
    have hG := zf hG (by rw [hc]; decide)
    have hG := zf hG (by rw [hc]; decide)
    have hG := zf hG (by rw [hc]; decide)
    have hG := zf hG (by rw [hc]; decide)
    have hG := zf hG (by rw [hc]; decide)
    have hG := zf hG (by rw [hc]; decide)
    have hG := zf hG (by rw [hc]; decide)
    have hG := zf hG (by rw [hc]; decide)
    refine lv_tableIn (tgt := 152) hx hb d_M_fields_1 h1 h2 (by rw [hc]; rfl) (by decide) ?_
    exact k_M_fields_152 X hA zz v0 _ hG _ _ hP hD hS _ (lv_sub hl [0] rfl)
  by_cases e9 : j9 = 20
  · subst e9
    have hc : v0 = (24 : Int32) := hx9
    have hG := zf hG (by rw [hc]; decide)
    have hG := zf hG (by rw [hc]; decide)
    have hG := zf hG (by rw [hc]; decide)
    have hG := zf hG (by rw [hc]; decide)
    have hG := zf hG (by rw [hc]; decide)
    have hG := zf hG (by rw [hc]; decide)
    have hG := zt hG hc
    refine lv_tableIn (tgt := 138) hx hb d_M_fields_1 h1 h2 (by rw [hc]; rfl) (by decide) ?_
    refine lv_bipush (v := (21 : Int32)) hx hb d_M_fields_138 (by decide) ?_
    exact W.iret (v := (21 : Int32)) hx hb hr (fun t9 ht9 hW9 => ⟨⟨(21 : Int32), (), rfl, Option.some.inj hG, by rw [ht9]; exact hP, hD⟩, hS.F ht9⟩) hS.2.2 d_M_fields_140
  by_cases e9 : j9 = 21
  · subst e9
    have hc : v0 = (25 : Int32) := hx9
    have hG := zf hG (by rw [hc]; decide)
    have hG := zf hG (by rw [hc]; decide)
    have hG := zf hG (by rw [hc]; decide)
    have hG := zf hG (by rw [hc]; decide)
    have hG := zf hG (by rw [hc]; decide)
    have hG := zf hG (by rw [hc]; decide)
    have hG := zf hG (by rw [hc]; decide)
    have hG := zf hG (by rw [hc]; decide)
    have hG := zf hG (by rw [hc]; decide)
    have hG := zf hG (by rw [hc]; decide)
    have hG := zf hG (by rw [hc]; decide)
    refine lv_tableIn (tgt := 152) hx hb d_M_fields_1 h1 h2 (by rw [hc]; rfl) (by decide) ?_
    exact k_M_fields_152 X hA zz v0 _ hG _ _ hP hD hS _ (lv_sub hl [0] rfl)
  by_cases e9 : j9 = 22
  · subst e9
    have hc : v0 = (26 : Int32) := hx9
    have hG := zf hG (by rw [hc]; decide)
    have hG := zf hG (by rw [hc]; decide)
    have hG := zf hG (by rw [hc]; decide)
    have hG := zf hG (by rw [hc]; decide)
    have hG := zf hG (by rw [hc]; decide)
    have hG := zf hG (by rw [hc]; decide)
    have hG := zf hG (by rw [hc]; decide)
    have hG := zt hG hc
    refine lv_tableIn (tgt := 141) hx hb d_M_fields_1 h1 h2 (by rw [hc]; rfl) (by decide) ?_
    refine lv_iconst (v := (5 : Int32)) hx hb d_M_fields_141 (by decide) ?_
    exact W.iret (v := (5 : Int32)) hx hb hr (fun t9 ht9 hW9 => ⟨⟨(5 : Int32), (), rfl, Option.some.inj hG, by rw [ht9]; exact hP, hD⟩, hS.F ht9⟩) hS.2.2 d_M_fields_142
  by_cases e9 : j9 = 23
  · subst e9
    have hc : v0 = (27 : Int32) := hx9
    have hG := zf hG (by rw [hc]; decide)
    have hG := zf hG (by rw [hc]; decide)
    have hG := zf hG (by rw [hc]; decide)
    have hG := zf hG (by rw [hc]; decide)
    have hG := zf hG (by rw [hc]; decide)
    have hG := zf hG (by rw [hc]; decide)
    have hG := zf hG (by rw [hc]; decide)
    have hG := zf hG (by rw [hc]; decide)
    have hG := zt hG hc
    refine lv_tableIn (tgt := 143) hx hb d_M_fields_1 h1 h2 (by rw [hc]; rfl) (by decide) ?_
    refine lv_iconst (v := (5 : Int32)) hx hb d_M_fields_143 (by decide) ?_
    exact W.iret (v := (5 : Int32)) hx hb hr (fun t9 ht9 hW9 => ⟨⟨(5 : Int32), (), rfl, Option.some.inj hG, by rw [ht9]; exact hP, hD⟩, hS.F ht9⟩) hS.2.2 d_M_fields_144
  by_cases e9 : j9 = 24
  · subst e9
    have hc : v0 = (28 : Int32) := hx9
    have hG := zf hG (by rw [hc]; decide)
    have hG := zf hG (by rw [hc]; decide)
    have hG := zf hG (by rw [hc]; decide)
    have hG := zf hG (by rw [hc]; decide)
    have hG := zf hG (by rw [hc]; decide)
    have hG := zf hG (by rw [hc]; decide)
    have hG := zf hG (by rw [hc]; decide)
    have hG := zf hG (by rw [hc]; decide)
    have hG := zf hG (by rw [hc]; decide)
    have hG := zt hG hc
    refine lv_tableIn (tgt := 145) hx hb d_M_fields_1 h1 h2 (by rw [hc]; rfl) (by decide) ?_
    refine lv_sipush (v := (421 : Int32)) hx hb d_M_fields_145 (by decide) ?_
    exact W.iret (v := (421 : Int32)) hx hb hr (fun t9 ht9 hW9 => ⟨⟨(421 : Int32), (), rfl, Option.some.inj hG, by rw [ht9]; exact hP, hD⟩, hS.F ht9⟩) hS.2.2 d_M_fields_148
  by_cases e9 : j9 = 25
  · subst e9
    have hc : v0 = (29 : Int32) := hx9
    have hG := zf hG (by rw [hc]; decide)
    have hG := zf hG (by rw [hc]; decide)
    have hG := zf hG (by rw [hc]; decide)
    have hG := zf hG (by rw [hc]; decide)
    have hG := zf hG (by rw [hc]; decide)
    have hG := zf hG (by rw [hc]; decide)
    have hG := zf hG (by rw [hc]; decide)
    have hG := zf hG (by rw [hc]; decide)
    have hG := zf hG (by rw [hc]; decide)
    have hG := zf hG (by rw [hc]; decide)
    have hG := zt hG hc
    refine lv_tableIn (tgt := 149) hx hb d_M_fields_1 h1 h2 (by rw [hc]; rfl) (by decide) ?_
    refine lv_bipush (v := (41 : Int32)) hx hb d_M_fields_149 (by decide) ?_
    exact W.iret (v := (41 : Int32)) hx hb hr (fun t9 ht9 hW9 => ⟨⟨(41 : Int32), (), rfl, Option.some.inj hG, by rw [ht9]; exact hP, hD⟩, hS.F ht9⟩) hS.2.2 d_M_fields_151
  exact absurd hj9 (by omega)
set_option maxRecDepth 100000 in
set_option maxHeartbeats 4000000 in
theorem c_M_fields (l : Launch) (dC : Nat → ClassId) (dI : Nat → Nat → Nat) (cB cI cL : ClassId) (sz : Nat) (v0 : Int32) (a : Int32) (hG : g_M_fields v0 = some a) : Met l y_M_fields (zw y_M_fields b_M_fields 1 (some .int)) ({ frames := 0, cells := 0, slots := 0, locals := 0 }) (va_Pc [.int v0] (zpre dC dI cB cI cL sz ([] : va_W))) (q_M_fields dC dI cB cI cL (va_A ([] : va_W) sz) a) 0 0 (va_A ([] : va_W) sz) := by
  refine Met.ofW (cc := b_M_fields) (maxL := 1) (ret := (some .int)) (by decide) rfl ?_
  intro p e s m args below meth c s₁ B hml hv
  obtain ⟨rfl, hsz, hP, zz, hD0⟩ := hv
  subst hsz
  have X := zx_of (F := 0) (L := 0) B hml (Nat.le_refl _) (Nat.le_refl _)
  have hD := hD0.self (sz := s.heap.size)
  have hA : ∀ q : Nat, s.heap.size ≤ q → va_A ([] : va_W) s.heap.size q := fun q h => Or.inr h
  have hl := lv_entry ([.int v0]) (n := 1) (Nat.le_of_ble_eq_true rfl)
  rw [lg_entry_eq]
  generalize (lg_sl ([.int v0]) ++ List.replicate (1 - (lg_sl ([.int v0])).length) Slot.unset).toArray = ls at hl ⊢
  exact k_M_fields_0 X hA zz v0 a hG _ _ hP hD va_S.rf ls hl
noncomputable def g_M_takeData_w23 (sM_23 : zM) : Option (zM) := some (sM_23)
noncomputable def g_M_takeData_23 (sM : zM) (s0 : Int32) : Option (zM) := g_M_takeData_w23 (zM_dataSize' sM s0)
noncomputable def g_M_takeData_w6 (v1 : Int64) (sM_6 : zM) : Option (zM) := if (zM_over sM_6) = (0 : Int32) then (g_M_takeData_23 sM_6 v1.toInt32) else (g_M_takeData_23 sM_6 (0 : Int32))
noncomputable def g_M_takeData_c3 (v1 : Int64) (sM_3 : zM) (r_3 : Int32) : Option (zM) := g_M_takeData_w6 v1 (zM_dataAt' sM_3 r_3)
noncomputable def g_M_takeData (sM : zM) (v1 : Int64) : Option (zM) := (g_M_pass sM v1).bind (fun a => g_M_takeData_c3 v1 a.2 a.1)
def q_M_takeData (dC : Nat → ClassId) (dI : Nat → Nat → Nat) (cB cI cL : ClassId) (A : Nat → Prop) (adM : Nat) (adM_tape : Nat) (adM_frameAt : Nat) (adM_field : Nat) (adM_draft : Nat) (adM_given : Nat) (adM_low : Nat) (adM_high : Nat) (adM_packet : Nat) (adM_known : Nat) (a : zM) : Array Value → State → Outcome → State → Prop := va_Qv (fun (u : zM) => (u) = a) (fun u U => va_P (dC, dI) zcl (zwM adM adM_tape adM_frameAt adM_field adM_draft adM_given adM_low adM_high adM_packet adM_known cB cI cL u) U.heap ∧ va_D A (zwM adM adM_tape adM_frameAt adM_field adM_draft adM_given adM_low adM_high adM_packet adM_known cB cI cL u)) A
set_option maxRecDepth 100000 in
set_option maxHeartbeats 4000000 in
theorem k_M_takeData_23 {p : Program} {l : Launch} {e : Env} {R : Room} {s : State} {m : MethodId} {args : Array Value} {below : List Frame} {meth : Method} {c : Code} {dC : Nat → ClassId} {dI : Nat → Nat → Nat} {cB cI cL : ClassId} {A : Nat → Prop} (X : zx p s m args meth c R R_M b_M_takeData none 3 1 23) (hA : ∀ q, s.heap.size ≤ q → A q) (zz : zk dC dI cB cI cL A s)  (sM : zM) (s0 : Int32) (a : zM) (hG : g_M_takeData_23 sM s0 = some a) (adM adM_tape adM_frameAt adM_field adM_draft adM_given adM_low adM_high adM_packet adM_known : Nat) (H : Heap) (locs : List Loc) (hP : va_P (dC, dI) zcl (zwM adM adM_tape adM_frameAt adM_field adM_draft adM_given adM_low adM_high adM_packet adM_known cB cI cL sM) H) (hD : va_D A (zwM adM adM_tape adM_frameAt adM_field adM_draft adM_given adM_low adM_high adM_packet adM_known cB cI cL sM)) (hS : va_S A s.heap H locs) (ls : Array Slot) (hl : lv_has ls 3 []) : W p l e R s m args below meth c H locs 0 0 (MQ below (q_M_takeData dC dI cB cI cL A adM adM_tape adM_frameAt adM_field adM_draft adM_given adM_low adM_high adM_packet adM_known a) args s 0 0 A) (F0 m 23 ls [.int s0, .ref adM]) := by
  obtain ⟨hx, hb, hr, hml, hown, hts, hlocks, hRf, hRl⟩ := id X
  unfold g_M_takeData_23 at hG
  refine va_put (D := (dC, dI)) (ci := 8) (v := .int s0) (ty := .int) (C := R_M) (T := F_M) (N := 26) hx hb hts zi_M zty_M zty_M_ok znm_M hown zz.1 hP hD hS 0 rfl rfl 10 (by decide) (hts (.fieldLink R_M 147 "WireCodecModel" "dataSize" "I") zin_M_147) (fun _ h9 => h9) rfl (by decide +kernel) rfl rfl (Nat.le_of_ble_eq_true rfl) d_M_takeData_23 (fun H locs hP hD hS => ?_)
  have hP := zp_M_dataSize hP
  have hD := zd_M_dataSize hD
  have hG : g_M_takeData_w23 (zM_dataSize' sM s0) = some a := hG
  generalize zM_dataSize' sM s0 = sM_23 at hP hD hG
  unfold g_M_takeData_w23 at hG
  exact W.vret hx hb hr (fun t9 ht9 hW9 => ⟨⟨(sM_23), rfl, Option.some.inj hG, by rw [ht9]; exact hP, hD⟩, hS.F ht9⟩) hS.2.2 d_M_takeData_26
set_option maxRecDepth 100000 in
set_option maxHeartbeats 4000000 in
theorem k_M_takeData_0 {p : Program} {l : Launch} {e : Env} {R : Room} {s : State} {m : MethodId} {args : Array Value} {below : List Frame} {meth : Method} {c : Code} {dC : Nat → ClassId} {dI : Nat → Nat → Nat} {cB cI cL : ClassId} {A : Nat → Prop} (X : zx p s m args meth c R R_M b_M_takeData none 3 1 23) (hA : ∀ q, s.heap.size ≤ q → A q) (zz : zk dC dI cB cI cL A s)  (sM : zM) (v1 : Int64) (a : zM) (hG : g_M_takeData sM v1 = some a) (adM adM_tape adM_frameAt adM_field adM_draft adM_given adM_low adM_high adM_packet adM_known : Nat) (H : Heap) (locs : List Loc) (hP : va_P (dC, dI) zcl (zwM adM adM_tape adM_frameAt adM_field adM_draft adM_given adM_low adM_high adM_packet adM_known cB cI cL sM) H) (hD : va_D A (zwM adM adM_tape adM_frameAt adM_field adM_draft adM_given adM_low adM_high adM_packet adM_known cB cI cL sM)) (hS : va_S A s.heap H locs) (ls : Array Slot) (hl : lv_has ls 3 [(0, .ref adM), (1, .long v1)]) : W p l e R s m args below meth c H locs 0 0 (MQ below (q_M_takeData dC dI cB cI cL A adM adM_tape adM_frameAt adM_field adM_draft adM_given adM_low adM_high adM_packet adM_known a) args s 0 0 A) (F0 m 0 ls []) := by
  obtain ⟨hx, hb, hr, hml, hown, hts, hlocks, hRf, hRl⟩ := id X
  unfold g_M_takeData at hG
  refine lv_aload_n hx hb d_M_takeData_0 rfl (lv_at hl 0 rfl) ?_
  refine lv_aload_n hx hb d_M_takeData_1 rfl (lv_at hl 0 rfl) ?_
  refine lv_lload_n hx hb d_M_takeData_2 rfl (lv_at hl 1 rfl) ?_
  obtain ⟨a_3, hx_3, hG⟩ := zb hG
  have hr_3 := zrunV (p := p) (e := e) (below := below) (meth := meth) (As := [.long v1]) (rest := [.ref adM]) (st0 := [.long v1, .ref adM, .ref adM]) (cells := 0) (slots := 0) X zz hP hD hS hA [0, 1, 2, 3, 4, 5, 6, 7, 8, 9] (by decide) rfl (c_M_pass l dC dI cB cI cL H.size adM adM_tape adM_frameAt adM_field adM_draft adM_given adM_low adM_high adM_packet adM_known sM v1 _ hx_3) zy_M_pass zv_M_pass (hts (.methodLink R_M 141 y_M_pass) zin_M_141) hl rfl rfl d_M_takeData_3 (lv_room (Nat.le_of_ble_eq_true rfl)) rfl rfl ⟨Nat.le_trans (Nat.le_of_ble_eq_true rfl) hRf, Nat.le_trans (Nat.le_of_ble_eq_true rfl) hRl⟩ ⟨Nat.zero_le _, Nat.zero_le _⟩ 0 8 rfl rfl
  refine zcalli (wr := ([] : va_W)) hr_3 hP hD hS hA [0, 1, 2, 3, 4, 5, 6, 7, 8, 9] [] rfl rfl (by decide) (by decide) (fun r_3 u_3 H locs hw_3 hP hD hS => ?_)
  obtain ⟨sM_3, rfl⟩ : ∃ z, z = u_3 := ⟨_, rfl⟩
  subst hw_3
  have hP : va_P (dC, dI) zcl (zwM adM adM_tape adM_frameAt adM_field adM_draft adM_given adM_low adM_high adM_packet adM_known cB cI cL sM_3) H := hP
  have hD : va_D A (zwM adM adM_tape adM_frameAt adM_field adM_draft adM_given adM_low adM_high adM_packet adM_known cB cI cL sM_3) := hD
  have hG : g_M_takeData_c3 v1 sM_3 r_3 = some a := hG
  unfold g_M_takeData_c3 at hG
  refine va_put (D := (dC, dI)) (ci := 8) (v := .int r_3) (ty := .int) (C := R_M) (T := F_M) (N := 26) hx hb hts zi_M zty_M zty_M_ok znm_M hown zz.1 hP hD hS 0 rfl rfl 9 (by decide) (hts (.fieldLink R_M 144 "WireCodecModel" "dataAt" "I") zin_M_144) (fun _ h9 => h9) rfl (by decide +kernel) rfl rfl (Nat.le_of_ble_eq_true rfl) d_M_takeData_6 (fun H locs hP hD hS => ?_)
  have hP := zp_M_dataAt hP
  have hD := zd_M_dataAt hD
  have hG : g_M_takeData_w6 v1 (zM_dataAt' sM_3 r_3) = some a := hG
  generalize zM_dataAt' sM_3 r_3 = sM_6 at hP hD hG
  unfold g_M_takeData_w6 at hG
  refine lv_aload_n hx hb d_M_takeData_9 rfl (lv_at hl 0 rfl) ?_
  refine lv_aload_n hx hb d_M_takeData_10 rfl (lv_at hl 0 rfl) ?_
  refine va_get (D := (dC, dI)) (ci := 8) (v := .int (zM_over sM_6)) (C := R_M) (T := F_M) (N := 26) hx hb hts zi_M hown zz.1 hP 0 rfl rfl 15 (by decide) (hts (.fieldLink R_M 116 "WireCodecModel" "over" "Z") zin_M_116) (fun _ h9 => h9) rfl d_M_takeData_11 ?_
  refine lv_if_eq (tgt := 21) hx hb d_M_takeData_14 (by decide) (fun hc => ?_) (fun hc => ?_)
  · have hG := zt hG hc
    refine lv_lload_n hx hb d_M_takeData_21 rfl (lv_at hl 1 rfl) ?_
    refine lv_l2i hx hb d_M_takeData_22 rfl ?_
    exact k_M_takeData_23 X hA zz sM_6 v1.toInt32 _ hG adM adM_tape adM_frameAt adM_field adM_draft adM_given adM_low adM_high adM_packet adM_known _ _ hP hD hS _ (lv_sub hl [] rfl)
  · have hG := zf hG hc
    refine lv_iconst (v := (0 : Int32)) hx hb d_M_takeData_17 (by decide) ?_
    refine lv_goto (tgt := 23) hx hb d_M_takeData_18 (by decide) ?_
    exact k_M_takeData_23 X hA zz sM_6 (0 : Int32) _ hG adM adM_tape adM_frameAt adM_field adM_draft adM_given adM_low adM_high adM_packet adM_known _ _ hP hD hS _ (lv_sub hl [] rfl)
set_option maxRecDepth 100000 in
set_option maxHeartbeats 4000000 in
theorem c_M_takeData (l : Launch) (dC : Nat → ClassId) (dI : Nat → Nat → Nat) (cB cI cL : ClassId) (sz : Nat) (adM adM_tape adM_frameAt adM_field adM_draft adM_given adM_low adM_high adM_packet adM_known : Nat) (sM : zM) (v1 : Int64) (a : zM) (hG : g_M_takeData sM v1 = some a) : Met l y_M_takeData (zw y_M_takeData b_M_takeData 3 none) ({ frames := 1, cells := 0, slots := 0, locals := 23 }) (va_Pc [.ref adM, .long v1] (zpre dC dI cB cI cL sz (zwM adM adM_tape adM_frameAt adM_field adM_draft adM_given adM_low adM_high adM_packet adM_known cB cI cL sM))) (q_M_takeData dC dI cB cI cL (va_A (zwM adM adM_tape adM_frameAt adM_field adM_draft adM_given adM_low adM_high adM_packet adM_known cB cI cL sM) sz) adM adM_tape adM_frameAt adM_field adM_draft adM_given adM_low adM_high adM_packet adM_known a) 0 0 (va_A (zwM adM adM_tape adM_frameAt adM_field adM_draft adM_given adM_low adM_high adM_packet adM_known cB cI cL sM) sz) := by
  refine Met.ofW (cc := b_M_takeData) (maxL := 3) (ret := none) (by decide) rfl ?_
  intro p e s m args below meth c s₁ B hml hv
  obtain ⟨rfl, hsz, hP, zz, hD0⟩ := hv
  subst hsz
  have X := zx_of (F := 1) (L := 23) B hml (Nat.le_refl _) (Nat.le_refl _)
  have hD := hD0.self (sz := s.heap.size)
  have hA : ∀ q : Nat, s.heap.size ≤ q → va_A (zwM adM adM_tape adM_frameAt adM_field adM_draft adM_given adM_low adM_high adM_packet adM_known cB cI cL sM) s.heap.size q := fun q h => Or.inr h
  have hl := lv_entry ([.ref adM, .long v1]) (n := 3) (Nat.le_of_ble_eq_true rfl)
  rw [lg_entry_eq]
  generalize (lg_sl ([.ref adM, .long v1]) ++ List.replicate (3 - (lg_sl ([.ref adM, .long v1])).length) Slot.unset).toArray = ls at hl ⊢
  exact k_M_takeData_0 X hA zz sM v1 a hG adM adM_tape adM_frameAt adM_field adM_draft adM_given adM_low adM_high adM_packet adM_known _ _ hP hD va_S.rf ls hl
noncomputable def g_M_takeStream_c93 (sM_93 : zM) : Option (zM) := some (sM_93)
noncomputable def g_M_takeStream_93 (N : Nat) (sM : zM) (s0 : Int64) : Option (zM) := (g_M_takeData sM s0).bind (fun a => g_M_takeStream_c93 a)
noncomputable def g_M_takeStream_c65 (N : Nat) (sM_65 : zM) (r_65 : Int64) : Option (zM) := g_M_takeStream_93 N sM_65 r_65
noncomputable def g_M_takeStream_w51 (N : Nat) (sM_51 : zM) : Option (zM) := zg (vp_in (3 : Int32) 12) (if (lg_cmp ((zM_field sM_51) (3 : Int32).toNatClampNeg) (1 : Int64)) = (0 : Int32) then ((g_M_takeNumber N sM_51).bind (fun a => g_M_takeStream_c65 N a.2 a.1)) else (if (zM_over sM_51) = (0 : Int32) then (g_M_takeStream_93 N sM_51 (((zM_end sM_51).toInt64) - ((zM_at sM_51).toInt64))) else (g_M_takeStream_93 N sM_51 (0 : Int64))))
noncomputable def g_M_takeStream_51 (N : Nat) (sM : zM) (s0 : Int64) (s1 : Int32) : Option (zM) := zg (vp_in s1 12) (g_M_takeStream_w51 N (zM_field' sM (vp_updL (zM_field sM) s1.toNatClampNeg s0)))
noncomputable def g_M_takeStream_c44 (N : Nat) (sM_44 : zM) (r_44 : Int64) : Option (zM) := g_M_takeStream_51 N sM_44 r_44 (1 : Int32)
noncomputable def g_M_takeStream_w31 (N : Nat) (v1 : Int32) (sM_31 : zM) : Option (zM) := if (v1 &&& (4 : Int32)) ≤ (0 : Int32) then (g_M_takeStream_51 N sM_31 (0 : Int64) (1 : Int32)) else ((g_M_takeNumber N sM_31).bind (fun a => g_M_takeStream_c44 N a.2 a.1))
noncomputable def g_M_takeStream_c28 (N : Nat) (v1 : Int32) (sM_28 : zM) (r_28 : Int64) : Option (zM) := zg (vp_in (0 : Int32) 12) (g_M_takeStream_w31 N v1 (zM_field' sM_28 (vp_updL (zM_field sM_28) ((0 : Int32).toNatClampNeg) r_28)))
noncomputable def g_M_takeStream_w21 (N : Nat) (v1 : Int32) (sM_21 : zM) : Option (zM) := (g_M_takeNumber N sM_21).bind (fun a => g_M_takeStream_c28 N v1 a.2 a.1)
noncomputable def g_M_takeStream_w9 (N : Nat) (v1 : Int32) (sM_9 : zM) : Option (zM) := zg (vp_in (3 : Int32) 12) (g_M_takeStream_w21 N v1 (zM_field' sM_9 (vp_updL (zM_field sM_9) ((3 : Int32).toNatClampNeg) (((v1 >>> ((1 : Int32) &&& 31)) &&& (1 : Int32)).toInt64))))
noncomputable def g_M_takeStream (N : Nat) (sM : zM) (v1 : Int32) : Option (zM) := zg (vp_in (2 : Int32) 12) (g_M_takeStream_w9 N v1 (zM_field' sM (vp_updL (zM_field sM) ((2 : Int32).toNatClampNeg) ((v1 &&& (1 : Int32)).toInt64))))
def q_M_takeStream (dC : Nat → ClassId) (dI : Nat → Nat → Nat) (cB cI cL : ClassId) (A : Nat → Prop) (adM : Nat) (adM_tape : Nat) (adM_frameAt : Nat) (adM_field : Nat) (adM_draft : Nat) (adM_given : Nat) (adM_low : Nat) (adM_high : Nat) (adM_packet : Nat) (adM_known : Nat) (a : zM) : Array Value → State → Outcome → State → Prop := va_Qv (fun (u : zM) => (u) = a) (fun u U => va_P (dC, dI) zcl (zwM adM adM_tape adM_frameAt adM_field adM_draft adM_given adM_low adM_high adM_packet adM_known cB cI cL u) U.heap ∧ va_D A (zwM adM adM_tape adM_frameAt adM_field adM_draft adM_given adM_low adM_high adM_packet adM_known cB cI cL u)) A
set_option maxRecDepth 100000 in
set_option maxHeartbeats 4000000 in
theorem k_M_takeStream_93 {p : Program} {l : Launch} {e : Env} {R : Room} {s : State} {m : MethodId} {args : Array Value} {below : List Frame} {meth : Method} {c : Code} {dC : Nat → ClassId} {dI : Nat → Nat → Nat} {cB cI cL : ClassId} {A : Nat → Prop} (X : zx p s m args meth c R R_M b_M_takeStream none 2 3 68) (hA : ∀ q, s.heap.size ≤ q → A q) (zz : zk dC dI cB cI cL A s)  (N : Nat) (sM : zM) (s0 : Int64) (a : zM) (hG : g_M_takeStream_93 N sM s0 = some a) (adM adM_tape adM_frameAt adM_field adM_draft adM_given adM_low adM_high adM_packet adM_known : Nat) (H : Heap) (locs : List Loc) (hP : va_P (dC, dI) zcl (zwM adM adM_tape adM_frameAt adM_field adM_draft adM_given adM_low adM_high adM_packet adM_known cB cI cL sM) H) (hD : va_D A (zwM adM adM_tape adM_frameAt adM_field adM_draft adM_given adM_low adM_high adM_packet adM_known cB cI cL sM)) (hS : va_S A s.heap H locs) (ls : Array Slot) (hl : lv_has ls 2 []) : W p l e R s m args below meth c H locs 0 0 (MQ below (q_M_takeStream dC dI cB cI cL A adM adM_tape adM_frameAt adM_field adM_draft adM_given adM_low adM_high adM_packet adM_known a) args s 0 0 A) (F0 m 93 ls [.long s0, .ref adM]) := by
  obtain ⟨hx, hb, hr, hml, hown, hts, hlocks, hRf, hRl⟩ := id X
  unfold g_M_takeStream_93 at hG
  obtain ⟨a_93, hx_93, hG⟩ := zb hG
  have hr_93 := zrunV (p := p) (e := e) (below := below) (meth := meth) (As := [.long s0]) (rest := []) (st0 := [.long s0, .ref adM]) (cells := 0) (slots := 0) X zz hP hD hS hA [0, 1, 2, 3, 4, 5, 6, 7, 8, 9] (by decide) rfl (c_M_takeData l dC dI cB cI cL H.size adM adM_tape adM_frameAt adM_field adM_draft adM_given adM_low adM_high adM_packet adM_known sM s0 _ hx_93) zy_M_takeData zv_M_takeData (hts (.methodLink R_M 137 y_M_takeData) zin_M_137) hl rfl rfl d_M_takeStream_93 (lv_room (Nat.le_of_ble_eq_true rfl)) rfl rfl ⟨Nat.le_trans (Nat.le_of_ble_eq_true rfl) hRf, Nat.le_trans (Nat.le_of_ble_eq_true rfl) hRl⟩ ⟨Nat.zero_le _, Nat.zero_le _⟩ 0 8 rfl rfl
  refine zcallv (wr := ([] : va_W)) hr_93 hP hD hS hA [0, 1, 2, 3, 4, 5, 6, 7, 8, 9] [] rfl rfl (by decide) (by decide) (fun u_93 H locs hw_93 hP hD hS => ?_)
  obtain ⟨sM_93, rfl⟩ : ∃ z, z = u_93 := ⟨_, rfl⟩
  subst hw_93
  have hP : va_P (dC, dI) zcl (zwM adM adM_tape adM_frameAt adM_field adM_draft adM_given adM_low adM_high adM_packet adM_known cB cI cL sM_93) H := hP
  have hD : va_D A (zwM adM adM_tape adM_frameAt adM_field adM_draft adM_given adM_low adM_high adM_packet adM_known cB cI cL sM_93) := hD
  have hG : g_M_takeStream_c93 sM_93 = some a := hG
  unfold g_M_takeStream_c93 at hG
  exact W.vret hx hb hr (fun t9 ht9 hW9 => ⟨⟨(sM_93), rfl, Option.some.inj hG, by rw [ht9]; exact hP, hD⟩, hS.F ht9⟩) hS.2.2 d_M_takeStream_96
set_option maxRecDepth 100000 in
set_option maxHeartbeats 4000000 in
theorem k_M_takeStream_51 {p : Program} {l : Launch} {e : Env} {R : Room} {s : State} {m : MethodId} {args : Array Value} {below : List Frame} {meth : Method} {c : Code} {dC : Nat → ClassId} {dI : Nat → Nat → Nat} {cB cI cL : ClassId} {A : Nat → Prop} (X : zx p s m args meth c R R_M b_M_takeStream none 2 3 68) (hA : ∀ q, s.heap.size ≤ q → A q) (zz : zk dC dI cB cI cL A s)  (N : Nat) (sM : zM) (s0 : Int64) (s1 : Int32) (a : zM) (hG : g_M_takeStream_51 N sM s0 s1 = some a) (adM adM_tape adM_frameAt adM_field adM_draft adM_given adM_low adM_high adM_packet adM_known : Nat) (H : Heap) (locs : List Loc) (hP : va_P (dC, dI) zcl (zwM adM adM_tape adM_frameAt adM_field adM_draft adM_given adM_low adM_high adM_packet adM_known cB cI cL sM) H) (hD : va_D A (zwM adM adM_tape adM_frameAt adM_field adM_draft adM_given adM_low adM_high adM_packet adM_known cB cI cL sM)) (hS : va_S A s.heap H locs) (ls : Array Slot) (hl : lv_has ls 2 [(0, .ref adM)]) : W p l e R s m args below meth c H locs 0 0 (MQ below (q_M_takeStream dC dI cB cI cL A adM adM_tape adM_frameAt adM_field adM_draft adM_given adM_low adM_high adM_packet adM_known a) args s 0 0 A) (F0 m 51 ls [.long s0, .int s1, .ref adM_field]) := by
  obtain ⟨hx, hb, hr, hml, hown, hts, hlocks, hRf, hRl⟩ := id X
  unfold g_M_takeStream_51 at hG
  obtain ⟨hin, hG⟩ := zgd hG
  refine va_last hx hb zz.1 hP hD hS 3 2 rfl rfl hin d_M_takeStream_51 (fun H locs hP hD hS => ?_)
  have hP := zp_M_field hP
  have hD := zd_M_field hD
  have hG : g_M_takeStream_w51 N (zM_field' sM (vp_updL (zM_field sM) s1.toNatClampNeg s0)) = some a := hG
  generalize zM_field' sM (vp_updL (zM_field sM) s1.toNatClampNeg s0) = sM_51 at hP hD hG
  unfold g_M_takeStream_w51 at hG
  refine lv_aload_n hx hb d_M_takeStream_52 rfl (lv_at hl 0 rfl) ?_
  refine lv_aload_n hx hb d_M_takeStream_53 rfl (lv_at hl 0 rfl) ?_
  refine va_get (D := (dC, dI)) (ci := 8) (v := .ref adM_field) (C := R_M) (T := F_M) (N := 26) hx hb hts zi_M hown zz.1 hP 0 rfl rfl 8 (by decide) (hts (.fieldLink R_M 22 "WireCodecModel" "field" "[J") zin_M_22) (fun _ h9 => h9) rfl d_M_takeStream_54 ?_
  refine lv_iconst (v := (3 : Int32)) hx hb d_M_takeStream_57 (by decide) ?_
  obtain ⟨hin, hG⟩ := zgd hG
  refine va_lald hx hb zz.1 hP 3 2 rfl rfl hin d_M_takeStream_58 ?_
  refine lv_lconst (v := (1 : Int64)) hx hb d_M_takeStream_59 (by decide) ?_
  refine W.lcmp hx hb d_M_takeStream_60 ?_
  refine lv_if_ne (tgt := 71) hx hb d_M_takeStream_61 (by decide) (fun hc => ?_) (fun hc => ?_)
  · have hG := zf hG hc
    refine lv_aload_n hx hb d_M_takeStream_71 rfl (lv_at hl 0 rfl) ?_
    refine va_get (D := (dC, dI)) (ci := 8) (v := .int (zM_over sM_51)) (C := R_M) (T := F_M) (N := 26) hx hb hts zi_M hown zz.1 hP 0 rfl rfl 15 (by decide) (hts (.fieldLink R_M 116 "WireCodecModel" "over" "Z") zin_M_116) (fun _ h9 => h9) rfl d_M_takeStream_72 ?_
    refine lv_if_eq (tgt := 82) hx hb d_M_takeStream_75 (by decide) (fun hc => ?_) (fun hc => ?_)
    · have hG := zt hG hc
      refine lv_aload_n hx hb d_M_takeStream_82 rfl (lv_at hl 0 rfl) ?_
      refine va_get (D := (dC, dI)) (ci := 8) (v := .int (zM_end sM_51)) (C := R_M) (T := F_M) (N := 26) hx hb hts zi_M hown zz.1 hP 0 rfl rfl 16 (by decide) (hts (.fieldLink R_M 113 "WireCodecModel" "end" "I") zin_M_113) (fun _ h9 => h9) rfl d_M_takeStream_83 ?_
      refine lv_i2l hx hb d_M_takeStream_86 rfl ?_
      refine lv_aload_n hx hb d_M_takeStream_87 rfl (lv_at hl 0 rfl) ?_
      refine va_get (D := (dC, dI)) (ci := 8) (v := .int (zM_at sM_51)) (C := R_M) (T := F_M) (N := 26) hx hb hts zi_M hown zz.1 hP 0 rfl rfl 14 (by decide) (hts (.fieldLink R_M 110 "WireCodecModel" "at" "I") zin_M_110) (fun _ h9 => h9) rfl d_M_takeStream_88 ?_
      refine lv_i2l hx hb d_M_takeStream_91 rfl ?_
      refine lv_lsub hx hb d_M_takeStream_92 ?_
      exact k_M_takeStream_93 X hA zz N sM_51 (((zM_end sM_51).toInt64) - ((zM_at sM_51).toInt64)) _ hG adM adM_tape adM_frameAt adM_field adM_draft adM_given adM_low adM_high adM_packet adM_known _ _ hP hD hS _ (lv_sub hl [] rfl)
    · have hG := zf hG hc
      refine lv_lconst (v := (0 : Int64)) hx hb d_M_takeStream_78 (by decide) ?_
      refine lv_goto (tgt := 93) hx hb d_M_takeStream_79 (by decide) ?_
      exact k_M_takeStream_93 X hA zz N sM_51 (0 : Int64) _ hG adM adM_tape adM_frameAt adM_field adM_draft adM_given adM_low adM_high adM_packet adM_known _ _ hP hD hS _ (lv_sub hl [] rfl)
  · have hG := zt hG hc
    refine lv_aload_n hx hb d_M_takeStream_64 rfl (lv_at hl 0 rfl) ?_
    obtain ⟨a_65, hx_65, hG⟩ := zb hG
    have hr_65 := zrunV (p := p) (e := e) (below := below) (meth := meth) (As := []) (rest := [.ref adM]) (st0 := [.ref adM, .ref adM]) (cells := 0) (slots := 0) X zz hP hD hS hA [0, 1, 2, 3, 4, 5, 6, 7, 8, 9] (by decide) rfl (c_M_takeNumber l dC dI cB cI cL H.size adM adM_tape adM_frameAt adM_field adM_draft adM_given adM_low adM_high adM_packet adM_known N sM_51 _ hx_65) zy_M_takeNumber zv_M_takeNumber (hts (.methodLink R_M 128 y_M_takeNumber) zin_M_128) hl rfl rfl d_M_takeStream_65 (lv_room (Nat.le_of_ble_eq_true rfl)) rfl rfl ⟨Nat.le_trans (Nat.le_of_ble_eq_true rfl) hRf, Nat.le_trans (Nat.le_of_ble_eq_true rfl) hRl⟩ ⟨Nat.zero_le _, Nat.zero_le _⟩ 0 8 rfl rfl
    refine zcalll (wr := ([] : va_W)) hr_65 hP hD hS hA [0, 1, 2, 3, 4, 5, 6, 7, 8, 9] [] rfl rfl (by decide) (by decide) (fun r_65 u_65 H locs hw_65 hP hD hS => ?_)
    obtain ⟨sM_65, rfl⟩ : ∃ z, z = u_65 := ⟨_, rfl⟩
    subst hw_65
    have hP : va_P (dC, dI) zcl (zwM adM adM_tape adM_frameAt adM_field adM_draft adM_given adM_low adM_high adM_packet adM_known cB cI cL sM_65) H := hP
    have hD : va_D A (zwM adM adM_tape adM_frameAt adM_field adM_draft adM_given adM_low adM_high adM_packet adM_known cB cI cL sM_65) := hD
    have hG : g_M_takeStream_c65 N sM_65 r_65 = some a := hG
    unfold g_M_takeStream_c65 at hG
    refine lv_goto (tgt := 93) hx hb d_M_takeStream_68 (by decide) ?_
    exact k_M_takeStream_93 X hA zz N sM_65 r_65 _ hG adM adM_tape adM_frameAt adM_field adM_draft adM_given adM_low adM_high adM_packet adM_known _ _ hP hD hS _ (lv_sub hl [] rfl)
set_option maxRecDepth 100000 in
set_option maxHeartbeats 4000000 in
theorem k_M_takeStream_0 {p : Program} {l : Launch} {e : Env} {R : Room} {s : State} {m : MethodId} {args : Array Value} {below : List Frame} {meth : Method} {c : Code} {dC : Nat → ClassId} {dI : Nat → Nat → Nat} {cB cI cL : ClassId} {A : Nat → Prop} (X : zx p s m args meth c R R_M b_M_takeStream none 2 3 68) (hA : ∀ q, s.heap.size ≤ q → A q) (zz : zk dC dI cB cI cL A s)  (N : Nat) (sM : zM) (v1 : Int32) (a : zM) (hG : g_M_takeStream N sM v1 = some a) (adM adM_tape adM_frameAt adM_field adM_draft adM_given adM_low adM_high adM_packet adM_known : Nat) (H : Heap) (locs : List Loc) (hP : va_P (dC, dI) zcl (zwM adM adM_tape adM_frameAt adM_field adM_draft adM_given adM_low adM_high adM_packet adM_known cB cI cL sM) H) (hD : va_D A (zwM adM adM_tape adM_frameAt adM_field adM_draft adM_given adM_low adM_high adM_packet adM_known cB cI cL sM)) (hS : va_S A s.heap H locs) (ls : Array Slot) (hl : lv_has ls 2 [(0, .ref adM), (1, .int v1)]) : W p l e R s m args below meth c H locs 0 0 (MQ below (q_M_takeStream dC dI cB cI cL A adM adM_tape adM_frameAt adM_field adM_draft adM_given adM_low adM_high adM_packet adM_known a) args s 0 0 A) (F0 m 0 ls []) := by
  obtain ⟨hx, hb, hr, hml, hown, hts, hlocks, hRf, hRl⟩ := id X
  unfold g_M_takeStream at hG
  refine lv_aload_n hx hb d_M_takeStream_0 rfl (lv_at hl 0 rfl) ?_
  refine va_get (D := (dC, dI)) (ci := 8) (v := .ref adM_field) (C := R_M) (T := F_M) (N := 26) hx hb hts zi_M hown zz.1 hP 0 rfl rfl 8 (by decide) (hts (.fieldLink R_M 22 "WireCodecModel" "field" "[J") zin_M_22) (fun _ h9 => h9) rfl d_M_takeStream_1 ?_
  refine lv_iconst (v := (2 : Int32)) hx hb d_M_takeStream_4 (by decide) ?_
  refine lv_iload_n hx hb d_M_takeStream_5 rfl (lv_at hl 1 rfl) ?_
  refine lv_iconst (v := (1 : Int32)) hx hb d_M_takeStream_6 (by decide) ?_
  refine lv_iand hx hb d_M_takeStream_7 ?_
  refine lv_i2l hx hb d_M_takeStream_8 rfl ?_
  obtain ⟨hin, hG⟩ := zgd hG
  refine va_last hx hb zz.1 hP hD hS 3 2 rfl rfl hin d_M_takeStream_9 (fun H locs hP hD hS => ?_)
  have hP := zp_M_field hP
  have hD := zd_M_field hD
  have hG : g_M_takeStream_w9 N v1 (zM_field' sM (vp_updL (zM_field sM) ((2 : Int32).toNatClampNeg) ((v1 &&& (1 : Int32)).toInt64))) = some a := hG
  generalize zM_field' sM (vp_updL (zM_field sM) ((2 : Int32).toNatClampNeg) ((v1 &&& (1 : Int32)).toInt64)) = sM_9 at hP hD hG
  unfold g_M_takeStream_w9 at hG
  refine lv_aload_n hx hb d_M_takeStream_10 rfl (lv_at hl 0 rfl) ?_
  refine va_get (D := (dC, dI)) (ci := 8) (v := .ref adM_field) (C := R_M) (T := F_M) (N := 26) hx hb hts zi_M hown zz.1 hP 0 rfl rfl 8 (by decide) (hts (.fieldLink R_M 22 "WireCodecModel" "field" "[J") zin_M_22) (fun _ h9 => h9) rfl d_M_takeStream_11 ?_
  refine lv_iconst (v := (3 : Int32)) hx hb d_M_takeStream_14 (by decide) ?_
  refine lv_iload_n hx hb d_M_takeStream_15 rfl (lv_at hl 1 rfl) ?_
  refine lv_iconst (v := (1 : Int32)) hx hb d_M_takeStream_16 (by decide) ?_
  refine lv_ishr hx hb d_M_takeStream_17 ?_
  refine lv_iconst (v := (1 : Int32)) hx hb d_M_takeStream_18 (by decide) ?_
  refine lv_iand hx hb d_M_takeStream_19 ?_
  refine lv_i2l hx hb d_M_takeStream_20 rfl ?_
  obtain ⟨hin, hG⟩ := zgd hG
  refine va_last hx hb zz.1 hP hD hS 3 2 rfl rfl hin d_M_takeStream_21 (fun H locs hP hD hS => ?_)
  have hP := zp_M_field hP
  have hD := zd_M_field hD
  have hG : g_M_takeStream_w21 N v1 (zM_field' sM_9 (vp_updL (zM_field sM_9) ((3 : Int32).toNatClampNeg) (((v1 >>> ((1 : Int32) &&& 31)) &&& (1 : Int32)).toInt64))) = some a := hG
  generalize zM_field' sM_9 (vp_updL (zM_field sM_9) ((3 : Int32).toNatClampNeg) (((v1 >>> ((1 : Int32) &&& 31)) &&& (1 : Int32)).toInt64)) = sM_21 at hP hD hG
  unfold g_M_takeStream_w21 at hG
  refine lv_aload_n hx hb d_M_takeStream_22 rfl (lv_at hl 0 rfl) ?_
  refine va_get (D := (dC, dI)) (ci := 8) (v := .ref adM_field) (C := R_M) (T := F_M) (N := 26) hx hb hts zi_M hown zz.1 hP 0 rfl rfl 8 (by decide) (hts (.fieldLink R_M 22 "WireCodecModel" "field" "[J") zin_M_22) (fun _ h9 => h9) rfl d_M_takeStream_23 ?_
  refine lv_iconst (v := (0 : Int32)) hx hb d_M_takeStream_26 (by decide) ?_
  refine lv_aload_n hx hb d_M_takeStream_27 rfl (lv_at hl 0 rfl) ?_
  obtain ⟨a_28, hx_28, hG⟩ := zb hG
  have hr_28 := zrunV (p := p) (e := e) (below := below) (meth := meth) (As := []) (rest := [.int (0 : Int32), .ref adM_field]) (st0 := [.ref adM, .int (0 : Int32), .ref adM_field]) (cells := 0) (slots := 0) X zz hP hD hS hA [0, 1, 2, 3, 4, 5, 6, 7, 8, 9] (by decide) rfl (c_M_takeNumber l dC dI cB cI cL H.size adM adM_tape adM_frameAt adM_field adM_draft adM_given adM_low adM_high adM_packet adM_known N sM_21 _ hx_28) zy_M_takeNumber zv_M_takeNumber (hts (.methodLink R_M 128 y_M_takeNumber) zin_M_128) hl rfl rfl d_M_takeStream_28 (lv_room (Nat.le_of_ble_eq_true rfl)) rfl rfl ⟨Nat.le_trans (Nat.le_of_ble_eq_true rfl) hRf, Nat.le_trans (Nat.le_of_ble_eq_true rfl) hRl⟩ ⟨Nat.zero_le _, Nat.zero_le _⟩ 0 8 rfl rfl
  refine zcalll (wr := ([] : va_W)) hr_28 hP hD hS hA [0, 1, 2, 3, 4, 5, 6, 7, 8, 9] [] rfl rfl (by decide) (by decide) (fun r_28 u_28 H locs hw_28 hP hD hS => ?_)
  obtain ⟨sM_28, rfl⟩ : ∃ z, z = u_28 := ⟨_, rfl⟩
  subst hw_28
  have hP : va_P (dC, dI) zcl (zwM adM adM_tape adM_frameAt adM_field adM_draft adM_given adM_low adM_high adM_packet adM_known cB cI cL sM_28) H := hP
  have hD : va_D A (zwM adM adM_tape adM_frameAt adM_field adM_draft adM_given adM_low adM_high adM_packet adM_known cB cI cL sM_28) := hD
  have hG : g_M_takeStream_c28 N v1 sM_28 r_28 = some a := hG
  unfold g_M_takeStream_c28 at hG
  obtain ⟨hin, hG⟩ := zgd hG
  refine va_last hx hb zz.1 hP hD hS 3 2 rfl rfl hin d_M_takeStream_31 (fun H locs hP hD hS => ?_)
  have hP := zp_M_field hP
  have hD := zd_M_field hD
  have hG : g_M_takeStream_w31 N v1 (zM_field' sM_28 (vp_updL (zM_field sM_28) ((0 : Int32).toNatClampNeg) r_28)) = some a := hG
  generalize zM_field' sM_28 (vp_updL (zM_field sM_28) ((0 : Int32).toNatClampNeg) r_28) = sM_31 at hP hD hG
  unfold g_M_takeStream_w31 at hG
  refine lv_aload_n hx hb d_M_takeStream_32 rfl (lv_at hl 0 rfl) ?_
  refine va_get (D := (dC, dI)) (ci := 8) (v := .ref adM_field) (C := R_M) (T := F_M) (N := 26) hx hb hts zi_M hown zz.1 hP 0 rfl rfl 8 (by decide) (hts (.fieldLink R_M 22 "WireCodecModel" "field" "[J") zin_M_22) (fun _ h9 => h9) rfl d_M_takeStream_33 ?_
  refine lv_iconst (v := (1 : Int32)) hx hb d_M_takeStream_36 (by decide) ?_
  refine lv_iload_n hx hb d_M_takeStream_37 rfl (lv_at hl 1 rfl) ?_
  refine lv_iconst (v := (4 : Int32)) hx hb d_M_takeStream_38 (by decide) ?_
  refine lv_iand hx hb d_M_takeStream_39 ?_
  refine lv_if_le (tgt := 50) hx hb d_M_takeStream_40 (by decide) (fun hc => ?_) (fun hc => ?_)
  · have hG := zt hG hc
    refine lv_lconst (v := (0 : Int64)) hx hb d_M_takeStream_50 (by decide) ?_
    exact k_M_takeStream_51 X hA zz N sM_31 (0 : Int64) (1 : Int32) _ hG adM adM_tape adM_frameAt adM_field adM_draft adM_given adM_low adM_high adM_packet adM_known _ _ hP hD hS _ (lv_sub hl [0] rfl)
  · have hG := zf hG hc
    refine lv_aload_n hx hb d_M_takeStream_43 rfl (lv_at hl 0 rfl) ?_
    obtain ⟨a_44, hx_44, hG⟩ := zb hG
    have hr_44 := zrunV (p := p) (e := e) (below := below) (meth := meth) (As := []) (rest := [.int (1 : Int32), .ref adM_field]) (st0 := [.ref adM, .int (1 : Int32), .ref adM_field]) (cells := 0) (slots := 0) X zz hP hD hS hA [0, 1, 2, 3, 4, 5, 6, 7, 8, 9] (by decide) rfl (c_M_takeNumber l dC dI cB cI cL H.size adM adM_tape adM_frameAt adM_field adM_draft adM_given adM_low adM_high adM_packet adM_known N sM_31 _ hx_44) zy_M_takeNumber zv_M_takeNumber (hts (.methodLink R_M 128 y_M_takeNumber) zin_M_128) hl rfl rfl d_M_takeStream_44 (lv_room (Nat.le_of_ble_eq_true rfl)) rfl rfl ⟨Nat.le_trans (Nat.le_of_ble_eq_true rfl) hRf, Nat.le_trans (Nat.le_of_ble_eq_true rfl) hRl⟩ ⟨Nat.zero_le _, Nat.zero_le _⟩ 0 8 rfl rfl
    refine zcalll (wr := ([] : va_W)) hr_44 hP hD hS hA [0, 1, 2, 3, 4, 5, 6, 7, 8, 9] [] rfl rfl (by decide) (by decide) (fun r_44 u_44 H locs hw_44 hP hD hS => ?_)
    obtain ⟨sM_44, rfl⟩ : ∃ z, z = u_44 := ⟨_, rfl⟩
    subst hw_44
    have hP : va_P (dC, dI) zcl (zwM adM adM_tape adM_frameAt adM_field adM_draft adM_given adM_low adM_high adM_packet adM_known cB cI cL sM_44) H := hP
    have hD : va_D A (zwM adM adM_tape adM_frameAt adM_field adM_draft adM_given adM_low adM_high adM_packet adM_known cB cI cL sM_44) := hD
    have hG : g_M_takeStream_c44 N sM_44 r_44 = some a := hG
    unfold g_M_takeStream_c44 at hG
    refine lv_goto (tgt := 51) hx hb d_M_takeStream_47 (by decide) ?_
    exact k_M_takeStream_51 X hA zz N sM_44 r_44 (1 : Int32) _ hG adM adM_tape adM_frameAt adM_field adM_draft adM_given adM_low adM_high adM_packet adM_known _ _ hP hD hS _ (lv_sub hl [0] rfl)
set_option maxRecDepth 100000 in
set_option maxHeartbeats 4000000 in
theorem c_M_takeStream (l : Launch) (dC : Nat → ClassId) (dI : Nat → Nat → Nat) (cB cI cL : ClassId) (sz : Nat) (adM adM_tape adM_frameAt adM_field adM_draft adM_given adM_low adM_high adM_packet adM_known : Nat) (N : Nat) (sM : zM) (v1 : Int32) (a : zM) (hG : g_M_takeStream N sM v1 = some a) : Met l y_M_takeStream (zw y_M_takeStream b_M_takeStream 2 none) ({ frames := 3, cells := 0, slots := 0, locals := 68 }) (va_Pc [.ref adM, .int v1] (zpre dC dI cB cI cL sz (zwM adM adM_tape adM_frameAt adM_field adM_draft adM_given adM_low adM_high adM_packet adM_known cB cI cL sM))) (q_M_takeStream dC dI cB cI cL (va_A (zwM adM adM_tape adM_frameAt adM_field adM_draft adM_given adM_low adM_high adM_packet adM_known cB cI cL sM) sz) adM adM_tape adM_frameAt adM_field adM_draft adM_given adM_low adM_high adM_packet adM_known a) 0 0 (va_A (zwM adM adM_tape adM_frameAt adM_field adM_draft adM_given adM_low adM_high adM_packet adM_known cB cI cL sM) sz) := by
  refine Met.ofW (cc := b_M_takeStream) (maxL := 2) (ret := none) (by decide) rfl ?_
  intro p e s m args below meth c s₁ B hml hv
  obtain ⟨rfl, hsz, hP, zz, hD0⟩ := hv
  subst hsz
  have X := zx_of (F := 3) (L := 68) B hml (Nat.le_refl _) (Nat.le_refl _)
  have hD := hD0.self (sz := s.heap.size)
  have hA : ∀ q : Nat, s.heap.size ≤ q → va_A (zwM adM adM_tape adM_frameAt adM_field adM_draft adM_given adM_low adM_high adM_packet adM_known cB cI cL sM) s.heap.size q := fun q h => Or.inr h
  have hl := lv_entry ([.ref adM, .int v1]) (n := 2) (Nat.le_of_ble_eq_true rfl)
  rw [lg_entry_eq]
  generalize (lg_sl ([.ref adM, .int v1]) ++ List.replicate (2 - (lg_sl ([.ref adM, .int v1])).length) Slot.unset).toArray = ls at hl ⊢
  exact k_M_takeStream_0 X hA zz N sM v1 a hG adM adM_tape adM_frameAt adM_field adM_draft adM_given adM_low adM_high adM_packet adM_known _ _ hP hD va_S.rf ls hl
noncomputable def g_M_takeAck_126 (N : Nat) (sM : zM) : Option (zM) := some (sM)
noncomputable def g_M_takeAck_w119 (kr : zM → Int32 → Int32 → Option (zM)) (v1 : Int32) (v4 : Int32) (sM_119 : zM) : Option (zM) := kr sM_119 v1 (v4 + 1)
noncomputable def g_M_takeAck_c116 (kr : zM → Int32 → Int32 → Option (zM)) (v1 : Int32) (v4 : Int32) (sM_116 : zM) (r_116 : Int64) : Option (zM) := zg (vp_in v4 12) (g_M_takeAck_w119 kr v1 v4 (zM_field' sM_116 (vp_updL (zM_field sM_116) v4.toNatClampNeg r_116)))
noncomputable def g_M_takeAck_97_b (N : Nat) (kr : zM → Int32 → Int32 → Option (zM)) (sM : zM) (v1 : Int32) (v4 : Int32) : Option (zM) := if (12 : Int32) ≤ v4 then (g_M_takeAck_126 N sM) else (if v1 = (3 : Int32) then ((g_M_takeNumber N sM).bind (fun a => g_M_takeAck_c116 kr v1 v4 a.2 a.1)) else (g_M_takeAck_126 N sM))
noncomputable def g_M_takeAck_97 (N : Nat) : Nat → zM → Int32 → Int32 → Option (zM)
  | 0 => fun _ _ _ => none
  | k + 1 => fun sM v1 v4 => g_M_takeAck_97_b N (g_M_takeAck_97 N k) sM v1 v4
noncomputable def g_M_takeAck_w90 (N : Nat) (v1 : Int32) (sM_90 : zM) : Option (zM) := g_M_takeAck_97 N N sM_90 v1 (9 : Int32)
noncomputable def g_M_takeAck_90 (N : Nat) (sM : zM) (v1 : Int32) (s0 : Int32) : Option (zM) := g_M_takeAck_w90 N v1 (zM_ranges' sM s0)
noncomputable def g_M_takeAck_74 (N : Nat) (sM : zM) (v1 : Int32) (v2 : Int64) : Option (zM) := if (zM_over sM) = (0 : Int32) then (g_M_takeAck_90 N sM v1 ((1 : Int32) + v2.toInt32)) else (g_M_takeAck_90 N sM v1 (0 : Int32))
noncomputable def g_M_takeAck_c61 (kr : zM → Int32 → Int64 → Int64 → Option (zM)) (v1 : Int32) (v2 : Int64) (v4 : Int64) (sM_61 : zM) : Option (zM) := kr sM_61 v1 v2 (v4 + (1 : Int64))
noncomputable def g_M_takeAck_c56 (N : Nat) (kr : zM → Int32 → Int64 → Int64 → Option (zM)) (v1 : Int32) (v2 : Int64) (v4 : Int64) (sM_56 : zM) : Option (zM) := (g_M_takeNumber N sM_56).bind (fun a => g_M_takeAck_c61 kr v1 v2 v4 a.2)
noncomputable def g_M_takeAck_41_b (N : Nat) (kr : zM → Int32 → Int64 → Int64 → Option (zM)) (sM : zM) (v1 : Int32) (v2 : Int64) (v4 : Int64) : Option (zM) := if (0 : Int32) ≤ (lg_cmp v4 v2) then (g_M_takeAck_74 N sM v1 v2) else (if (zM_over sM) = (0 : Int32) then ((g_M_takeNumber N sM).bind (fun a => g_M_takeAck_c56 N kr v1 v2 v4 a.2)) else (g_M_takeAck_74 N sM v1 v2))
noncomputable def g_M_takeAck_41 (N : Nat) : Nat → zM → Int32 → Int64 → Int64 → Option (zM)
  | 0 => fun _ _ _ _ => none
  | k + 1 => fun sM v1 v2 v4 => g_M_takeAck_41_b N (g_M_takeAck_41 N k) sM v1 v2 v4
noncomputable def g_M_takeAck_c34 (N : Nat) (v1 : Int32) (r_21 : Int64) (sM_34 : zM) : Option (zM) := g_M_takeAck_41 N N sM_34 v1 r_21 (0 : Int64)
noncomputable def g_M_takeAck_w30 (N : Nat) (v1 : Int32) (r_21 : Int64) (sM_30 : zM) : Option (zM) := (g_M_takeNumber N sM_30).bind (fun a => g_M_takeAck_c34 N v1 r_21 a.2)
noncomputable def g_M_takeAck_c21 (N : Nat) (v1 : Int32) (sM_21 : zM) (r_21 : Int64) : Option (zM) := g_M_takeAck_w30 N v1 r_21 (zM_rangesAt' sM_21 (zM_at sM_21))
noncomputable def g_M_takeAck_w19 (N : Nat) (v1 : Int32) (sM_19 : zM) : Option (zM) := (g_M_takeNumber N sM_19).bind (fun a => g_M_takeAck_c21 N v1 a.2 a.1)
noncomputable def g_M_takeAck_c16 (N : Nat) (v1 : Int32) (sM_16 : zM) (r_16 : Int64) : Option (zM) := zg (vp_in (1 : Int32) 12) (g_M_takeAck_w19 N v1 (zM_field' sM_16 (vp_updL (zM_field sM_16) ((1 : Int32).toNatClampNeg) r_16)))
noncomputable def g_M_takeAck_w9 (N : Nat) (v1 : Int32) (sM_9 : zM) : Option (zM) := (g_M_takeNumber N sM_9).bind (fun a => g_M_takeAck_c16 N v1 a.2 a.1)
noncomputable def g_M_takeAck_c6 (N : Nat) (v1 : Int32) (sM_6 : zM) (r_6 : Int64) : Option (zM) := zg (vp_in (0 : Int32) 12) (g_M_takeAck_w9 N v1 (zM_field' sM_6 (vp_updL (zM_field sM_6) ((0 : Int32).toNatClampNeg) r_6)))
noncomputable def g_M_takeAck (N : Nat) (sM : zM) (v1 : Int32) : Option (zM) := (g_M_takeNumber N sM).bind (fun a => g_M_takeAck_c6 N v1 a.2 a.1)
def q_M_takeAck (dC : Nat → ClassId) (dI : Nat → Nat → Nat) (cB cI cL : ClassId) (A : Nat → Prop) (adM : Nat) (adM_tape : Nat) (adM_frameAt : Nat) (adM_field : Nat) (adM_draft : Nat) (adM_given : Nat) (adM_low : Nat) (adM_high : Nat) (adM_packet : Nat) (adM_known : Nat) (a : zM) : Array Value → State → Outcome → State → Prop := va_Qv (fun (u : zM) => (u) = a) (fun u U => va_P (dC, dI) zcl (zwM adM adM_tape adM_frameAt adM_field adM_draft adM_given adM_low adM_high adM_packet adM_known cB cI cL u) U.heap ∧ va_D A (zwM adM adM_tape adM_frameAt adM_field adM_draft adM_given adM_low adM_high adM_packet adM_known cB cI cL u)) A
set_option maxRecDepth 100000 in
set_option maxHeartbeats 4000000 in
theorem k_M_takeAck_126 {p : Program} {l : Launch} {e : Env} {R : Room} {s : State} {m : MethodId} {args : Array Value} {below : List Frame} {meth : Method} {c : Code} {dC : Nat → ClassId} {dI : Nat → Nat → Nat} {cB cI cL : ClassId} {A : Nat → Prop} (X : zx p s m args meth c R R_M b_M_takeAck none 6 3 68) (hA : ∀ q, s.heap.size ≤ q → A q) (zz : zk dC dI cB cI cL A s)  (N : Nat) (sM : zM) (a : zM) (hG : g_M_takeAck_126 N sM = some a) (adM adM_tape adM_frameAt adM_field adM_draft adM_given adM_low adM_high adM_packet adM_known : Nat) (H : Heap) (locs : List Loc) (hP : va_P (dC, dI) zcl (zwM adM adM_tape adM_frameAt adM_field adM_draft adM_given adM_low adM_high adM_packet adM_known cB cI cL sM) H) (hD : va_D A (zwM adM adM_tape adM_frameAt adM_field adM_draft adM_given adM_low adM_high adM_packet adM_known cB cI cL sM)) (hS : va_S A s.heap H locs) (ls : Array Slot) (hl : lv_has ls 6 []) : W p l e R s m args below meth c H locs 0 0 (MQ below (q_M_takeAck dC dI cB cI cL A adM adM_tape adM_frameAt adM_field adM_draft adM_given adM_low adM_high adM_packet adM_known a) args s 0 0 A) (F0 m 126 ls []) := by
  obtain ⟨hx, hb, hr, hml, hown, hts, hlocks, hRf, hRl⟩ := id X
  unfold g_M_takeAck_126 at hG
  exact W.vret hx hb hr (fun t9 ht9 hW9 => ⟨⟨(sM), rfl, Option.some.inj hG, by rw [ht9]; exact hP, hD⟩, hS.F ht9⟩) hS.2.2 d_M_takeAck_126
set_option maxRecDepth 100000 in
set_option maxHeartbeats 4000000 in
theorem k_M_takeAck_97_b {p : Program} {l : Launch} {e : Env} {R : Room} {s : State} {m : MethodId} {args : Array Value} {below : List Frame} {meth : Method} {c : Code} {dC : Nat → ClassId} {dI : Nat → Nat → Nat} {cB cI cL : ClassId} {A : Nat → Prop} (kr : zM → Int32 → Int32 → Option (zM)) (hrec : ∀ (sM : zM) (v1 : Int32) (v4 : Int32) (a : zM), kr sM v1 v4 = some a → ∀ (adM adM_tape adM_frameAt adM_field adM_draft adM_given adM_low adM_high adM_packet adM_known : Nat) (H : Heap) (locs : List Loc), va_P (dC, dI) zcl (zwM adM adM_tape adM_frameAt adM_field adM_draft adM_given adM_low adM_high adM_packet adM_known cB cI cL sM) H → va_D A (zwM adM adM_tape adM_frameAt adM_field adM_draft adM_given adM_low adM_high adM_packet adM_known cB cI cL sM) → va_S A s.heap H locs → ∀ ls : Array Slot, lv_has ls 6 [(0, .ref adM), (1, .int v1), (4, .int v4)] → W p l e R s m args below meth c H locs 0 0 (MQ below (q_M_takeAck dC dI cB cI cL A adM adM_tape adM_frameAt adM_field adM_draft adM_given adM_low adM_high adM_packet adM_known a) args s 0 0 A) (F0 m 97 ls [])) (X : zx p s m args meth c R R_M b_M_takeAck none 6 3 68) (hA : ∀ q, s.heap.size ≤ q → A q) (zz : zk dC dI cB cI cL A s)  (N : Nat) (sM : zM) (v1 : Int32) (v4 : Int32) (a : zM) (hG : g_M_takeAck_97_b N kr sM v1 v4 = some a) (adM adM_tape adM_frameAt adM_field adM_draft adM_given adM_low adM_high adM_packet adM_known : Nat) (H : Heap) (locs : List Loc) (hP : va_P (dC, dI) zcl (zwM adM adM_tape adM_frameAt adM_field adM_draft adM_given adM_low adM_high adM_packet adM_known cB cI cL sM) H) (hD : va_D A (zwM adM adM_tape adM_frameAt adM_field adM_draft adM_given adM_low adM_high adM_packet adM_known cB cI cL sM)) (hS : va_S A s.heap H locs) (ls : Array Slot) (hl : lv_has ls 6 [(0, .ref adM), (1, .int v1), (4, .int v4)]) : W p l e R s m args below meth c H locs 0 0 (MQ below (q_M_takeAck dC dI cB cI cL A adM adM_tape adM_frameAt adM_field adM_draft adM_given adM_low adM_high adM_packet adM_known a) args s 0 0 A) (F0 m 97 ls []) := by
  obtain ⟨hx, hb, hr, hml, hown, hts, hlocks, hRf, hRl⟩ := id X
  unfold g_M_takeAck_97_b at hG
  refine lv_iload hx hb d_M_takeAck_97 (lv_at hl 2 rfl) ?_
  refine lv_bipush (v := (12 : Int32)) hx hb d_M_takeAck_99 (by decide) ?_
  refine lv_icmp_ge (tgt := 126) hx hb d_M_takeAck_101 (by decide) (fun hc => ?_) (fun hc => ?_)
  · have hG := zt hG hc
    exact k_M_takeAck_126 X hA zz N sM _ hG adM adM_tape adM_frameAt adM_field adM_draft adM_given adM_low adM_high adM_packet adM_known _ _ hP hD hS _ (lv_sub hl [] rfl)
  · have hG := zf hG hc
    refine lv_iload_n hx hb d_M_takeAck_104 rfl (lv_at hl 1 rfl) ?_
    refine lv_iconst (v := (3 : Int32)) hx hb d_M_takeAck_105 (by decide) ?_
    refine lv_icmp_ne (tgt := 126) hx hb d_M_takeAck_106 (by decide) (fun hc => ?_) (fun hc => ?_)
    · have hG := zf hG hc
      exact k_M_takeAck_126 X hA zz N sM _ hG adM adM_tape adM_frameAt adM_field adM_draft adM_given adM_low adM_high adM_packet adM_known _ _ hP hD hS _ (lv_sub hl [] rfl)
    · have hG := zt hG hc
      refine lv_aload_n hx hb d_M_takeAck_109 rfl (lv_at hl 0 rfl) ?_
      refine va_get (D := (dC, dI)) (ci := 8) (v := .ref adM_field) (C := R_M) (T := F_M) (N := 26) hx hb hts zi_M hown zz.1 hP 0 rfl rfl 8 (by decide) (hts (.fieldLink R_M 22 "WireCodecModel" "field" "[J") zin_M_22) (fun _ h9 => h9) rfl d_M_takeAck_110 ?_
      refine lv_iload hx hb d_M_takeAck_113 (lv_at hl 2 rfl) ?_
      refine lv_aload_n hx hb d_M_takeAck_115 rfl (lv_at hl 0 rfl) ?_
      obtain ⟨a_116, hx_116, hG⟩ := zb hG
      have hr_116 := zrunV (p := p) (e := e) (below := below) (meth := meth) (As := []) (rest := [.int v4, .ref adM_field]) (st0 := [.ref adM, .int v4, .ref adM_field]) (cells := 0) (slots := 0) X zz hP hD hS hA [0, 1, 2, 3, 4, 5, 6, 7, 8, 9] (by decide) rfl (c_M_takeNumber l dC dI cB cI cL H.size adM adM_tape adM_frameAt adM_field adM_draft adM_given adM_low adM_high adM_packet adM_known N sM _ hx_116) zy_M_takeNumber zv_M_takeNumber (hts (.methodLink R_M 128 y_M_takeNumber) zin_M_128) hl rfl rfl d_M_takeAck_116 (lv_room (Nat.le_of_ble_eq_true rfl)) rfl rfl ⟨Nat.le_trans (Nat.le_of_ble_eq_true rfl) hRf, Nat.le_trans (Nat.le_of_ble_eq_true rfl) hRl⟩ ⟨Nat.zero_le _, Nat.zero_le _⟩ 0 8 rfl rfl
      refine zcalll (wr := ([] : va_W)) hr_116 hP hD hS hA [0, 1, 2, 3, 4, 5, 6, 7, 8, 9] [] rfl rfl (by decide) (by decide) (fun r_116 u_116 H locs hw_116 hP hD hS => ?_)
      obtain ⟨sM_116, rfl⟩ : ∃ z, z = u_116 := ⟨_, rfl⟩
      subst hw_116
      have hP : va_P (dC, dI) zcl (zwM adM adM_tape adM_frameAt adM_field adM_draft adM_given adM_low adM_high adM_packet adM_known cB cI cL sM_116) H := hP
      have hD : va_D A (zwM adM adM_tape adM_frameAt adM_field adM_draft adM_given adM_low adM_high adM_packet adM_known cB cI cL sM_116) := hD
      have hG : g_M_takeAck_c116 kr v1 v4 sM_116 r_116 = some a := hG
      unfold g_M_takeAck_c116 at hG
      obtain ⟨hin, hG⟩ := zgd hG
      refine va_last hx hb zz.1 hP hD hS 3 2 rfl rfl hin d_M_takeAck_119 (fun H locs hP hD hS => ?_)
      have hP := zp_M_field hP
      have hD := zd_M_field hD
      have hG : g_M_takeAck_w119 kr v1 v4 (zM_field' sM_116 (vp_updL (zM_field sM_116) v4.toNatClampNeg r_116)) = some a := hG
      generalize zM_field' sM_116 (vp_updL (zM_field sM_116) v4.toNatClampNeg r_116) = sM_119 at hP hD hG
      unfold g_M_takeAck_w119 at hG
      refine lv_iinc (v := v4 + 1) (lv' := [(4, .int (v4 + 1)), (0, .ref adM), (1, .int v1)]) hx hb d_M_takeAck_120 hl (k := 2) rfl rfl (by decide) rfl (fun ls hl => ?_)
      refine lv_goto (tgt := 97) hx hb d_M_takeAck_123 (by decide) ?_
      exact hrec sM_119 v1 (v4 + 1) _ hG adM adM_tape adM_frameAt adM_field adM_draft adM_given adM_low adM_high adM_packet adM_known _ _ hP hD hS _ (lv_sub hl [1, 2, 0] rfl)
theorem k_M_takeAck_97 {p : Program} {l : Launch} {e : Env} {R : Room} {s : State} {m : MethodId} {args : Array Value} {below : List Frame} {meth : Method} {c : Code} {dC : Nat → ClassId} {dI : Nat → Nat → Nat} {cB cI cL : ClassId} {A : Nat → Prop} (X : zx p s m args meth c R R_M b_M_takeAck none 6 3 68) (hA : ∀ q, s.heap.size ≤ q → A q) (zz : zk dC dI cB cI cL A s)  (N : Nat) : ∀ (k : Nat) (sM : zM) (v1 : Int32) (v4 : Int32) (a : zM) (hG : g_M_takeAck_97 N k sM v1 v4 = some a) (adM adM_tape adM_frameAt adM_field adM_draft adM_given adM_low adM_high adM_packet adM_known : Nat) (H : Heap) (locs : List Loc) (hP : va_P (dC, dI) zcl (zwM adM adM_tape adM_frameAt adM_field adM_draft adM_given adM_low adM_high adM_packet adM_known cB cI cL sM) H) (hD : va_D A (zwM adM adM_tape adM_frameAt adM_field adM_draft adM_given adM_low adM_high adM_packet adM_known cB cI cL sM)) (hS : va_S A s.heap H locs) (ls : Array Slot) (hl : lv_has ls 6 [(0, .ref adM), (1, .int v1), (4, .int v4)]), W p l e R s m args below meth c H locs 0 0 (MQ below (q_M_takeAck dC dI cB cI cL A adM adM_tape adM_frameAt adM_field adM_draft adM_given adM_low adM_high adM_packet adM_known a) args s 0 0 A) (F0 m 97 ls []) := by
  intro k
  induction k with
  | zero => intro sM v1 v4 a hG; exact absurd hG (by unfold g_M_takeAck_97; simp)
  | succ k ih => intro sM v1 v4 a hG adM adM_tape adM_frameAt adM_field adM_draft adM_given adM_low adM_high adM_packet adM_known H locs hP hD hS ls hl; exact k_M_takeAck_97_b _ ih X hA zz N sM v1 v4 a hG adM adM_tape adM_frameAt adM_field adM_draft adM_given adM_low adM_high adM_packet adM_known H locs hP hD hS ls hl
set_option maxRecDepth 100000 in
set_option maxHeartbeats 4000000 in
theorem k_M_takeAck_90 {p : Program} {l : Launch} {e : Env} {R : Room} {s : State} {m : MethodId} {args : Array Value} {below : List Frame} {meth : Method} {c : Code} {dC : Nat → ClassId} {dI : Nat → Nat → Nat} {cB cI cL : ClassId} {A : Nat → Prop} (X : zx p s m args meth c R R_M b_M_takeAck none 6 3 68) (hA : ∀ q, s.heap.size ≤ q → A q) (zz : zk dC dI cB cI cL A s)  (N : Nat) (sM : zM) (v1 : Int32) (s0 : Int32) (a : zM) (hG : g_M_takeAck_90 N sM v1 s0 = some a) (adM adM_tape adM_frameAt adM_field adM_draft adM_given adM_low adM_high adM_packet adM_known : Nat) (H : Heap) (locs : List Loc) (hP : va_P (dC, dI) zcl (zwM adM adM_tape adM_frameAt adM_field adM_draft adM_given adM_low adM_high adM_packet adM_known cB cI cL sM) H) (hD : va_D A (zwM adM adM_tape adM_frameAt adM_field adM_draft adM_given adM_low adM_high adM_packet adM_known cB cI cL sM)) (hS : va_S A s.heap H locs) (ls : Array Slot) (hl : lv_has ls 6 [(0, .ref adM), (1, .int v1)]) : W p l e R s m args below meth c H locs 0 0 (MQ below (q_M_takeAck dC dI cB cI cL A adM adM_tape adM_frameAt adM_field adM_draft adM_given adM_low adM_high adM_packet adM_known a) args s 0 0 A) (F0 m 90 ls [.int s0, .ref adM]) := by
  obtain ⟨hx, hb, hr, hml, hown, hts, hlocks, hRf, hRl⟩ := id X
  unfold g_M_takeAck_90 at hG
  refine va_put (D := (dC, dI)) (ci := 8) (v := .int s0) (ty := .int) (C := R_M) (T := F_M) (N := 26) hx hb hts zi_M zty_M zty_M_ok znm_M hown zz.1 hP hD hS 0 rfl rfl 12 (by decide) (hts (.fieldLink R_M 153 "WireCodecModel" "ranges" "I") zin_M_153) (fun _ h9 => h9) rfl (by decide +kernel) rfl rfl (Nat.le_of_ble_eq_true rfl) d_M_takeAck_90 (fun H locs hP hD hS => ?_)
  have hP := zp_M_ranges hP
  have hD := zd_M_ranges hD
  have hG : g_M_takeAck_w90 N v1 (zM_ranges' sM s0) = some a := hG
  generalize zM_ranges' sM s0 = sM_90 at hP hD hG
  unfold g_M_takeAck_w90 at hG
  refine lv_bipush (v := (9 : Int32)) hx hb d_M_takeAck_93 (by decide) ?_
  refine lv_istore (lv' := [(4, .int (9 : Int32)), (0, .ref adM), (1, .int v1)]) hx hb d_M_takeAck_95 hl (by decide) rfl (fun ls hl => ?_)
  exact k_M_takeAck_97 X hA zz N N sM_90 v1 (9 : Int32) _ hG adM adM_tape adM_frameAt adM_field adM_draft adM_given adM_low adM_high adM_packet adM_known _ _ hP hD hS _ (lv_sub hl [1, 2, 0] rfl)
set_option maxRecDepth 100000 in
set_option maxHeartbeats 4000000 in
theorem k_M_takeAck_74 {p : Program} {l : Launch} {e : Env} {R : Room} {s : State} {m : MethodId} {args : Array Value} {below : List Frame} {meth : Method} {c : Code} {dC : Nat → ClassId} {dI : Nat → Nat → Nat} {cB cI cL : ClassId} {A : Nat → Prop} (X : zx p s m args meth c R R_M b_M_takeAck none 6 3 68) (hA : ∀ q, s.heap.size ≤ q → A q) (zz : zk dC dI cB cI cL A s)  (N : Nat) (sM : zM) (v1 : Int32) (v2 : Int64) (a : zM) (hG : g_M_takeAck_74 N sM v1 v2 = some a) (adM adM_tape adM_frameAt adM_field adM_draft adM_given adM_low adM_high adM_packet adM_known : Nat) (H : Heap) (locs : List Loc) (hP : va_P (dC, dI) zcl (zwM adM adM_tape adM_frameAt adM_field adM_draft adM_given adM_low adM_high adM_packet adM_known cB cI cL sM) H) (hD : va_D A (zwM adM adM_tape adM_frameAt adM_field adM_draft adM_given adM_low adM_high adM_packet adM_known cB cI cL sM)) (hS : va_S A s.heap H locs) (ls : Array Slot) (hl : lv_has ls 6 [(0, .ref adM), (1, .int v1), (2, .long v2)]) : W p l e R s m args below meth c H locs 0 0 (MQ below (q_M_takeAck dC dI cB cI cL A adM adM_tape adM_frameAt adM_field adM_draft adM_given adM_low adM_high adM_packet adM_known a) args s 0 0 A) (F0 m 74 ls []) := by
  obtain ⟨hx, hb, hr, hml, hown, hts, hlocks, hRf, hRl⟩ := id X
  unfold g_M_takeAck_74 at hG
  refine lv_aload_n hx hb d_M_takeAck_74 rfl (lv_at hl 0 rfl) ?_
  refine lv_aload_n hx hb d_M_takeAck_75 rfl (lv_at hl 0 rfl) ?_
  refine va_get (D := (dC, dI)) (ci := 8) (v := .int (zM_over sM)) (C := R_M) (T := F_M) (N := 26) hx hb hts zi_M hown zz.1 hP 0 rfl rfl 15 (by decide) (hts (.fieldLink R_M 116 "WireCodecModel" "over" "Z") zin_M_116) (fun _ h9 => h9) rfl d_M_takeAck_76 ?_
  refine lv_if_eq (tgt := 86) hx hb d_M_takeAck_79 (by decide) (fun hc => ?_) (fun hc => ?_)
  · have hG := zt hG hc
    refine lv_iconst (v := (1 : Int32)) hx hb d_M_takeAck_86 (by decide) ?_
    refine lv_lload_n hx hb d_M_takeAck_87 rfl (lv_at hl 2 rfl) ?_
    refine lv_l2i hx hb d_M_takeAck_88 rfl ?_
    refine lv_iadd hx hb d_M_takeAck_89 ?_
    exact k_M_takeAck_90 X hA zz N sM v1 ((1 : Int32) + v2.toInt32) _ hG adM adM_tape adM_frameAt adM_field adM_draft adM_given adM_low adM_high adM_packet adM_known _ _ hP hD hS _ (lv_sub hl [0, 1] rfl)
  · have hG := zf hG hc
    refine lv_iconst (v := (0 : Int32)) hx hb d_M_takeAck_82 (by decide) ?_
    refine lv_goto (tgt := 90) hx hb d_M_takeAck_83 (by decide) ?_
    exact k_M_takeAck_90 X hA zz N sM v1 (0 : Int32) _ hG adM adM_tape adM_frameAt adM_field adM_draft adM_given adM_low adM_high adM_packet adM_known _ _ hP hD hS _ (lv_sub hl [0, 1] rfl)
set_option maxRecDepth 100000 in
set_option maxHeartbeats 4000000 in
theorem k_M_takeAck_41_b {p : Program} {l : Launch} {e : Env} {R : Room} {s : State} {m : MethodId} {args : Array Value} {below : List Frame} {meth : Method} {c : Code} {dC : Nat → ClassId} {dI : Nat → Nat → Nat} {cB cI cL : ClassId} {A : Nat → Prop} (kr : zM → Int32 → Int64 → Int64 → Option (zM)) (hrec : ∀ (sM : zM) (v1 : Int32) (v2 : Int64) (v4 : Int64) (a : zM), kr sM v1 v2 v4 = some a → ∀ (adM adM_tape adM_frameAt adM_field adM_draft adM_given adM_low adM_high adM_packet adM_known : Nat) (H : Heap) (locs : List Loc), va_P (dC, dI) zcl (zwM adM adM_tape adM_frameAt adM_field adM_draft adM_given adM_low adM_high adM_packet adM_known cB cI cL sM) H → va_D A (zwM adM adM_tape adM_frameAt adM_field adM_draft adM_given adM_low adM_high adM_packet adM_known cB cI cL sM) → va_S A s.heap H locs → ∀ ls : Array Slot, lv_has ls 6 [(0, .ref adM), (1, .int v1), (2, .long v2), (4, .long v4)] → W p l e R s m args below meth c H locs 0 0 (MQ below (q_M_takeAck dC dI cB cI cL A adM adM_tape adM_frameAt adM_field adM_draft adM_given adM_low adM_high adM_packet adM_known a) args s 0 0 A) (F0 m 41 ls [])) (X : zx p s m args meth c R R_M b_M_takeAck none 6 3 68) (hA : ∀ q, s.heap.size ≤ q → A q) (zz : zk dC dI cB cI cL A s)  (N : Nat) (sM : zM) (v1 : Int32) (v2 : Int64) (v4 : Int64) (a : zM) (hG : g_M_takeAck_41_b N kr sM v1 v2 v4 = some a) (adM adM_tape adM_frameAt adM_field adM_draft adM_given adM_low adM_high adM_packet adM_known : Nat) (H : Heap) (locs : List Loc) (hP : va_P (dC, dI) zcl (zwM adM adM_tape adM_frameAt adM_field adM_draft adM_given adM_low adM_high adM_packet adM_known cB cI cL sM) H) (hD : va_D A (zwM adM adM_tape adM_frameAt adM_field adM_draft adM_given adM_low adM_high adM_packet adM_known cB cI cL sM)) (hS : va_S A s.heap H locs) (ls : Array Slot) (hl : lv_has ls 6 [(0, .ref adM), (1, .int v1), (2, .long v2), (4, .long v4)]) : W p l e R s m args below meth c H locs 0 0 (MQ below (q_M_takeAck dC dI cB cI cL A adM adM_tape adM_frameAt adM_field adM_draft adM_given adM_low adM_high adM_packet adM_known a) args s 0 0 A) (F0 m 41 ls []) := by
  obtain ⟨hx, hb, hr, hml, hown, hts, hlocks, hRf, hRl⟩ := id X
  unfold g_M_takeAck_41_b at hG
  refine lv_lload hx hb d_M_takeAck_41 (lv_at hl 3 rfl) ?_
  refine lv_lload_n hx hb d_M_takeAck_43 rfl (lv_at hl 2 rfl) ?_
  refine W.lcmp hx hb d_M_takeAck_44 ?_
  refine lv_if_ge (tgt := 74) hx hb d_M_takeAck_45 (by decide) (fun hc => ?_) (fun hc => ?_)
  · have hG := zt hG hc
    exact k_M_takeAck_74 X hA zz N sM v1 v2 _ hG adM adM_tape adM_frameAt adM_field adM_draft adM_given adM_low adM_high adM_packet adM_known _ _ hP hD hS _ (lv_sub hl [0, 1, 2] rfl)
  · have hG := zf hG hc
    refine lv_aload_n hx hb d_M_takeAck_48 rfl (lv_at hl 0 rfl) ?_
    refine va_get (D := (dC, dI)) (ci := 8) (v := .int (zM_over sM)) (C := R_M) (T := F_M) (N := 26) hx hb hts zi_M hown zz.1 hP 0 rfl rfl 15 (by decide) (hts (.fieldLink R_M 116 "WireCodecModel" "over" "Z") zin_M_116) (fun _ h9 => h9) rfl d_M_takeAck_49 ?_
    refine lv_if_ne (tgt := 74) hx hb d_M_takeAck_52 (by decide) (fun hc => ?_) (fun hc => ?_)
    · have hG := zf hG hc
      exact k_M_takeAck_74 X hA zz N sM v1 v2 _ hG adM adM_tape adM_frameAt adM_field adM_draft adM_given adM_low adM_high adM_packet adM_known _ _ hP hD hS _ (lv_sub hl [0, 1, 2] rfl)
    · have hG := zt hG hc
      refine lv_aload_n hx hb d_M_takeAck_55 rfl (lv_at hl 0 rfl) ?_
      obtain ⟨a_56, hx_56, hG⟩ := zb hG
      have hr_56 := zrunV (p := p) (e := e) (below := below) (meth := meth) (As := []) (rest := []) (st0 := [.ref adM]) (cells := 0) (slots := 0) X zz hP hD hS hA [0, 1, 2, 3, 4, 5, 6, 7, 8, 9] (by decide) rfl (c_M_takeNumber l dC dI cB cI cL H.size adM adM_tape adM_frameAt adM_field adM_draft adM_given adM_low adM_high adM_packet adM_known N sM _ hx_56) zy_M_takeNumber zv_M_takeNumber (hts (.methodLink R_M 128 y_M_takeNumber) zin_M_128) hl rfl rfl d_M_takeAck_56 (lv_room (Nat.le_of_ble_eq_true rfl)) rfl rfl ⟨Nat.le_trans (Nat.le_of_ble_eq_true rfl) hRf, Nat.le_trans (Nat.le_of_ble_eq_true rfl) hRl⟩ ⟨Nat.zero_le _, Nat.zero_le _⟩ 0 8 rfl rfl
      refine zcalll (wr := ([] : va_W)) hr_56 hP hD hS hA [0, 1, 2, 3, 4, 5, 6, 7, 8, 9] [] rfl rfl (by decide) (by decide) (fun r_56 u_56 H locs hw_56 hP hD hS => ?_)
      obtain ⟨sM_56, rfl⟩ : ∃ z, z = u_56 := ⟨_, rfl⟩
      subst hw_56
      have hP : va_P (dC, dI) zcl (zwM adM adM_tape adM_frameAt adM_field adM_draft adM_given adM_low adM_high adM_packet adM_known cB cI cL sM_56) H := hP
      have hD : va_D A (zwM adM adM_tape adM_frameAt adM_field adM_draft adM_given adM_low adM_high adM_packet adM_known cB cI cL sM_56) := hD
      have hG : g_M_takeAck_c56 N kr v1 v2 v4 sM_56 = some a := hG
      unfold g_M_takeAck_c56 at hG
      refine lv_pop2_2 hx hb d_M_takeAck_59 rfl ?_
      refine lv_aload_n hx hb d_M_takeAck_60 rfl (lv_at hl 0 rfl) ?_
      obtain ⟨a_61, hx_61, hG⟩ := zb hG
      have hr_61 := zrunV (p := p) (e := e) (below := below) (meth := meth) (As := []) (rest := []) (st0 := [.ref adM]) (cells := 0) (slots := 0) X zz hP hD hS hA [0, 1, 2, 3, 4, 5, 6, 7, 8, 9] (by decide) rfl (c_M_takeNumber l dC dI cB cI cL H.size adM adM_tape adM_frameAt adM_field adM_draft adM_given adM_low adM_high adM_packet adM_known N sM_56 _ hx_61) zy_M_takeNumber zv_M_takeNumber (hts (.methodLink R_M 128 y_M_takeNumber) zin_M_128) hl rfl rfl d_M_takeAck_61 (lv_room (Nat.le_of_ble_eq_true rfl)) rfl rfl ⟨Nat.le_trans (Nat.le_of_ble_eq_true rfl) hRf, Nat.le_trans (Nat.le_of_ble_eq_true rfl) hRl⟩ ⟨Nat.zero_le _, Nat.zero_le _⟩ 0 8 rfl rfl
      refine zcalll (wr := ([] : va_W)) hr_61 hP hD hS hA [0, 1, 2, 3, 4, 5, 6, 7, 8, 9] [] rfl rfl (by decide) (by decide) (fun r_61 u_61 H locs hw_61 hP hD hS => ?_)
      obtain ⟨sM_61, rfl⟩ : ∃ z, z = u_61 := ⟨_, rfl⟩
      subst hw_61
      have hP : va_P (dC, dI) zcl (zwM adM adM_tape adM_frameAt adM_field adM_draft adM_given adM_low adM_high adM_packet adM_known cB cI cL sM_61) H := hP
      have hD : va_D A (zwM adM adM_tape adM_frameAt adM_field adM_draft adM_given adM_low adM_high adM_packet adM_known cB cI cL sM_61) := hD
      have hG : g_M_takeAck_c61 kr v1 v2 v4 sM_61 = some a := hG
      unfold g_M_takeAck_c61 at hG
      refine lv_pop2_2 hx hb d_M_takeAck_64 rfl ?_
      refine lv_lload hx hb d_M_takeAck_65 (lv_at hl 3 rfl) ?_
      refine lv_lconst (v := (1 : Int64)) hx hb d_M_takeAck_67 (by decide) ?_
      refine lv_ladd hx hb d_M_takeAck_68 ?_
      refine lv_lstore (lv' := [(4, .long (v4 + (1 : Int64))), (0, .ref adM), (1, .int v1), (2, .long v2)]) hx hb d_M_takeAck_69 hl (by decide) rfl (fun ls hl => ?_)
      refine lv_goto (tgt := 41) hx hb d_M_takeAck_71 (by decide) ?_
      exact hrec sM_61 v1 v2 (v4 + (1 : Int64)) _ hG adM adM_tape adM_frameAt adM_field adM_draft adM_given adM_low adM_high adM_packet adM_known _ _ hP hD hS _ (lv_sub hl [1, 2, 3, 0] rfl)
theorem k_M_takeAck_41 {p : Program} {l : Launch} {e : Env} {R : Room} {s : State} {m : MethodId} {args : Array Value} {below : List Frame} {meth : Method} {c : Code} {dC : Nat → ClassId} {dI : Nat → Nat → Nat} {cB cI cL : ClassId} {A : Nat → Prop} (X : zx p s m args meth c R R_M b_M_takeAck none 6 3 68) (hA : ∀ q, s.heap.size ≤ q → A q) (zz : zk dC dI cB cI cL A s)  (N : Nat) : ∀ (k : Nat) (sM : zM) (v1 : Int32) (v2 : Int64) (v4 : Int64) (a : zM) (hG : g_M_takeAck_41 N k sM v1 v2 v4 = some a) (adM adM_tape adM_frameAt adM_field adM_draft adM_given adM_low adM_high adM_packet adM_known : Nat) (H : Heap) (locs : List Loc) (hP : va_P (dC, dI) zcl (zwM adM adM_tape adM_frameAt adM_field adM_draft adM_given adM_low adM_high adM_packet adM_known cB cI cL sM) H) (hD : va_D A (zwM adM adM_tape adM_frameAt adM_field adM_draft adM_given adM_low adM_high adM_packet adM_known cB cI cL sM)) (hS : va_S A s.heap H locs) (ls : Array Slot) (hl : lv_has ls 6 [(0, .ref adM), (1, .int v1), (2, .long v2), (4, .long v4)]), W p l e R s m args below meth c H locs 0 0 (MQ below (q_M_takeAck dC dI cB cI cL A adM adM_tape adM_frameAt adM_field adM_draft adM_given adM_low adM_high adM_packet adM_known a) args s 0 0 A) (F0 m 41 ls []) := by
  intro k
  induction k with
  | zero => intro sM v1 v2 v4 a hG; exact absurd hG (by unfold g_M_takeAck_41; simp)
  | succ k ih => intro sM v1 v2 v4 a hG adM adM_tape adM_frameAt adM_field adM_draft adM_given adM_low adM_high adM_packet adM_known H locs hP hD hS ls hl; exact k_M_takeAck_41_b _ ih X hA zz N sM v1 v2 v4 a hG adM adM_tape adM_frameAt adM_field adM_draft adM_given adM_low adM_high adM_packet adM_known H locs hP hD hS ls hl
set_option maxRecDepth 100000 in
set_option maxHeartbeats 4000000 in
theorem k_M_takeAck_0 {p : Program} {l : Launch} {e : Env} {R : Room} {s : State} {m : MethodId} {args : Array Value} {below : List Frame} {meth : Method} {c : Code} {dC : Nat → ClassId} {dI : Nat → Nat → Nat} {cB cI cL : ClassId} {A : Nat → Prop} (X : zx p s m args meth c R R_M b_M_takeAck none 6 3 68) (hA : ∀ q, s.heap.size ≤ q → A q) (zz : zk dC dI cB cI cL A s)  (N : Nat) (sM : zM) (v1 : Int32) (a : zM) (hG : g_M_takeAck N sM v1 = some a) (adM adM_tape adM_frameAt adM_field adM_draft adM_given adM_low adM_high adM_packet adM_known : Nat) (H : Heap) (locs : List Loc) (hP : va_P (dC, dI) zcl (zwM adM adM_tape adM_frameAt adM_field adM_draft adM_given adM_low adM_high adM_packet adM_known cB cI cL sM) H) (hD : va_D A (zwM adM adM_tape adM_frameAt adM_field adM_draft adM_given adM_low adM_high adM_packet adM_known cB cI cL sM)) (hS : va_S A s.heap H locs) (ls : Array Slot) (hl : lv_has ls 6 [(0, .ref adM), (1, .int v1)]) : W p l e R s m args below meth c H locs 0 0 (MQ below (q_M_takeAck dC dI cB cI cL A adM adM_tape adM_frameAt adM_field adM_draft adM_given adM_low adM_high adM_packet adM_known a) args s 0 0 A) (F0 m 0 ls []) := by
  obtain ⟨hx, hb, hr, hml, hown, hts, hlocks, hRf, hRl⟩ := id X
  unfold g_M_takeAck at hG
  refine lv_aload_n hx hb d_M_takeAck_0 rfl (lv_at hl 0 rfl) ?_
  refine va_get (D := (dC, dI)) (ci := 8) (v := .ref adM_field) (C := R_M) (T := F_M) (N := 26) hx hb hts zi_M hown zz.1 hP 0 rfl rfl 8 (by decide) (hts (.fieldLink R_M 22 "WireCodecModel" "field" "[J") zin_M_22) (fun _ h9 => h9) rfl d_M_takeAck_1 ?_
  refine lv_iconst (v := (0 : Int32)) hx hb d_M_takeAck_4 (by decide) ?_
  refine lv_aload_n hx hb d_M_takeAck_5 rfl (lv_at hl 0 rfl) ?_
  obtain ⟨a_6, hx_6, hG⟩ := zb hG
  have hr_6 := zrunV (p := p) (e := e) (below := below) (meth := meth) (As := []) (rest := [.int (0 : Int32), .ref adM_field]) (st0 := [.ref adM, .int (0 : Int32), .ref adM_field]) (cells := 0) (slots := 0) X zz hP hD hS hA [0, 1, 2, 3, 4, 5, 6, 7, 8, 9] (by decide) rfl (c_M_takeNumber l dC dI cB cI cL H.size adM adM_tape adM_frameAt adM_field adM_draft adM_given adM_low adM_high adM_packet adM_known N sM _ hx_6) zy_M_takeNumber zv_M_takeNumber (hts (.methodLink R_M 128 y_M_takeNumber) zin_M_128) hl rfl rfl d_M_takeAck_6 (lv_room (Nat.le_of_ble_eq_true rfl)) rfl rfl ⟨Nat.le_trans (Nat.le_of_ble_eq_true rfl) hRf, Nat.le_trans (Nat.le_of_ble_eq_true rfl) hRl⟩ ⟨Nat.zero_le _, Nat.zero_le _⟩ 0 8 rfl rfl
  refine zcalll (wr := ([] : va_W)) hr_6 hP hD hS hA [0, 1, 2, 3, 4, 5, 6, 7, 8, 9] [] rfl rfl (by decide) (by decide) (fun r_6 u_6 H locs hw_6 hP hD hS => ?_)
  obtain ⟨sM_6, rfl⟩ : ∃ z, z = u_6 := ⟨_, rfl⟩
  subst hw_6
  have hP : va_P (dC, dI) zcl (zwM adM adM_tape adM_frameAt adM_field adM_draft adM_given adM_low adM_high adM_packet adM_known cB cI cL sM_6) H := hP
  have hD : va_D A (zwM adM adM_tape adM_frameAt adM_field adM_draft adM_given adM_low adM_high adM_packet adM_known cB cI cL sM_6) := hD
  have hG : g_M_takeAck_c6 N v1 sM_6 r_6 = some a := hG
  unfold g_M_takeAck_c6 at hG
  obtain ⟨hin, hG⟩ := zgd hG
  refine va_last hx hb zz.1 hP hD hS 3 2 rfl rfl hin d_M_takeAck_9 (fun H locs hP hD hS => ?_)
  have hP := zp_M_field hP
  have hD := zd_M_field hD
  have hG : g_M_takeAck_w9 N v1 (zM_field' sM_6 (vp_updL (zM_field sM_6) ((0 : Int32).toNatClampNeg) r_6)) = some a := hG
  generalize zM_field' sM_6 (vp_updL (zM_field sM_6) ((0 : Int32).toNatClampNeg) r_6) = sM_9 at hP hD hG
  unfold g_M_takeAck_w9 at hG
  refine lv_aload_n hx hb d_M_takeAck_10 rfl (lv_at hl 0 rfl) ?_
  refine va_get (D := (dC, dI)) (ci := 8) (v := .ref adM_field) (C := R_M) (T := F_M) (N := 26) hx hb hts zi_M hown zz.1 hP 0 rfl rfl 8 (by decide) (hts (.fieldLink R_M 22 "WireCodecModel" "field" "[J") zin_M_22) (fun _ h9 => h9) rfl d_M_takeAck_11 ?_
  refine lv_iconst (v := (1 : Int32)) hx hb d_M_takeAck_14 (by decide) ?_
  refine lv_aload_n hx hb d_M_takeAck_15 rfl (lv_at hl 0 rfl) ?_
  obtain ⟨a_16, hx_16, hG⟩ := zb hG
  have hr_16 := zrunV (p := p) (e := e) (below := below) (meth := meth) (As := []) (rest := [.int (1 : Int32), .ref adM_field]) (st0 := [.ref adM, .int (1 : Int32), .ref adM_field]) (cells := 0) (slots := 0) X zz hP hD hS hA [0, 1, 2, 3, 4, 5, 6, 7, 8, 9] (by decide) rfl (c_M_takeNumber l dC dI cB cI cL H.size adM adM_tape adM_frameAt adM_field adM_draft adM_given adM_low adM_high adM_packet adM_known N sM_9 _ hx_16) zy_M_takeNumber zv_M_takeNumber (hts (.methodLink R_M 128 y_M_takeNumber) zin_M_128) hl rfl rfl d_M_takeAck_16 (lv_room (Nat.le_of_ble_eq_true rfl)) rfl rfl ⟨Nat.le_trans (Nat.le_of_ble_eq_true rfl) hRf, Nat.le_trans (Nat.le_of_ble_eq_true rfl) hRl⟩ ⟨Nat.zero_le _, Nat.zero_le _⟩ 0 8 rfl rfl
  refine zcalll (wr := ([] : va_W)) hr_16 hP hD hS hA [0, 1, 2, 3, 4, 5, 6, 7, 8, 9] [] rfl rfl (by decide) (by decide) (fun r_16 u_16 H locs hw_16 hP hD hS => ?_)
  obtain ⟨sM_16, rfl⟩ : ∃ z, z = u_16 := ⟨_, rfl⟩
  subst hw_16
  have hP : va_P (dC, dI) zcl (zwM adM adM_tape adM_frameAt adM_field adM_draft adM_given adM_low adM_high adM_packet adM_known cB cI cL sM_16) H := hP
  have hD : va_D A (zwM adM adM_tape adM_frameAt adM_field adM_draft adM_given adM_low adM_high adM_packet adM_known cB cI cL sM_16) := hD
  have hG : g_M_takeAck_c16 N v1 sM_16 r_16 = some a := hG
  unfold g_M_takeAck_c16 at hG
  obtain ⟨hin, hG⟩ := zgd hG
  refine va_last hx hb zz.1 hP hD hS 3 2 rfl rfl hin d_M_takeAck_19 (fun H locs hP hD hS => ?_)
  have hP := zp_M_field hP
  have hD := zd_M_field hD
  have hG : g_M_takeAck_w19 N v1 (zM_field' sM_16 (vp_updL (zM_field sM_16) ((1 : Int32).toNatClampNeg) r_16)) = some a := hG
  generalize zM_field' sM_16 (vp_updL (zM_field sM_16) ((1 : Int32).toNatClampNeg) r_16) = sM_19 at hP hD hG
  unfold g_M_takeAck_w19 at hG
  refine lv_aload_n hx hb d_M_takeAck_20 rfl (lv_at hl 0 rfl) ?_
  obtain ⟨a_21, hx_21, hG⟩ := zb hG
  have hr_21 := zrunV (p := p) (e := e) (below := below) (meth := meth) (As := []) (rest := []) (st0 := [.ref adM]) (cells := 0) (slots := 0) X zz hP hD hS hA [0, 1, 2, 3, 4, 5, 6, 7, 8, 9] (by decide) rfl (c_M_takeNumber l dC dI cB cI cL H.size adM adM_tape adM_frameAt adM_field adM_draft adM_given adM_low adM_high adM_packet adM_known N sM_19 _ hx_21) zy_M_takeNumber zv_M_takeNumber (hts (.methodLink R_M 128 y_M_takeNumber) zin_M_128) hl rfl rfl d_M_takeAck_21 (lv_room (Nat.le_of_ble_eq_true rfl)) rfl rfl ⟨Nat.le_trans (Nat.le_of_ble_eq_true rfl) hRf, Nat.le_trans (Nat.le_of_ble_eq_true rfl) hRl⟩ ⟨Nat.zero_le _, Nat.zero_le _⟩ 0 8 rfl rfl
  refine zcalll (wr := ([] : va_W)) hr_21 hP hD hS hA [0, 1, 2, 3, 4, 5, 6, 7, 8, 9] [] rfl rfl (by decide) (by decide) (fun r_21 u_21 H locs hw_21 hP hD hS => ?_)
  obtain ⟨sM_21, rfl⟩ : ∃ z, z = u_21 := ⟨_, rfl⟩
  subst hw_21
  have hP : va_P (dC, dI) zcl (zwM adM adM_tape adM_frameAt adM_field adM_draft adM_given adM_low adM_high adM_packet adM_known cB cI cL sM_21) H := hP
  have hD : va_D A (zwM adM adM_tape adM_frameAt adM_field adM_draft adM_given adM_low adM_high adM_packet adM_known cB cI cL sM_21) := hD
  have hG : g_M_takeAck_c21 N v1 sM_21 r_21 = some a := hG
  unfold g_M_takeAck_c21 at hG
  refine lv_lstore_n (lv' := [(2, .long r_21), (0, .ref adM), (1, .int v1)]) hx hb d_M_takeAck_24 rfl hl (by decide) rfl (fun ls hl => ?_)
  refine lv_aload_n hx hb d_M_takeAck_25 rfl (lv_at hl 1 rfl) ?_
  refine lv_aload_n hx hb d_M_takeAck_26 rfl (lv_at hl 1 rfl) ?_
  refine va_get (D := (dC, dI)) (ci := 8) (v := .int (zM_at sM_21)) (C := R_M) (T := F_M) (N := 26) hx hb hts zi_M hown zz.1 hP 0 rfl rfl 14 (by decide) (hts (.fieldLink R_M 110 "WireCodecModel" "at" "I") zin_M_110) (fun _ h9 => h9) rfl d_M_takeAck_27 ?_
  refine va_put (D := (dC, dI)) (ci := 8) (v := .int (zM_at sM_21)) (ty := .int) (C := R_M) (T := F_M) (N := 26) hx hb hts zi_M zty_M zty_M_ok znm_M hown zz.1 hP hD hS 0 rfl rfl 13 (by decide) (hts (.fieldLink R_M 150 "WireCodecModel" "rangesAt" "I") zin_M_150) (fun _ h9 => h9) rfl (by decide +kernel) rfl rfl (Nat.le_of_ble_eq_true rfl) d_M_takeAck_30 (fun H locs hP hD hS => ?_)
  have hP := zp_M_rangesAt hP
  have hD := zd_M_rangesAt hD
  have hG : g_M_takeAck_w30 N v1 r_21 (zM_rangesAt' sM_21 (zM_at sM_21)) = some a := hG
  generalize zM_rangesAt' sM_21 (zM_at sM_21) = sM_30 at hP hD hG
  unfold g_M_takeAck_w30 at hG
  refine lv_aload_n hx hb d_M_takeAck_33 rfl (lv_at hl 1 rfl) ?_
  obtain ⟨a_34, hx_34, hG⟩ := zb hG
  have hr_34 := zrunV (p := p) (e := e) (below := below) (meth := meth) (As := []) (rest := []) (st0 := [.ref adM]) (cells := 0) (slots := 0) X zz hP hD hS hA [0, 1, 2, 3, 4, 5, 6, 7, 8, 9] (by decide) rfl (c_M_takeNumber l dC dI cB cI cL H.size adM adM_tape adM_frameAt adM_field adM_draft adM_given adM_low adM_high adM_packet adM_known N sM_30 _ hx_34) zy_M_takeNumber zv_M_takeNumber (hts (.methodLink R_M 128 y_M_takeNumber) zin_M_128) hl rfl rfl d_M_takeAck_34 (lv_room (Nat.le_of_ble_eq_true rfl)) rfl rfl ⟨Nat.le_trans (Nat.le_of_ble_eq_true rfl) hRf, Nat.le_trans (Nat.le_of_ble_eq_true rfl) hRl⟩ ⟨Nat.zero_le _, Nat.zero_le _⟩ 0 8 rfl rfl
  refine zcalll (wr := ([] : va_W)) hr_34 hP hD hS hA [0, 1, 2, 3, 4, 5, 6, 7, 8, 9] [] rfl rfl (by decide) (by decide) (fun r_34 u_34 H locs hw_34 hP hD hS => ?_)
  obtain ⟨sM_34, rfl⟩ : ∃ z, z = u_34 := ⟨_, rfl⟩
  subst hw_34
  have hP : va_P (dC, dI) zcl (zwM adM adM_tape adM_frameAt adM_field adM_draft adM_given adM_low adM_high adM_packet adM_known cB cI cL sM_34) H := hP
  have hD : va_D A (zwM adM adM_tape adM_frameAt adM_field adM_draft adM_given adM_low adM_high adM_packet adM_known cB cI cL sM_34) := hD
  have hG : g_M_takeAck_c34 N v1 r_21 sM_34 = some a := hG
  unfold g_M_takeAck_c34 at hG
  refine lv_pop2_2 hx hb d_M_takeAck_37 rfl ?_
  refine lv_lconst (v := (0 : Int64)) hx hb d_M_takeAck_38 (by decide) ?_
  refine lv_lstore (lv' := [(4, .long (0 : Int64)), (2, .long r_21), (0, .ref adM), (1, .int v1)]) hx hb d_M_takeAck_39 hl (by decide) rfl (fun ls hl => ?_)
  exact k_M_takeAck_41 X hA zz N N sM_34 v1 r_21 (0 : Int64) _ hG adM adM_tape adM_frameAt adM_field adM_draft adM_given adM_low adM_high adM_packet adM_known _ _ hP hD hS _ (lv_sub hl [2, 3, 1, 0] rfl)
set_option maxRecDepth 100000 in
set_option maxHeartbeats 4000000 in
theorem c_M_takeAck (l : Launch) (dC : Nat → ClassId) (dI : Nat → Nat → Nat) (cB cI cL : ClassId) (sz : Nat) (adM adM_tape adM_frameAt adM_field adM_draft adM_given adM_low adM_high adM_packet adM_known : Nat) (N : Nat) (sM : zM) (v1 : Int32) (a : zM) (hG : g_M_takeAck N sM v1 = some a) : Met l y_M_takeAck (zw y_M_takeAck b_M_takeAck 6 none) ({ frames := 3, cells := 0, slots := 0, locals := 68 }) (va_Pc [.ref adM, .int v1] (zpre dC dI cB cI cL sz (zwM adM adM_tape adM_frameAt adM_field adM_draft adM_given adM_low adM_high adM_packet adM_known cB cI cL sM))) (q_M_takeAck dC dI cB cI cL (va_A (zwM adM adM_tape adM_frameAt adM_field adM_draft adM_given adM_low adM_high adM_packet adM_known cB cI cL sM) sz) adM adM_tape adM_frameAt adM_field adM_draft adM_given adM_low adM_high adM_packet adM_known a) 0 0 (va_A (zwM adM adM_tape adM_frameAt adM_field adM_draft adM_given adM_low adM_high adM_packet adM_known cB cI cL sM) sz) := by
  refine Met.ofW (cc := b_M_takeAck) (maxL := 6) (ret := none) (by decide) rfl ?_
  intro p e s m args below meth c s₁ B hml hv
  obtain ⟨rfl, hsz, hP, zz, hD0⟩ := hv
  subst hsz
  have X := zx_of (F := 3) (L := 68) B hml (Nat.le_refl _) (Nat.le_refl _)
  have hD := hD0.self (sz := s.heap.size)
  have hA : ∀ q : Nat, s.heap.size ≤ q → va_A (zwM adM adM_tape adM_frameAt adM_field adM_draft adM_given adM_low adM_high adM_packet adM_known cB cI cL sM) s.heap.size q := fun q h => Or.inr h
  have hl := lv_entry ([.ref adM, .int v1]) (n := 6) (Nat.le_of_ble_eq_true rfl)
  rw [lg_entry_eq]
  generalize (lg_sl ([.ref adM, .int v1]) ++ List.replicate (6 - (lg_sl ([.ref adM, .int v1])).length) Slot.unset).toArray = ls at hl ⊢
  exact k_M_takeAck_0 X hA zz N sM v1 a hG adM adM_tape adM_frameAt adM_field adM_draft adM_given adM_low adM_high adM_packet adM_known _ _ hP hD va_S.rf ls hl
noncomputable def g_M_takePadding_53 (N : Nat) (sM : zM) : Option (zM) := some (sM)
noncomputable def g_M_takePadding_w49 (kr : zM → Option (zM)) (sM_49 : zM) : Option (zM) := kr sM_49
noncomputable def g_M_takePadding_w37 (kr : zM → Option (zM)) (sM_37 : zM) : Option (zM) := zg (vp_in (0 : Int32) 12) (zg (vp_in (0 : Int32) 12) (g_M_takePadding_w49 kr (zM_field' sM_37 (vp_updL (zM_field sM_37) ((0 : Int32).toNatClampNeg) (((zM_field sM_37) (0 : Int32).toNatClampNeg) + (1 : Int64))))))
noncomputable def g_M_takePadding_7_b (N : Nat) (kr : zM → Option (zM)) (sM : zM) : Option (zM) := if (zM_end sM) ≤ (zM_at sM) then (g_M_takePadding_53 N sM) else (zg (vp_in (zM_at sM) 65536) (if ((zM_tape sM) (zM_at sM).toNatClampNeg) = (0 : Int32) then (g_M_takePadding_w37 kr (zM_at' sM ((zM_at sM) + (1 : Int32)))) else (g_M_takePadding_53 N sM)))
noncomputable def g_M_takePadding_7 (N : Nat) : Nat → zM → Option (zM)
  | 0 => fun _ => none
  | k + 1 => fun sM => g_M_takePadding_7_b N (g_M_takePadding_7 N k) sM
noncomputable def g_M_takePadding_w6 (N : Nat) (sM_6 : zM) : Option (zM) := g_M_takePadding_7 N N sM_6
noncomputable def g_M_takePadding (N : Nat) (sM : zM) : Option (zM) := zg (vp_in (0 : Int32) 12) (g_M_takePadding_w6 N (zM_field' sM (vp_updL (zM_field sM) ((0 : Int32).toNatClampNeg) (1 : Int64))))
def q_M_takePadding (dC : Nat → ClassId) (dI : Nat → Nat → Nat) (cB cI cL : ClassId) (A : Nat → Prop) (adM : Nat) (adM_tape : Nat) (adM_frameAt : Nat) (adM_field : Nat) (adM_draft : Nat) (adM_given : Nat) (adM_low : Nat) (adM_high : Nat) (adM_packet : Nat) (adM_known : Nat) (a : zM) : Array Value → State → Outcome → State → Prop := va_Qv (fun (u : zM) => (u) = a) (fun u U => va_P (dC, dI) zcl (zwM adM adM_tape adM_frameAt adM_field adM_draft adM_given adM_low adM_high adM_packet adM_known cB cI cL u) U.heap ∧ va_D A (zwM adM adM_tape adM_frameAt adM_field adM_draft adM_given adM_low adM_high adM_packet adM_known cB cI cL u)) A
set_option maxRecDepth 100000 in
set_option maxHeartbeats 4000000 in
theorem k_M_takePadding_53 {p : Program} {l : Launch} {e : Env} {R : Room} {s : State} {m : MethodId} {args : Array Value} {below : List Frame} {meth : Method} {c : Code} {dC : Nat → ClassId} {dI : Nat → Nat → Nat} {cB cI cL : ClassId} {A : Nat → Prop} (X : zx p s m args meth c R R_M b_M_takePadding none 1 0 0) (hA : ∀ q, s.heap.size ≤ q → A q) (zz : zk dC dI cB cI cL A s)  (N : Nat) (sM : zM) (a : zM) (hG : g_M_takePadding_53 N sM = some a) (adM adM_tape adM_frameAt adM_field adM_draft adM_given adM_low adM_high adM_packet adM_known : Nat) (H : Heap) (locs : List Loc) (hP : va_P (dC, dI) zcl (zwM adM adM_tape adM_frameAt adM_field adM_draft adM_given adM_low adM_high adM_packet adM_known cB cI cL sM) H) (hD : va_D A (zwM adM adM_tape adM_frameAt adM_field adM_draft adM_given adM_low adM_high adM_packet adM_known cB cI cL sM)) (hS : va_S A s.heap H locs) (ls : Array Slot) (hl : lv_has ls 1 []) : W p l e R s m args below meth c H locs 0 0 (MQ below (q_M_takePadding dC dI cB cI cL A adM adM_tape adM_frameAt adM_field adM_draft adM_given adM_low adM_high adM_packet adM_known a) args s 0 0 A) (F0 m 53 ls []) := by
  obtain ⟨hx, hb, hr, hml, hown, hts, hlocks, hRf, hRl⟩ := id X
  unfold g_M_takePadding_53 at hG
  exact W.vret hx hb hr (fun t9 ht9 hW9 => ⟨⟨(sM), rfl, Option.some.inj hG, by rw [ht9]; exact hP, hD⟩, hS.F ht9⟩) hS.2.2 d_M_takePadding_53
set_option maxRecDepth 100000 in
set_option maxHeartbeats 4000000 in
theorem k_M_takePadding_7_b {p : Program} {l : Launch} {e : Env} {R : Room} {s : State} {m : MethodId} {args : Array Value} {below : List Frame} {meth : Method} {c : Code} {dC : Nat → ClassId} {dI : Nat → Nat → Nat} {cB cI cL : ClassId} {A : Nat → Prop} (kr : zM → Option (zM)) (hrec : ∀ (sM : zM) (a : zM), kr sM = some a → ∀ (adM adM_tape adM_frameAt adM_field adM_draft adM_given adM_low adM_high adM_packet adM_known : Nat) (H : Heap) (locs : List Loc), va_P (dC, dI) zcl (zwM adM adM_tape adM_frameAt adM_field adM_draft adM_given adM_low adM_high adM_packet adM_known cB cI cL sM) H → va_D A (zwM adM adM_tape adM_frameAt adM_field adM_draft adM_given adM_low adM_high adM_packet adM_known cB cI cL sM) → va_S A s.heap H locs → ∀ ls : Array Slot, lv_has ls 1 [(0, .ref adM)] → W p l e R s m args below meth c H locs 0 0 (MQ below (q_M_takePadding dC dI cB cI cL A adM adM_tape adM_frameAt adM_field adM_draft adM_given adM_low adM_high adM_packet adM_known a) args s 0 0 A) (F0 m 7 ls [])) (X : zx p s m args meth c R R_M b_M_takePadding none 1 0 0) (hA : ∀ q, s.heap.size ≤ q → A q) (zz : zk dC dI cB cI cL A s)  (N : Nat) (sM : zM) (a : zM) (hG : g_M_takePadding_7_b N kr sM = some a) (adM adM_tape adM_frameAt adM_field adM_draft adM_given adM_low adM_high adM_packet adM_known : Nat) (H : Heap) (locs : List Loc) (hP : va_P (dC, dI) zcl (zwM adM adM_tape adM_frameAt adM_field adM_draft adM_given adM_low adM_high adM_packet adM_known cB cI cL sM) H) (hD : va_D A (zwM adM adM_tape adM_frameAt adM_field adM_draft adM_given adM_low adM_high adM_packet adM_known cB cI cL sM)) (hS : va_S A s.heap H locs) (ls : Array Slot) (hl : lv_has ls 1 [(0, .ref adM)]) : W p l e R s m args below meth c H locs 0 0 (MQ below (q_M_takePadding dC dI cB cI cL A adM adM_tape adM_frameAt adM_field adM_draft adM_given adM_low adM_high adM_packet adM_known a) args s 0 0 A) (F0 m 7 ls []) := by
  obtain ⟨hx, hb, hr, hml, hown, hts, hlocks, hRf, hRl⟩ := id X
  unfold g_M_takePadding_7_b at hG
  refine lv_aload_n hx hb d_M_takePadding_7 rfl (lv_at hl 0 rfl) ?_
  refine va_get (D := (dC, dI)) (ci := 8) (v := .int (zM_at sM)) (C := R_M) (T := F_M) (N := 26) hx hb hts zi_M hown zz.1 hP 0 rfl rfl 14 (by decide) (hts (.fieldLink R_M 110 "WireCodecModel" "at" "I") zin_M_110) (fun _ h9 => h9) rfl d_M_takePadding_8 ?_
  refine lv_aload_n hx hb d_M_takePadding_11 rfl (lv_at hl 0 rfl) ?_
  refine va_get (D := (dC, dI)) (ci := 8) (v := .int (zM_end sM)) (C := R_M) (T := F_M) (N := 26) hx hb hts zi_M hown zz.1 hP 0 rfl rfl 16 (by decide) (hts (.fieldLink R_M 113 "WireCodecModel" "end" "I") zin_M_113) (fun _ h9 => h9) rfl d_M_takePadding_12 ?_
  refine lv_icmp_ge (tgt := 53) hx hb d_M_takePadding_15 (by decide) (fun hc => ?_) (fun hc => ?_)
  · have hG := zt hG hc
    exact k_M_takePadding_53 X hA zz N sM _ hG adM adM_tape adM_frameAt adM_field adM_draft adM_given adM_low adM_high adM_packet adM_known _ _ hP hD hS _ (lv_sub hl [] rfl)
  · have hG := zf hG hc
    refine lv_aload_n hx hb d_M_takePadding_18 rfl (lv_at hl 0 rfl) ?_
    refine va_get (D := (dC, dI)) (ci := 8) (v := .ref adM_tape) (C := R_M) (T := F_M) (N := 26) hx hb hts zi_M hown zz.1 hP 0 rfl rfl 1 (by decide) (hts (.fieldLink R_M 8 "WireCodecModel" "tape" "[B") zin_M_8) (fun _ h9 => h9) rfl d_M_takePadding_19 ?_
    refine lv_aload_n hx hb d_M_takePadding_22 rfl (lv_at hl 0 rfl) ?_
    refine va_get (D := (dC, dI)) (ci := 8) (v := .int (zM_at sM)) (C := R_M) (T := F_M) (N := 26) hx hb hts zi_M hown zz.1 hP 0 rfl rfl 14 (by decide) (hts (.fieldLink R_M 110 "WireCodecModel" "at" "I") zin_M_110) (fun _ h9 => h9) rfl d_M_takePadding_23 ?_
    obtain ⟨hin, hG⟩ := zgd hG
    refine va_bald hx hb zz.1 hP 1 0 rfl rfl hin d_M_takePadding_26 ?_
    refine lv_if_ne (tgt := 53) hx hb d_M_takePadding_27 (by decide) (fun hc => ?_) (fun hc => ?_)
    · have hG := zf hG hc
      exact k_M_takePadding_53 X hA zz N sM _ hG adM adM_tape adM_frameAt adM_field adM_draft adM_given adM_low adM_high adM_packet adM_known _ _ hP hD hS _ (lv_sub hl [] rfl)
    · have hG := zt hG hc
      refine lv_aload_n hx hb d_M_takePadding_30 rfl (lv_at hl 0 rfl) ?_
      refine lv_dup hx hb d_M_takePadding_31 rfl ?_
      refine va_get (D := (dC, dI)) (ci := 8) (v := .int (zM_at sM)) (C := R_M) (T := F_M) (N := 26) hx hb hts zi_M hown zz.1 hP 0 rfl rfl 14 (by decide) (hts (.fieldLink R_M 110 "WireCodecModel" "at" "I") zin_M_110) (fun _ h9 => h9) rfl d_M_takePadding_32 ?_
      refine lv_iconst (v := (1 : Int32)) hx hb d_M_takePadding_35 (by decide) ?_
      refine lv_iadd hx hb d_M_takePadding_36 ?_
      refine va_put (D := (dC, dI)) (ci := 8) (v := .int ((zM_at sM) + (1 : Int32))) (ty := .int) (C := R_M) (T := F_M) (N := 26) hx hb hts zi_M zty_M zty_M_ok znm_M hown zz.1 hP hD hS 0 rfl rfl 14 (by decide) (hts (.fieldLink R_M 110 "WireCodecModel" "at" "I") zin_M_110) (fun _ h9 => h9) rfl (by decide +kernel) rfl rfl (Nat.le_of_ble_eq_true rfl) d_M_takePadding_37 (fun H locs hP hD hS => ?_)
      have hP := zp_M_at hP
      have hD := zd_M_at hD
      have hG : g_M_takePadding_w37 kr (zM_at' sM ((zM_at sM) + (1 : Int32))) = some a := hG
      generalize zM_at' sM ((zM_at sM) + (1 : Int32)) = sM_37 at hP hD hG
      unfold g_M_takePadding_w37 at hG
      refine lv_aload_n hx hb d_M_takePadding_40 rfl (lv_at hl 0 rfl) ?_
      refine va_get (D := (dC, dI)) (ci := 8) (v := .ref adM_field) (C := R_M) (T := F_M) (N := 26) hx hb hts zi_M hown zz.1 hP 0 rfl rfl 8 (by decide) (hts (.fieldLink R_M 22 "WireCodecModel" "field" "[J") zin_M_22) (fun _ h9 => h9) rfl d_M_takePadding_41 ?_
      refine lv_iconst (v := (0 : Int32)) hx hb d_M_takePadding_44 (by decide) ?_
      refine lv_dup2_11 hx hb d_M_takePadding_45 rfl rfl ?_
      obtain ⟨hin, hG⟩ := zgd hG
      refine va_lald hx hb zz.1 hP 3 2 rfl rfl hin d_M_takePadding_46 ?_
      refine lv_lconst (v := (1 : Int64)) hx hb d_M_takePadding_47 (by decide) ?_
      refine lv_ladd hx hb d_M_takePadding_48 ?_
      obtain ⟨hin, hG⟩ := zgd hG
      refine va_last hx hb zz.1 hP hD hS 3 2 rfl rfl hin d_M_takePadding_49 (fun H locs hP hD hS => ?_)
      have hP := zp_M_field hP
      have hD := zd_M_field hD
      have hG : g_M_takePadding_w49 kr (zM_field' sM_37 (vp_updL (zM_field sM_37) ((0 : Int32).toNatClampNeg) (((zM_field sM_37) (0 : Int32).toNatClampNeg) + (1 : Int64)))) = some a := hG
      generalize zM_field' sM_37 (vp_updL (zM_field sM_37) ((0 : Int32).toNatClampNeg) (((zM_field sM_37) (0 : Int32).toNatClampNeg) + (1 : Int64))) = sM_49 at hP hD hG
      unfold g_M_takePadding_w49 at hG
      refine lv_goto (tgt := 7) hx hb d_M_takePadding_50 (by decide) ?_
      exact hrec sM_49 _ hG adM adM_tape adM_frameAt adM_field adM_draft adM_given adM_low adM_high adM_packet adM_known _ _ hP hD hS _ (lv_sub hl [0] rfl)
theorem k_M_takePadding_7 {p : Program} {l : Launch} {e : Env} {R : Room} {s : State} {m : MethodId} {args : Array Value} {below : List Frame} {meth : Method} {c : Code} {dC : Nat → ClassId} {dI : Nat → Nat → Nat} {cB cI cL : ClassId} {A : Nat → Prop} (X : zx p s m args meth c R R_M b_M_takePadding none 1 0 0) (hA : ∀ q, s.heap.size ≤ q → A q) (zz : zk dC dI cB cI cL A s)  (N : Nat) : ∀ (k : Nat) (sM : zM) (a : zM) (hG : g_M_takePadding_7 N k sM = some a) (adM adM_tape adM_frameAt adM_field adM_draft adM_given adM_low adM_high adM_packet adM_known : Nat) (H : Heap) (locs : List Loc) (hP : va_P (dC, dI) zcl (zwM adM adM_tape adM_frameAt adM_field adM_draft adM_given adM_low adM_high adM_packet adM_known cB cI cL sM) H) (hD : va_D A (zwM adM adM_tape adM_frameAt adM_field adM_draft adM_given adM_low adM_high adM_packet adM_known cB cI cL sM)) (hS : va_S A s.heap H locs) (ls : Array Slot) (hl : lv_has ls 1 [(0, .ref adM)]), W p l e R s m args below meth c H locs 0 0 (MQ below (q_M_takePadding dC dI cB cI cL A adM adM_tape adM_frameAt adM_field adM_draft adM_given adM_low adM_high adM_packet adM_known a) args s 0 0 A) (F0 m 7 ls []) := by
  intro k
  induction k with
  | zero => intro sM a hG; exact absurd hG (by unfold g_M_takePadding_7; simp)
  | succ k ih => intro sM a hG adM adM_tape adM_frameAt adM_field adM_draft adM_given adM_low adM_high adM_packet adM_known H locs hP hD hS ls hl; exact k_M_takePadding_7_b _ ih X hA zz N sM a hG adM adM_tape adM_frameAt adM_field adM_draft adM_given adM_low adM_high adM_packet adM_known H locs hP hD hS ls hl
set_option maxRecDepth 100000 in
set_option maxHeartbeats 4000000 in
theorem k_M_takePadding_0 {p : Program} {l : Launch} {e : Env} {R : Room} {s : State} {m : MethodId} {args : Array Value} {below : List Frame} {meth : Method} {c : Code} {dC : Nat → ClassId} {dI : Nat → Nat → Nat} {cB cI cL : ClassId} {A : Nat → Prop} (X : zx p s m args meth c R R_M b_M_takePadding none 1 0 0) (hA : ∀ q, s.heap.size ≤ q → A q) (zz : zk dC dI cB cI cL A s)  (N : Nat) (sM : zM) (a : zM) (hG : g_M_takePadding N sM = some a) (adM adM_tape adM_frameAt adM_field adM_draft adM_given adM_low adM_high adM_packet adM_known : Nat) (H : Heap) (locs : List Loc) (hP : va_P (dC, dI) zcl (zwM adM adM_tape adM_frameAt adM_field adM_draft adM_given adM_low adM_high adM_packet adM_known cB cI cL sM) H) (hD : va_D A (zwM adM adM_tape adM_frameAt adM_field adM_draft adM_given adM_low adM_high adM_packet adM_known cB cI cL sM)) (hS : va_S A s.heap H locs) (ls : Array Slot) (hl : lv_has ls 1 [(0, .ref adM)]) : W p l e R s m args below meth c H locs 0 0 (MQ below (q_M_takePadding dC dI cB cI cL A adM adM_tape adM_frameAt adM_field adM_draft adM_given adM_low adM_high adM_packet adM_known a) args s 0 0 A) (F0 m 0 ls []) := by
  obtain ⟨hx, hb, hr, hml, hown, hts, hlocks, hRf, hRl⟩ := id X
  unfold g_M_takePadding at hG
  refine lv_aload_n hx hb d_M_takePadding_0 rfl (lv_at hl 0 rfl) ?_
  refine va_get (D := (dC, dI)) (ci := 8) (v := .ref adM_field) (C := R_M) (T := F_M) (N := 26) hx hb hts zi_M hown zz.1 hP 0 rfl rfl 8 (by decide) (hts (.fieldLink R_M 22 "WireCodecModel" "field" "[J") zin_M_22) (fun _ h9 => h9) rfl d_M_takePadding_1 ?_
  refine lv_iconst (v := (0 : Int32)) hx hb d_M_takePadding_4 (by decide) ?_
  refine lv_lconst (v := (1 : Int64)) hx hb d_M_takePadding_5 (by decide) ?_
  obtain ⟨hin, hG⟩ := zgd hG
  refine va_last hx hb zz.1 hP hD hS 3 2 rfl rfl hin d_M_takePadding_6 (fun H locs hP hD hS => ?_)
  have hP := zp_M_field hP
  have hD := zd_M_field hD
  have hG : g_M_takePadding_w6 N (zM_field' sM (vp_updL (zM_field sM) ((0 : Int32).toNatClampNeg) (1 : Int64))) = some a := hG
  generalize zM_field' sM (vp_updL (zM_field sM) ((0 : Int32).toNatClampNeg) (1 : Int64)) = sM_6 at hP hD hG
  unfold g_M_takePadding_w6 at hG
  exact k_M_takePadding_7 X hA zz N N sM_6 _ hG adM adM_tape adM_frameAt adM_field adM_draft adM_given adM_low adM_high adM_packet adM_known _ _ hP hD hS _ (lv_sub hl [0] rfl)
set_option maxRecDepth 100000 in
set_option maxHeartbeats 4000000 in
theorem c_M_takePadding (l : Launch) (dC : Nat → ClassId) (dI : Nat → Nat → Nat) (cB cI cL : ClassId) (sz : Nat) (adM adM_tape adM_frameAt adM_field adM_draft adM_given adM_low adM_high adM_packet adM_known : Nat) (N : Nat) (sM : zM) (a : zM) (hG : g_M_takePadding N sM = some a) : Met l y_M_takePadding (zw y_M_takePadding b_M_takePadding 1 none) ({ frames := 0, cells := 0, slots := 0, locals := 0 }) (va_Pc [.ref adM] (zpre dC dI cB cI cL sz (zwM adM adM_tape adM_frameAt adM_field adM_draft adM_given adM_low adM_high adM_packet adM_known cB cI cL sM))) (q_M_takePadding dC dI cB cI cL (va_A (zwM adM adM_tape adM_frameAt adM_field adM_draft adM_given adM_low adM_high adM_packet adM_known cB cI cL sM) sz) adM adM_tape adM_frameAt adM_field adM_draft adM_given adM_low adM_high adM_packet adM_known a) 0 0 (va_A (zwM adM adM_tape adM_frameAt adM_field adM_draft adM_given adM_low adM_high adM_packet adM_known cB cI cL sM) sz) := by
  refine Met.ofW (cc := b_M_takePadding) (maxL := 1) (ret := none) (by decide) rfl ?_
  intro p e s m args below meth c s₁ B hml hv
  obtain ⟨rfl, hsz, hP, zz, hD0⟩ := hv
  subst hsz
  have X := zx_of (F := 0) (L := 0) B hml (Nat.le_refl _) (Nat.le_refl _)
  have hD := hD0.self (sz := s.heap.size)
  have hA : ∀ q : Nat, s.heap.size ≤ q → va_A (zwM adM adM_tape adM_frameAt adM_field adM_draft adM_given adM_low adM_high adM_packet adM_known cB cI cL sM) s.heap.size q := fun q h => Or.inr h
  have hl := lv_entry ([.ref adM]) (n := 1) (Nat.le_of_ble_eq_true rfl)
  rw [lg_entry_eq]
  generalize (lg_sl ([.ref adM]) ++ List.replicate (1 - (lg_sl ([.ref adM])).length) Slot.unset).toArray = ls at hl ⊢
  exact k_M_takePadding_0 X hA zz N sM a hG adM adM_tape adM_frameAt adM_field adM_draft adM_given adM_low adM_high adM_packet adM_known _ _ hP hD va_S.rf ls hl
noncomputable def g_M_kindAt_34 (sM : zM) (s0 : Int32) : Option (Int32) := some (s0)
noncomputable def g_M_kindAt_33 (sM : zM) (v2 : Int32) : Option (Int32) := g_M_kindAt_34 sM v2
noncomputable def g_M_kindAt_c2 (sM : zM) (r_2 : Int32) : Option (Int32) := if r_2 ≤ (30 : Int32) then (if r_2 < (8 : Int32) then (g_M_kindAt_33 sM r_2) else (if (16 : Int32) ≤ r_2 then (g_M_kindAt_33 sM r_2) else (g_M_kindAt_34 sM (8 : Int32)))) else (g_M_kindAt_34 sM (-1 : Int32))
noncomputable def g_M_kindAt (sM : zM) (v1 : Int32) : Option (Int32) := (g_M_byteAt sM v1).bind (fun a => g_M_kindAt_c2 sM a)
def q_M_kindAt (dC : Nat → ClassId) (dI : Nat → Nat → Nat) (cB cI cL : ClassId) (A : Nat → Prop) (adM : Nat) (adM_tape : Nat) (adM_frameAt : Nat) (adM_field : Nat) (adM_draft : Nat) (adM_given : Nat) (adM_low : Nat) (adM_high : Nat) (adM_packet : Nat) (adM_known : Nat) (sM : zM) (a : Int32) : Array Value → State → Outcome → State → Prop := va_Qi (fun (r : Int32) (u : Unit) => (r) = a) (fun u U => va_P (dC, dI) zcl (zwM adM adM_tape adM_frameAt adM_field adM_draft adM_given adM_low adM_high adM_packet adM_known cB cI cL sM) U.heap ∧ va_D A (zwM adM adM_tape adM_frameAt adM_field adM_draft adM_given adM_low adM_high adM_packet adM_known cB cI cL sM)) A
set_option maxRecDepth 100000 in
set_option maxHeartbeats 4000000 in
theorem k_M_kindAt_34 {p : Program} {l : Launch} {e : Env} {R : Room} {s : State} {m : MethodId} {args : Array Value} {below : List Frame} {meth : Method} {c : Code} {dC : Nat → ClassId} {dI : Nat → Nat → Nat} {cB cI cL : ClassId} {A : Nat → Prop} (X : zx p s m args meth c R R_M b_M_kindAt (some .int) 3 1 21) (hA : ∀ q, s.heap.size ≤ q → A q) (zz : zk dC dI cB cI cL A s)  (sM : zM) (s0 : Int32) (a : Int32) (hG : g_M_kindAt_34 sM s0 = some a) (adM adM_tape adM_frameAt adM_field adM_draft adM_given adM_low adM_high adM_packet adM_known : Nat) (H : Heap) (locs : List Loc) (hP : va_P (dC, dI) zcl (zwM adM adM_tape adM_frameAt adM_field adM_draft adM_given adM_low adM_high adM_packet adM_known cB cI cL sM) H) (hD : va_D A (zwM adM adM_tape adM_frameAt adM_field adM_draft adM_given adM_low adM_high adM_packet adM_known cB cI cL sM)) (hS : va_S A s.heap H locs) (ls : Array Slot) (hl : lv_has ls 3 []) : W p l e R s m args below meth c H locs 0 0 (MQ below (q_M_kindAt dC dI cB cI cL A adM adM_tape adM_frameAt adM_field adM_draft adM_given adM_low adM_high adM_packet adM_known sM a) args s 0 0 A) (F0 m 34 ls [.int s0]) := by
  obtain ⟨hx, hb, hr, hml, hown, hts, hlocks, hRf, hRl⟩ := id X
  unfold g_M_kindAt_34 at hG
  exact W.iret (v := s0) hx hb hr (fun t9 ht9 hW9 => ⟨⟨s0, (), rfl, Option.some.inj hG, by rw [ht9]; exact hP, hD⟩, hS.F ht9⟩) hS.2.2 d_M_kindAt_34
set_option maxRecDepth 100000 in
set_option maxHeartbeats 4000000 in
theorem k_M_kindAt_33 {p : Program} {l : Launch} {e : Env} {R : Room} {s : State} {m : MethodId} {args : Array Value} {below : List Frame} {meth : Method} {c : Code} {dC : Nat → ClassId} {dI : Nat → Nat → Nat} {cB cI cL : ClassId} {A : Nat → Prop} (X : zx p s m args meth c R R_M b_M_kindAt (some .int) 3 1 21) (hA : ∀ q, s.heap.size ≤ q → A q) (zz : zk dC dI cB cI cL A s)  (sM : zM) (v2 : Int32) (a : Int32) (hG : g_M_kindAt_33 sM v2 = some a) (adM adM_tape adM_frameAt adM_field adM_draft adM_given adM_low adM_high adM_packet adM_known : Nat) (H : Heap) (locs : List Loc) (hP : va_P (dC, dI) zcl (zwM adM adM_tape adM_frameAt adM_field adM_draft adM_given adM_low adM_high adM_packet adM_known cB cI cL sM) H) (hD : va_D A (zwM adM adM_tape adM_frameAt adM_field adM_draft adM_given adM_low adM_high adM_packet adM_known cB cI cL sM)) (hS : va_S A s.heap H locs) (ls : Array Slot) (hl : lv_has ls 3 [(2, .int v2)]) : W p l e R s m args below meth c H locs 0 0 (MQ below (q_M_kindAt dC dI cB cI cL A adM adM_tape adM_frameAt adM_field adM_draft adM_given adM_low adM_high adM_packet adM_known sM a) args s 0 0 A) (F0 m 33 ls []) := by
  obtain ⟨hx, hb, hr, hml, hown, hts, hlocks, hRf, hRl⟩ := id X
  unfold g_M_kindAt_33 at hG
  refine lv_iload_n hx hb d_M_kindAt_33 rfl (lv_at hl 0 rfl) ?_
  exact k_M_kindAt_34 X hA zz sM v2 _ hG adM adM_tape adM_frameAt adM_field adM_draft adM_given adM_low adM_high adM_packet adM_known _ _ hP hD hS _ (lv_sub hl [] rfl)
set_option maxRecDepth 100000 in
set_option maxHeartbeats 4000000 in
theorem k_M_kindAt_0 {p : Program} {l : Launch} {e : Env} {R : Room} {s : State} {m : MethodId} {args : Array Value} {below : List Frame} {meth : Method} {c : Code} {dC : Nat → ClassId} {dI : Nat → Nat → Nat} {cB cI cL : ClassId} {A : Nat → Prop} (X : zx p s m args meth c R R_M b_M_kindAt (some .int) 3 1 21) (hA : ∀ q, s.heap.size ≤ q → A q) (zz : zk dC dI cB cI cL A s)  (sM : zM) (v1 : Int32) (a : Int32) (hG : g_M_kindAt sM v1 = some a) (adM adM_tape adM_frameAt adM_field adM_draft adM_given adM_low adM_high adM_packet adM_known : Nat) (H : Heap) (locs : List Loc) (hP : va_P (dC, dI) zcl (zwM adM adM_tape adM_frameAt adM_field adM_draft adM_given adM_low adM_high adM_packet adM_known cB cI cL sM) H) (hD : va_D A (zwM adM adM_tape adM_frameAt adM_field adM_draft adM_given adM_low adM_high adM_packet adM_known cB cI cL sM)) (hS : va_S A s.heap H locs) (ls : Array Slot) (hl : lv_has ls 3 [(0, .ref adM), (1, .int v1)]) : W p l e R s m args below meth c H locs 0 0 (MQ below (q_M_kindAt dC dI cB cI cL A adM adM_tape adM_frameAt adM_field adM_draft adM_given adM_low adM_high adM_packet adM_known sM a) args s 0 0 A) (F0 m 0 ls []) := by
  obtain ⟨hx, hb, hr, hml, hown, hts, hlocks, hRf, hRl⟩ := id X
  unfold g_M_kindAt at hG
  refine lv_aload_n hx hb d_M_kindAt_0 rfl (lv_at hl 0 rfl) ?_
  refine lv_iload_n hx hb d_M_kindAt_1 rfl (lv_at hl 1 rfl) ?_
  obtain ⟨a_2, hx_2, hG⟩ := zb hG
  have hr_2 := zrunV (p := p) (e := e) (below := below) (meth := meth) (As := [.int v1]) (rest := []) (st0 := [.int v1, .ref adM]) (cells := 0) (slots := 0) X zz hP hD hS hA [0, 1, 2, 3, 4, 5, 6, 7, 8, 9] (by decide) rfl (c_M_byteAt l dC dI cB cI cL H.size adM adM_tape adM_frameAt adM_field adM_draft adM_given adM_low adM_high adM_packet adM_known sM v1 _ hx_2) zy_M_byteAt zv_M_byteAt (hts (.methodLink R_M 106 y_M_byteAt) zin_M_106) hl rfl rfl d_M_kindAt_2 (lv_room (Nat.le_of_ble_eq_true rfl)) rfl rfl ⟨Nat.le_trans (Nat.le_of_ble_eq_true rfl) hRf, Nat.le_trans (Nat.le_of_ble_eq_true rfl) hRl⟩ ⟨Nat.zero_le _, Nat.zero_le _⟩ 0 8 rfl rfl
  refine zcalli (wr := ([] : va_W)) hr_2 hP hD hS hA [0, 1, 2, 3, 4, 5, 6, 7, 8, 9] [] rfl rfl (by decide) (by decide) (fun r_2 u_2 H locs hw_2 hP hD hS => ?_)
  subst hw_2
  have hP : va_P (dC, dI) zcl (zwM adM adM_tape adM_frameAt adM_field adM_draft adM_given adM_low adM_high adM_packet adM_known cB cI cL sM) H := hP
  have hD : va_D A (zwM adM adM_tape adM_frameAt adM_field adM_draft adM_given adM_low adM_high adM_packet adM_known cB cI cL sM) := hD
  have hG : g_M_kindAt_c2 sM r_2 = some a := hG
  unfold g_M_kindAt_c2 at hG
  refine lv_istore_n (lv' := [(2, .int r_2), (0, .ref adM), (1, .int v1)]) hx hb d_M_kindAt_5 rfl hl (by decide) rfl (fun ls hl => ?_)
  refine lv_iload_n hx hb d_M_kindAt_6 rfl (lv_at hl 0 rfl) ?_
  refine lv_bipush (v := (30 : Int32)) hx hb d_M_kindAt_7 (by decide) ?_
  refine lv_icmp_le (tgt := 16) hx hb d_M_kindAt_9 (by decide) (fun hc => ?_) (fun hc => ?_)
  · have hG := zt hG hc
    refine lv_iload_n hx hb d_M_kindAt_16 rfl (lv_at hl 0 rfl) ?_
    refine lv_bipush (v := (8 : Int32)) hx hb d_M_kindAt_17 (by decide) ?_
    refine lv_icmp_lt (tgt := 33) hx hb d_M_kindAt_19 (by decide) (fun hc => ?_) (fun hc => ?_)
    · have hG := zt hG hc
      exact k_M_kindAt_33 X hA zz sM r_2 _ hG adM adM_tape adM_frameAt adM_field adM_draft adM_given adM_low adM_high adM_packet adM_known _ _ hP hD hS _ (lv_sub hl [0] rfl)
    · have hG := zf hG hc
      refine lv_iload_n hx hb d_M_kindAt_22 rfl (lv_at hl 0 rfl) ?_
      refine lv_bipush (v := (16 : Int32)) hx hb d_M_kindAt_23 (by decide) ?_
      refine lv_icmp_ge (tgt := 33) hx hb d_M_kindAt_25 (by decide) (fun hc => ?_) (fun hc => ?_)
      · have hG := zt hG hc
        exact k_M_kindAt_33 X hA zz sM r_2 _ hG adM adM_tape adM_frameAt adM_field adM_draft adM_given adM_low adM_high adM_packet adM_known _ _ hP hD hS _ (lv_sub hl [0] rfl)
      · have hG := zf hG hc
        refine lv_bipush (v := (8 : Int32)) hx hb d_M_kindAt_28 (by decide) ?_
        refine lv_goto (tgt := 34) hx hb d_M_kindAt_30 (by decide) ?_
        exact k_M_kindAt_34 X hA zz sM (8 : Int32) _ hG adM adM_tape adM_frameAt adM_field adM_draft adM_given adM_low adM_high adM_packet adM_known _ _ hP hD hS _ (lv_sub hl [] rfl)
  · have hG := zf hG hc
    refine lv_iconst (v := (-1 : Int32)) hx hb d_M_kindAt_12 (by decide) ?_
    refine lv_goto (tgt := 34) hx hb d_M_kindAt_13 (by decide) ?_
    exact k_M_kindAt_34 X hA zz sM (-1 : Int32) _ hG adM adM_tape adM_frameAt adM_field adM_draft adM_given adM_low adM_high adM_packet adM_known _ _ hP hD hS _ (lv_sub hl [] rfl)
set_option maxRecDepth 100000 in
set_option maxHeartbeats 4000000 in
theorem c_M_kindAt (l : Launch) (dC : Nat → ClassId) (dI : Nat → Nat → Nat) (cB cI cL : ClassId) (sz : Nat) (adM adM_tape adM_frameAt adM_field adM_draft adM_given adM_low adM_high adM_packet adM_known : Nat) (sM : zM) (v1 : Int32) (a : Int32) (hG : g_M_kindAt sM v1 = some a) : Met l y_M_kindAt (zw y_M_kindAt b_M_kindAt 3 (some .int)) ({ frames := 1, cells := 0, slots := 0, locals := 21 }) (va_Pc [.ref adM, .int v1] (zpre dC dI cB cI cL sz (zwM adM adM_tape adM_frameAt adM_field adM_draft adM_given adM_low adM_high adM_packet adM_known cB cI cL sM))) (q_M_kindAt dC dI cB cI cL (va_A (zwM adM adM_tape adM_frameAt adM_field adM_draft adM_given adM_low adM_high adM_packet adM_known cB cI cL sM) sz) adM adM_tape adM_frameAt adM_field adM_draft adM_given adM_low adM_high adM_packet adM_known sM a) 0 0 (va_A (zwM adM adM_tape adM_frameAt adM_field adM_draft adM_given adM_low adM_high adM_packet adM_known cB cI cL sM) sz) := by
  refine Met.ofW (cc := b_M_kindAt) (maxL := 3) (ret := (some .int)) (by decide) rfl ?_
  intro p e s m args below meth c s₁ B hml hv
  obtain ⟨rfl, hsz, hP, zz, hD0⟩ := hv
  subst hsz
  have X := zx_of (F := 1) (L := 21) B hml (Nat.le_refl _) (Nat.le_refl _)
  have hD := hD0.self (sz := s.heap.size)
  have hA : ∀ q : Nat, s.heap.size ≤ q → va_A (zwM adM adM_tape adM_frameAt adM_field adM_draft adM_given adM_low adM_high adM_packet adM_known cB cI cL sM) s.heap.size q := fun q h => Or.inr h
  have hl := lv_entry ([.ref adM, .int v1]) (n := 3) (Nat.le_of_ble_eq_true rfl)
  rw [lg_entry_eq]
  generalize (lg_sl ([.ref adM, .int v1]) ++ List.replicate (3 - (lg_sl ([.ref adM, .int v1])).length) Slot.unset).toArray = ls at hl ⊢
  exact k_M_kindAt_0 X hA zz sM v1 a hG adM adM_tape adM_frameAt adM_field adM_draft adM_given adM_low adM_high adM_packet adM_known _ _ hP hD va_S.rf ls hl
noncomputable def g_M_edge_124 (N : Nat) (sM : zM) (s0 : Int64) : Option (Int64 × zM) := some (s0, sM)
noncomputable def g_M_edge_w97 (N : Nat) (v2 : Int32) (v5 : Int64) (v7 : Int64) (sM_97 : zM) : Option (Int64 × zM) := if (0 : Int32) ≤ (lg_cmp v7 (0 : Int64)) then (if v2 = (0 : Int32) then (g_M_edge_124 N sM_97 v7) else (g_M_edge_124 N sM_97 v5)) else (g_M_edge_124 N sM_97 (-1 : Int64))
noncomputable def g_M_edge_95 (N : Nat) (sM : zM) (v2 : Int32) (v3 : Int32) (v5 : Int64) (v7 : Int64) : Option (Int64 × zM) := g_M_edge_w97 N v2 v5 v7 (zM_at' sM v3)
noncomputable def g_M_edge_87 (N : Nat) (kr : zM → Int32 → Int32 → Int32 → Int64 → Int64 → Int32 → Option (Int64 × zM)) (sM : zM) (v1 : Int32) (v2 : Int32) (v3 : Int32) (v5 : Int64) (v9 : Int32) (s0 : Int64) : Option (Int64 × zM) := kr sM v1 v2 v3 v5 s0 (v9 + 1)
noncomputable def g_M_edge_c83 (N : Nat) (kr : zM → Int32 → Int32 → Int32 → Int64 → Int64 → Int32 → Option (Int64 × zM)) (v1 : Int32) (v2 : Int32) (v3 : Int32) (v7 : Int64) (v9 : Int32) (r_57 : Int64) (sM_83 : zM) (r_83 : Int64) : Option (Int64 × zM) := g_M_edge_87 N kr sM_83 v1 v2 v3 ((v7 - r_57) - (2 : Int64)) v9 (((v7 - r_57) - (2 : Int64)) - r_83)
noncomputable def g_M_edge_c57 (N : Nat) (kr : zM → Int32 → Int32 → Int32 → Int64 → Int64 → Int32 → Option (Int64 × zM)) (v1 : Int32) (v2 : Int32) (v3 : Int32) (v7 : Int64) (v9 : Int32) (sM_57 : zM) (r_57 : Int64) : Option (Int64 × zM) := if (0 : Int32) ≤ (lg_cmp ((v7 - r_57) - (2 : Int64)) (0 : Int64)) then ((g_M_takeNumber N sM_57).bind (fun a => g_M_edge_c83 N kr v1 v2 v3 v7 v9 r_57 a.2 a.1)) else (g_M_edge_87 N kr sM_57 v1 v2 v3 ((v7 - r_57) - (2 : Int64)) v9 (-1 : Int64))
noncomputable def g_M_edge_41_b (N : Nat) (kr : zM → Int32 → Int32 → Int32 → Int64 → Int64 → Int32 → Option (Int64 × zM)) (sM : zM) (v1 : Int32) (v2 : Int32) (v3 : Int32) (v5 : Int64) (v7 : Int64) (v9 : Int32) : Option (Int64 × zM) := if v1 ≤ v9 then (g_M_edge_95 N sM v2 v3 v5 v7) else (if (lg_cmp v7 (0 : Int64)) < (0 : Int32) then (g_M_edge_95 N sM v2 v3 v5 v7) else ((g_M_takeNumber N sM).bind (fun a => g_M_edge_c57 N kr v1 v2 v3 v7 v9 a.2 a.1)))
noncomputable def g_M_edge_41 (N : Nat) : Nat → zM → Int32 → Int32 → Int32 → Int64 → Int64 → Int32 → Option (Int64 × zM)
  | 0 => fun _ _ _ _ _ _ _ => none
  | k + 1 => fun sM v1 v2 v3 v5 v7 v9 => g_M_edge_41_b N (g_M_edge_41 N k) sM v1 v2 v3 v5 v7 v9
noncomputable def g_M_edge_c32 (N : Nat) (sM : zM) (v1 : Int32) (v2 : Int32) (sM_18 : zM) (sM_32 : zM) (r_32 : Int64) : Option (Int64 × zM) := g_M_edge_41 N N sM_32 v1 v2 (zM_at sM) ((zM_field sM_18) (0 : Int32).toNatClampNeg) (((zM_field sM_18) (0 : Int32).toNatClampNeg) - r_32) (0 : Int32)
noncomputable def g_M_edge_c18 (N : Nat) (sM : zM) (v1 : Int32) (v2 : Int32) (sM_18 : zM) : Option (Int64 × zM) := zg (vp_in (0 : Int32) 12) ((g_M_takeNumber N sM_18).bind (fun a => g_M_edge_c32 N sM v1 v2 sM_18 a.2 a.1))
noncomputable def g_M_edge (N : Nat) (sM : zM) (v1 : Int32) (v2 : Int32) : Option (Int64 × zM) := (g_M_look sM (zM_rangesAt sM) (zM_end sM)).bind (fun a => g_M_edge_c18 N sM v1 v2 a)
def q_M_edge (dC : Nat → ClassId) (dI : Nat → Nat → Nat) (cB cI cL : ClassId) (A : Nat → Prop) (adM : Nat) (adM_tape : Nat) (adM_frameAt : Nat) (adM_field : Nat) (adM_draft : Nat) (adM_given : Nat) (adM_low : Nat) (adM_high : Nat) (adM_packet : Nat) (adM_known : Nat) (a : Int64 × zM) : Array Value → State → Outcome → State → Prop := va_Ql (fun (r : Int64) (u : zM) => (r, u) = a) (fun u U => va_P (dC, dI) zcl (zwM adM adM_tape adM_frameAt adM_field adM_draft adM_given adM_low adM_high adM_packet adM_known cB cI cL u) U.heap ∧ va_D A (zwM adM adM_tape adM_frameAt adM_field adM_draft adM_given adM_low adM_high adM_packet adM_known cB cI cL u)) A
set_option maxRecDepth 100000 in
set_option maxHeartbeats 4000000 in
theorem k_M_edge_124 {p : Program} {l : Launch} {e : Env} {R : Room} {s : State} {m : MethodId} {args : Array Value} {below : List Frame} {meth : Method} {c : Code} {dC : Nat → ClassId} {dI : Nat → Nat → Nat} {cB cI cL : ClassId} {A : Nat → Prop} (X : zx p s m args meth c R R_M b_M_edge (some .long) 10 3 68) (hA : ∀ q, s.heap.size ≤ q → A q) (zz : zk dC dI cB cI cL A s)  (N : Nat) (sM : zM) (s0 : Int64) (a : Int64 × zM) (hG : g_M_edge_124 N sM s0 = some a) (adM adM_tape adM_frameAt adM_field adM_draft adM_given adM_low adM_high adM_packet adM_known : Nat) (H : Heap) (locs : List Loc) (hP : va_P (dC, dI) zcl (zwM adM adM_tape adM_frameAt adM_field adM_draft adM_given adM_low adM_high adM_packet adM_known cB cI cL sM) H) (hD : va_D A (zwM adM adM_tape adM_frameAt adM_field adM_draft adM_given adM_low adM_high adM_packet adM_known cB cI cL sM)) (hS : va_S A s.heap H locs) (ls : Array Slot) (hl : lv_has ls 10 []) : W p l e R s m args below meth c H locs 0 0 (MQ below (q_M_edge dC dI cB cI cL A adM adM_tape adM_frameAt adM_field adM_draft adM_given adM_low adM_high adM_packet adM_known a) args s 0 0 A) (F0 m 124 ls [.long s0]) := by
  obtain ⟨hx, hb, hr, hml, hown, hts, hlocks, hRf, hRl⟩ := id X
  unfold g_M_edge_124 at hG
  exact W.lret (v := s0) hx hb hr (fun t9 ht9 hW9 => ⟨⟨s0, (sM), rfl, Option.some.inj hG, by rw [ht9]; exact hP, hD⟩, hS.F ht9⟩) hS.2.2 d_M_edge_124
set_option maxRecDepth 100000 in
set_option maxHeartbeats 4000000 in
theorem k_M_edge_95 {p : Program} {l : Launch} {e : Env} {R : Room} {s : State} {m : MethodId} {args : Array Value} {below : List Frame} {meth : Method} {c : Code} {dC : Nat → ClassId} {dI : Nat → Nat → Nat} {cB cI cL : ClassId} {A : Nat → Prop} (X : zx p s m args meth c R R_M b_M_edge (some .long) 10 3 68) (hA : ∀ q, s.heap.size ≤ q → A q) (zz : zk dC dI cB cI cL A s)  (N : Nat) (sM : zM) (v2 : Int32) (v3 : Int32) (v5 : Int64) (v7 : Int64) (a : Int64 × zM) (hG : g_M_edge_95 N sM v2 v3 v5 v7 = some a) (adM adM_tape adM_frameAt adM_field adM_draft adM_given adM_low adM_high adM_packet adM_known : Nat) (H : Heap) (locs : List Loc) (hP : va_P (dC, dI) zcl (zwM adM adM_tape adM_frameAt adM_field adM_draft adM_given adM_low adM_high adM_packet adM_known cB cI cL sM) H) (hD : va_D A (zwM adM adM_tape adM_frameAt adM_field adM_draft adM_given adM_low adM_high adM_packet adM_known cB cI cL sM)) (hS : va_S A s.heap H locs) (ls : Array Slot) (hl : lv_has ls 10 [(0, .ref adM), (2, .int v2), (3, .int v3), (5, .long v5), (7, .long v7)]) : W p l e R s m args below meth c H locs 0 0 (MQ below (q_M_edge dC dI cB cI cL A adM adM_tape adM_frameAt adM_field adM_draft adM_given adM_low adM_high adM_packet adM_known a) args s 0 0 A) (F0 m 95 ls []) := by
  obtain ⟨hx, hb, hr, hml, hown, hts, hlocks, hRf, hRl⟩ := id X
  unfold g_M_edge_95 at hG
  refine lv_aload_n hx hb d_M_edge_95 rfl (lv_at hl 0 rfl) ?_
  refine lv_iload_n hx hb d_M_edge_96 rfl (lv_at hl 2 rfl) ?_
  refine va_put (D := (dC, dI)) (ci := 8) (v := .int v3) (ty := .int) (C := R_M) (T := F_M) (N := 26) hx hb hts zi_M zty_M zty_M_ok znm_M hown zz.1 hP hD hS 0 rfl rfl 14 (by decide) (hts (.fieldLink R_M 110 "WireCodecModel" "at" "I") zin_M_110) (fun _ h9 => h9) rfl (by decide +kernel) rfl rfl (Nat.le_of_ble_eq_true rfl) d_M_edge_97 (fun H locs hP hD hS => ?_)
  have hP := zp_M_at hP
  have hD := zd_M_at hD
  have hG : g_M_edge_w97 N v2 v5 v7 (zM_at' sM v3) = some a := hG
  generalize zM_at' sM v3 = sM_97 at hP hD hG
  unfold g_M_edge_w97 at hG
  refine lv_lload hx hb d_M_edge_100 (lv_at hl 4 rfl) ?_
  refine lv_lconst (v := (0 : Int64)) hx hb d_M_edge_102 (by decide) ?_
  refine W.lcmp hx hb d_M_edge_103 ?_
  refine lv_if_ge (tgt := 113) hx hb d_M_edge_104 (by decide) (fun hc => ?_) (fun hc => ?_)
  · have hG := zt hG hc
    refine lv_iload_n hx hb d_M_edge_113 rfl (lv_at hl 1 rfl) ?_
    refine lv_if_eq (tgt := 122) hx hb d_M_edge_114 (by decide) (fun hc => ?_) (fun hc => ?_)
    · have hG := zt hG hc
      refine lv_lload hx hb d_M_edge_122 (lv_at hl 4 rfl) ?_
      exact k_M_edge_124 X hA zz N sM_97 v7 _ hG adM adM_tape adM_frameAt adM_field adM_draft adM_given adM_low adM_high adM_packet adM_known _ _ hP hD hS _ (lv_sub hl [] rfl)
    · have hG := zf hG hc
      refine lv_lload hx hb d_M_edge_117 (lv_at hl 3 rfl) ?_
      refine lv_goto (tgt := 124) hx hb d_M_edge_119 (by decide) ?_
      exact k_M_edge_124 X hA zz N sM_97 v5 _ hG adM adM_tape adM_frameAt adM_field adM_draft adM_given adM_low adM_high adM_packet adM_known _ _ hP hD hS _ (lv_sub hl [] rfl)
  · have hG := zf hG hc
    refine lv_ldc2 (v := (-1 : Int64)) hx hb hown (hts (.constantLong R_M 132 (-1 : Int64)) zin_M_132) d_M_edge_107 ?_
    refine lv_goto (tgt := 124) hx hb d_M_edge_110 (by decide) ?_
    exact k_M_edge_124 X hA zz N sM_97 (-1 : Int64) _ hG adM adM_tape adM_frameAt adM_field adM_draft adM_given adM_low adM_high adM_packet adM_known _ _ hP hD hS _ (lv_sub hl [] rfl)
set_option maxRecDepth 100000 in
set_option maxHeartbeats 4000000 in
theorem k_M_edge_87 {p : Program} {l : Launch} {e : Env} {R : Room} {s : State} {m : MethodId} {args : Array Value} {below : List Frame} {meth : Method} {c : Code} {dC : Nat → ClassId} {dI : Nat → Nat → Nat} {cB cI cL : ClassId} {A : Nat → Prop} (kr : zM → Int32 → Int32 → Int32 → Int64 → Int64 → Int32 → Option (Int64 × zM)) (hrec : ∀ (sM : zM) (v1 : Int32) (v2 : Int32) (v3 : Int32) (v5 : Int64) (v7 : Int64) (v9 : Int32) (a : Int64 × zM), kr sM v1 v2 v3 v5 v7 v9 = some a → ∀ (adM adM_tape adM_frameAt adM_field adM_draft adM_given adM_low adM_high adM_packet adM_known : Nat) (H : Heap) (locs : List Loc), va_P (dC, dI) zcl (zwM adM adM_tape adM_frameAt adM_field adM_draft adM_given adM_low adM_high adM_packet adM_known cB cI cL sM) H → va_D A (zwM adM adM_tape adM_frameAt adM_field adM_draft adM_given adM_low adM_high adM_packet adM_known cB cI cL sM) → va_S A s.heap H locs → ∀ ls : Array Slot, lv_has ls 10 [(0, .ref adM), (1, .int v1), (2, .int v2), (3, .int v3), (5, .long v5), (7, .long v7), (9, .int v9)] → W p l e R s m args below meth c H locs 0 0 (MQ below (q_M_edge dC dI cB cI cL A adM adM_tape adM_frameAt adM_field adM_draft adM_given adM_low adM_high adM_packet adM_known a) args s 0 0 A) (F0 m 41 ls [])) (X : zx p s m args meth c R R_M b_M_edge (some .long) 10 3 68) (hA : ∀ q, s.heap.size ≤ q → A q) (zz : zk dC dI cB cI cL A s)  (N : Nat) (sM : zM) (v1 : Int32) (v2 : Int32) (v3 : Int32) (v5 : Int64) (v9 : Int32) (s0 : Int64) (a : Int64 × zM) (hG : g_M_edge_87 N kr sM v1 v2 v3 v5 v9 s0 = some a) (adM adM_tape adM_frameAt adM_field adM_draft adM_given adM_low adM_high adM_packet adM_known : Nat) (H : Heap) (locs : List Loc) (hP : va_P (dC, dI) zcl (zwM adM adM_tape adM_frameAt adM_field adM_draft adM_given adM_low adM_high adM_packet adM_known cB cI cL sM) H) (hD : va_D A (zwM adM adM_tape adM_frameAt adM_field adM_draft adM_given adM_low adM_high adM_packet adM_known cB cI cL sM)) (hS : va_S A s.heap H locs) (ls : Array Slot) (hl : lv_has ls 10 [(0, .ref adM), (1, .int v1), (2, .int v2), (3, .int v3), (5, .long v5), (9, .int v9)]) : W p l e R s m args below meth c H locs 0 0 (MQ below (q_M_edge dC dI cB cI cL A adM adM_tape adM_frameAt adM_field adM_draft adM_given adM_low adM_high adM_packet adM_known a) args s 0 0 A) (F0 m 87 ls [.long s0]) := by
  obtain ⟨hx, hb, hr, hml, hown, hts, hlocks, hRf, hRl⟩ := id X
  unfold g_M_edge_87 at hG
  refine lv_lstore (lv' := [(7, .long s0), (0, .ref adM), (1, .int v1), (2, .int v2), (3, .int v3), (5, .long v5), (9, .int v9)]) hx hb d_M_edge_87 hl (by decide) rfl (fun ls hl => ?_)
  refine lv_iinc (v := v9 + 1) (lv' := [(9, .int (v9 + 1)), (7, .long s0), (0, .ref adM), (1, .int v1), (2, .int v2), (3, .int v3), (5, .long v5)]) hx hb d_M_edge_89 hl (k := 6) rfl rfl (by decide) rfl (fun ls hl => ?_)
  refine lv_goto (tgt := 41) hx hb d_M_edge_92 (by decide) ?_
  exact hrec sM v1 v2 v3 v5 s0 (v9 + 1) _ hG adM adM_tape adM_frameAt adM_field adM_draft adM_given adM_low adM_high adM_packet adM_known _ _ hP hD hS _ (lv_sub hl [2, 3, 4, 5, 6, 1, 0] rfl)
set_option maxRecDepth 100000 in
set_option maxHeartbeats 4000000 in
theorem k_M_edge_41_b {p : Program} {l : Launch} {e : Env} {R : Room} {s : State} {m : MethodId} {args : Array Value} {below : List Frame} {meth : Method} {c : Code} {dC : Nat → ClassId} {dI : Nat → Nat → Nat} {cB cI cL : ClassId} {A : Nat → Prop} (kr : zM → Int32 → Int32 → Int32 → Int64 → Int64 → Int32 → Option (Int64 × zM)) (hrec : ∀ (sM : zM) (v1 : Int32) (v2 : Int32) (v3 : Int32) (v5 : Int64) (v7 : Int64) (v9 : Int32) (a : Int64 × zM), kr sM v1 v2 v3 v5 v7 v9 = some a → ∀ (adM adM_tape adM_frameAt adM_field adM_draft adM_given adM_low adM_high adM_packet adM_known : Nat) (H : Heap) (locs : List Loc), va_P (dC, dI) zcl (zwM adM adM_tape adM_frameAt adM_field adM_draft adM_given adM_low adM_high adM_packet adM_known cB cI cL sM) H → va_D A (zwM adM adM_tape adM_frameAt adM_field adM_draft adM_given adM_low adM_high adM_packet adM_known cB cI cL sM) → va_S A s.heap H locs → ∀ ls : Array Slot, lv_has ls 10 [(0, .ref adM), (1, .int v1), (2, .int v2), (3, .int v3), (5, .long v5), (7, .long v7), (9, .int v9)] → W p l e R s m args below meth c H locs 0 0 (MQ below (q_M_edge dC dI cB cI cL A adM adM_tape adM_frameAt adM_field adM_draft adM_given adM_low adM_high adM_packet adM_known a) args s 0 0 A) (F0 m 41 ls [])) (X : zx p s m args meth c R R_M b_M_edge (some .long) 10 3 68) (hA : ∀ q, s.heap.size ≤ q → A q) (zz : zk dC dI cB cI cL A s)  (N : Nat) (sM : zM) (v1 : Int32) (v2 : Int32) (v3 : Int32) (v5 : Int64) (v7 : Int64) (v9 : Int32) (a : Int64 × zM) (hG : g_M_edge_41_b N kr sM v1 v2 v3 v5 v7 v9 = some a) (adM adM_tape adM_frameAt adM_field adM_draft adM_given adM_low adM_high adM_packet adM_known : Nat) (H : Heap) (locs : List Loc) (hP : va_P (dC, dI) zcl (zwM adM adM_tape adM_frameAt adM_field adM_draft adM_given adM_low adM_high adM_packet adM_known cB cI cL sM) H) (hD : va_D A (zwM adM adM_tape adM_frameAt adM_field adM_draft adM_given adM_low adM_high adM_packet adM_known cB cI cL sM)) (hS : va_S A s.heap H locs) (ls : Array Slot) (hl : lv_has ls 10 [(0, .ref adM), (1, .int v1), (2, .int v2), (3, .int v3), (5, .long v5), (7, .long v7), (9, .int v9)]) : W p l e R s m args below meth c H locs 0 0 (MQ below (q_M_edge dC dI cB cI cL A adM adM_tape adM_frameAt adM_field adM_draft adM_given adM_low adM_high adM_packet adM_known a) args s 0 0 A) (F0 m 41 ls []) := by
  obtain ⟨hx, hb, hr, hml, hown, hts, hlocks, hRf, hRl⟩ := id X
  unfold g_M_edge_41_b at hG
  refine lv_iload hx hb d_M_edge_41 (lv_at hl 6 rfl) ?_
  refine lv_iload_n hx hb d_M_edge_43 rfl (lv_at hl 1 rfl) ?_
  refine lv_icmp_ge (tgt := 95) hx hb d_M_edge_44 (by decide) (fun hc => ?_) (fun hc => ?_)
  · have hG := zt hG hc
    exact k_M_edge_95 X hA zz N sM v2 v3 v5 v7 _ hG adM adM_tape adM_frameAt adM_field adM_draft adM_given adM_low adM_high adM_packet adM_known _ _ hP hD hS _ (lv_sub hl [0, 2, 3, 4, 5] rfl)
  · have hG := zf hG hc
    refine lv_lload hx hb d_M_edge_47 (lv_at hl 5 rfl) ?_
    refine lv_lconst (v := (0 : Int64)) hx hb d_M_edge_49 (by decide) ?_
    refine W.lcmp hx hb d_M_edge_50 ?_
    refine lv_if_lt (tgt := 95) hx hb d_M_edge_51 (by decide) (fun hc => ?_) (fun hc => ?_)
    · have hG := zt hG hc
      exact k_M_edge_95 X hA zz N sM v2 v3 v5 v7 _ hG adM adM_tape adM_frameAt adM_field adM_draft adM_given adM_low adM_high adM_packet adM_known _ _ hP hD hS _ (lv_sub hl [0, 2, 3, 4, 5] rfl)
    · have hG := zf hG hc
      refine lv_lload hx hb d_M_edge_54 (lv_at hl 5 rfl) ?_
      refine lv_aload_n hx hb d_M_edge_56 rfl (lv_at hl 0 rfl) ?_
      obtain ⟨a_57, hx_57, hG⟩ := zb hG
      have hr_57 := zrunV (p := p) (e := e) (below := below) (meth := meth) (As := []) (rest := [.long v7]) (st0 := [.ref adM, .long v7]) (cells := 0) (slots := 0) X zz hP hD hS hA [0, 1, 2, 3, 4, 5, 6, 7, 8, 9] (by decide) rfl (c_M_takeNumber l dC dI cB cI cL H.size adM adM_tape adM_frameAt adM_field adM_draft adM_given adM_low adM_high adM_packet adM_known N sM _ hx_57) zy_M_takeNumber zv_M_takeNumber (hts (.methodLink R_M 128 y_M_takeNumber) zin_M_128) hl rfl rfl d_M_edge_57 (lv_room (Nat.le_of_ble_eq_true rfl)) rfl rfl ⟨Nat.le_trans (Nat.le_of_ble_eq_true rfl) hRf, Nat.le_trans (Nat.le_of_ble_eq_true rfl) hRl⟩ ⟨Nat.zero_le _, Nat.zero_le _⟩ 0 8 rfl rfl
      refine zcalll (wr := ([] : va_W)) hr_57 hP hD hS hA [0, 1, 2, 3, 4, 5, 6, 7, 8, 9] [] rfl rfl (by decide) (by decide) (fun r_57 u_57 H locs hw_57 hP hD hS => ?_)
      obtain ⟨sM_57, rfl⟩ : ∃ z, z = u_57 := ⟨_, rfl⟩
      subst hw_57
      have hP : va_P (dC, dI) zcl (zwM adM adM_tape adM_frameAt adM_field adM_draft adM_given adM_low adM_high adM_packet adM_known cB cI cL sM_57) H := hP
      have hD : va_D A (zwM adM adM_tape adM_frameAt adM_field adM_draft adM_given adM_low adM_high adM_packet adM_known cB cI cL sM_57) := hD
      have hG : g_M_edge_c57 N kr v1 v2 v3 v7 v9 sM_57 r_57 = some a := hG
      unfold g_M_edge_c57 at hG
      refine lv_lsub hx hb d_M_edge_60 ?_
      refine lv_ldc2 (v := (2 : Int64)) hx hb hown (hts (.constantLong R_M 76 (2 : Int64)) zin_M_76) d_M_edge_61 ?_
      refine lv_lsub hx hb d_M_edge_64 ?_
      refine lv_lstore (lv' := [(5, .long ((v7 - r_57) - (2 : Int64))), (0, .ref adM), (1, .int v1), (2, .int v2), (3, .int v3), (7, .long v7), (9, .int v9)]) hx hb d_M_edge_65 hl (by decide) rfl (fun ls hl => ?_)
      refine lv_lload hx hb d_M_edge_67 (lv_at hl 0 rfl) ?_
      refine lv_lconst (v := (0 : Int64)) hx hb d_M_edge_69 (by decide) ?_
      refine W.lcmp hx hb d_M_edge_70 ?_
      refine lv_if_ge (tgt := 80) hx hb d_M_edge_71 (by decide) (fun hc => ?_) (fun hc => ?_)
      · have hG := zt hG hc
        refine lv_lload hx hb d_M_edge_80 (lv_at hl 0 rfl) ?_
        refine lv_aload_n hx hb d_M_edge_82 rfl (lv_at hl 1 rfl) ?_
        obtain ⟨a_83, hx_83, hG⟩ := zb hG
        have hr_83 := zrunV (p := p) (e := e) (below := below) (meth := meth) (As := []) (rest := [.long ((v7 - r_57) - (2 : Int64))]) (st0 := [.ref adM, .long ((v7 - r_57) - (2 : Int64))]) (cells := 0) (slots := 0) X zz hP hD hS hA [0, 1, 2, 3, 4, 5, 6, 7, 8, 9] (by decide) rfl (c_M_takeNumber l dC dI cB cI cL H.size adM adM_tape adM_frameAt adM_field adM_draft adM_given adM_low adM_high adM_packet adM_known N sM_57 _ hx_83) zy_M_takeNumber zv_M_takeNumber (hts (.methodLink R_M 128 y_M_takeNumber) zin_M_128) hl rfl rfl d_M_edge_83 (lv_room (Nat.le_of_ble_eq_true rfl)) rfl rfl ⟨Nat.le_trans (Nat.le_of_ble_eq_true rfl) hRf, Nat.le_trans (Nat.le_of_ble_eq_true rfl) hRl⟩ ⟨Nat.zero_le _, Nat.zero_le _⟩ 0 8 rfl rfl
        refine zcalll (wr := ([] : va_W)) hr_83 hP hD hS hA [0, 1, 2, 3, 4, 5, 6, 7, 8, 9] [] rfl rfl (by decide) (by decide) (fun r_83 u_83 H locs hw_83 hP hD hS => ?_)
        obtain ⟨sM_83, rfl⟩ : ∃ z, z = u_83 := ⟨_, rfl⟩
        subst hw_83
        have hP : va_P (dC, dI) zcl (zwM adM adM_tape adM_frameAt adM_field adM_draft adM_given adM_low adM_high adM_packet adM_known cB cI cL sM_83) H := hP
        have hD : va_D A (zwM adM adM_tape adM_frameAt adM_field adM_draft adM_given adM_low adM_high adM_packet adM_known cB cI cL sM_83) := hD
        have hG : g_M_edge_c83 N kr v1 v2 v3 v7 v9 r_57 sM_83 r_83 = some a := hG
        unfold g_M_edge_c83 at hG
        refine lv_lsub hx hb d_M_edge_86 ?_
        exact k_M_edge_87 kr hrec X hA zz N sM_83 v1 v2 v3 ((v7 - r_57) - (2 : Int64)) v9 (((v7 - r_57) - (2 : Int64)) - r_83) _ hG adM adM_tape adM_frameAt adM_field adM_draft adM_given adM_low adM_high adM_packet adM_known _ _ hP hD hS _ (lv_sub hl [1, 2, 3, 4, 0, 6] rfl)
      · have hG := zf hG hc
        refine lv_ldc2 (v := (-1 : Int64)) hx hb hown (hts (.constantLong R_M 132 (-1 : Int64)) zin_M_132) d_M_edge_74 ?_
        refine lv_goto (tgt := 87) hx hb d_M_edge_77 (by decide) ?_
        exact k_M_edge_87 kr hrec X hA zz N sM_57 v1 v2 v3 ((v7 - r_57) - (2 : Int64)) v9 (-1 : Int64) _ hG adM adM_tape adM_frameAt adM_field adM_draft adM_given adM_low adM_high adM_packet adM_known _ _ hP hD hS _ (lv_sub hl [1, 2, 3, 4, 0, 6] rfl)
theorem k_M_edge_41 {p : Program} {l : Launch} {e : Env} {R : Room} {s : State} {m : MethodId} {args : Array Value} {below : List Frame} {meth : Method} {c : Code} {dC : Nat → ClassId} {dI : Nat → Nat → Nat} {cB cI cL : ClassId} {A : Nat → Prop} (X : zx p s m args meth c R R_M b_M_edge (some .long) 10 3 68) (hA : ∀ q, s.heap.size ≤ q → A q) (zz : zk dC dI cB cI cL A s)  (N : Nat) : ∀ (k : Nat) (sM : zM) (v1 : Int32) (v2 : Int32) (v3 : Int32) (v5 : Int64) (v7 : Int64) (v9 : Int32) (a : Int64 × zM) (hG : g_M_edge_41 N k sM v1 v2 v3 v5 v7 v9 = some a) (adM adM_tape adM_frameAt adM_field adM_draft adM_given adM_low adM_high adM_packet adM_known : Nat) (H : Heap) (locs : List Loc) (hP : va_P (dC, dI) zcl (zwM adM adM_tape adM_frameAt adM_field adM_draft adM_given adM_low adM_high adM_packet adM_known cB cI cL sM) H) (hD : va_D A (zwM adM adM_tape adM_frameAt adM_field adM_draft adM_given adM_low adM_high adM_packet adM_known cB cI cL sM)) (hS : va_S A s.heap H locs) (ls : Array Slot) (hl : lv_has ls 10 [(0, .ref adM), (1, .int v1), (2, .int v2), (3, .int v3), (5, .long v5), (7, .long v7), (9, .int v9)]), W p l e R s m args below meth c H locs 0 0 (MQ below (q_M_edge dC dI cB cI cL A adM adM_tape adM_frameAt adM_field adM_draft adM_given adM_low adM_high adM_packet adM_known a) args s 0 0 A) (F0 m 41 ls []) := by
  intro k
  induction k with
  | zero => intro sM v1 v2 v3 v5 v7 v9 a hG; exact absurd hG (by unfold g_M_edge_41; simp)
  | succ k ih => intro sM v1 v2 v3 v5 v7 v9 a hG adM adM_tape adM_frameAt adM_field adM_draft adM_given adM_low adM_high adM_packet adM_known H locs hP hD hS ls hl; exact k_M_edge_41_b _ ih X hA zz N sM v1 v2 v3 v5 v7 v9 a hG adM adM_tape adM_frameAt adM_field adM_draft adM_given adM_low adM_high adM_packet adM_known H locs hP hD hS ls hl
set_option maxRecDepth 100000 in
set_option maxHeartbeats 4000000 in
theorem k_M_edge_0 {p : Program} {l : Launch} {e : Env} {R : Room} {s : State} {m : MethodId} {args : Array Value} {below : List Frame} {meth : Method} {c : Code} {dC : Nat → ClassId} {dI : Nat → Nat → Nat} {cB cI cL : ClassId} {A : Nat → Prop} (X : zx p s m args meth c R R_M b_M_edge (some .long) 10 3 68) (hA : ∀ q, s.heap.size ≤ q → A q) (zz : zk dC dI cB cI cL A s)  (N : Nat) (sM : zM) (v1 : Int32) (v2 : Int32) (a : Int64 × zM) (hG : g_M_edge N sM v1 v2 = some a) (adM adM_tape adM_frameAt adM_field adM_draft adM_given adM_low adM_high adM_packet adM_known : Nat) (H : Heap) (locs : List Loc) (hP : va_P (dC, dI) zcl (zwM adM adM_tape adM_frameAt adM_field adM_draft adM_given adM_low adM_high adM_packet adM_known cB cI cL sM) H) (hD : va_D A (zwM adM adM_tape adM_frameAt adM_field adM_draft adM_given adM_low adM_high adM_packet adM_known cB cI cL sM)) (hS : va_S A s.heap H locs) (ls : Array Slot) (hl : lv_has ls 10 [(0, .ref adM), (1, .int v1), (2, .int v2)]) : W p l e R s m args below meth c H locs 0 0 (MQ below (q_M_edge dC dI cB cI cL A adM adM_tape adM_frameAt adM_field adM_draft adM_given adM_low adM_high adM_packet adM_known a) args s 0 0 A) (F0 m 0 ls []) := by
  obtain ⟨hx, hb, hr, hml, hown, hts, hlocks, hRf, hRl⟩ := id X
  unfold g_M_edge at hG
  refine lv_aload_n hx hb d_M_edge_0 rfl (lv_at hl 0 rfl) ?_
  refine va_get (D := (dC, dI)) (ci := 8) (v := .int (zM_at sM)) (C := R_M) (T := F_M) (N := 26) hx hb hts zi_M hown zz.1 hP 0 rfl rfl 14 (by decide) (hts (.fieldLink R_M 110 "WireCodecModel" "at" "I") zin_M_110) (fun _ h9 => h9) rfl d_M_edge_1 ?_
  refine lv_istore_n (lv' := [(3, .int (zM_at sM)), (0, .ref adM), (1, .int v1), (2, .int v2)]) hx hb d_M_edge_4 rfl hl (by decide) rfl (fun ls hl => ?_)
  refine lv_aload_n hx hb d_M_edge_5 rfl (lv_at hl 1 rfl) ?_
  refine va_get (D := (dC, dI)) (ci := 8) (v := .int (zM_end sM)) (C := R_M) (T := F_M) (N := 26) hx hb hts zi_M hown zz.1 hP 0 rfl rfl 16 (by decide) (hts (.fieldLink R_M 113 "WireCodecModel" "end" "I") zin_M_113) (fun _ h9 => h9) rfl d_M_edge_6 ?_
  refine lv_istore (lv' := [(4, .int (zM_end sM)), (3, .int (zM_at sM)), (0, .ref adM), (1, .int v1), (2, .int v2)]) hx hb d_M_edge_9 hl (by decide) rfl (fun ls hl => ?_)
  refine lv_aload_n hx hb d_M_edge_11 rfl (lv_at hl 2 rfl) ?_
  refine lv_aload_n hx hb d_M_edge_12 rfl (lv_at hl 2 rfl) ?_
  refine va_get (D := (dC, dI)) (ci := 8) (v := .int (zM_rangesAt sM)) (C := R_M) (T := F_M) (N := 26) hx hb hts zi_M hown zz.1 hP 0 rfl rfl 13 (by decide) (hts (.fieldLink R_M 150 "WireCodecModel" "rangesAt" "I") zin_M_150) (fun _ h9 => h9) rfl d_M_edge_13 ?_
  refine lv_iload hx hb d_M_edge_16 (lv_at hl 0 rfl) ?_
  obtain ⟨a_18, hx_18, hG⟩ := zb hG
  have hr_18 := zrunV (p := p) (e := e) (below := below) (meth := meth) (As := [.int (zM_rangesAt sM), .int (zM_end sM)]) (rest := []) (st0 := [.int (zM_end sM), .int (zM_rangesAt sM), .ref adM]) (cells := 0) (slots := 0) X zz hP hD hS hA [0, 1, 2, 3, 4, 5, 6, 7, 8, 9] (by decide) rfl (c_M_look l dC dI cB cI cL H.size adM adM_tape adM_frameAt adM_field adM_draft adM_given adM_low adM_high adM_packet adM_known sM (zM_rangesAt sM) (zM_end sM) _ hx_18) zy_M_look zv_M_look (hts (.methodLink R_M 124 y_M_look) zin_M_124) hl rfl rfl d_M_edge_18 (lv_room (Nat.le_of_ble_eq_true rfl)) rfl rfl ⟨Nat.le_trans (Nat.le_of_ble_eq_true rfl) hRf, Nat.le_trans (Nat.le_of_ble_eq_true rfl) hRl⟩ ⟨Nat.zero_le _, Nat.zero_le _⟩ 0 8 rfl rfl
  refine zcallv (wr := ([] : va_W)) hr_18 hP hD hS hA [0, 1, 2, 3, 4, 5, 6, 7, 8, 9] [] rfl rfl (by decide) (by decide) (fun u_18 H locs hw_18 hP hD hS => ?_)
  obtain ⟨sM_18, rfl⟩ : ∃ z, z = u_18 := ⟨_, rfl⟩
  subst hw_18
  have hP : va_P (dC, dI) zcl (zwM adM adM_tape adM_frameAt adM_field adM_draft adM_given adM_low adM_high adM_packet adM_known cB cI cL sM_18) H := hP
  have hD : va_D A (zwM adM adM_tape adM_frameAt adM_field adM_draft adM_given adM_low adM_high adM_packet adM_known cB cI cL sM_18) := hD
  have hG : g_M_edge_c18 N sM v1 v2 sM_18 = some a := hG
  unfold g_M_edge_c18 at hG
  refine lv_aload_n hx hb d_M_edge_21 rfl (lv_at hl 2 rfl) ?_
  refine va_get (D := (dC, dI)) (ci := 8) (v := .ref adM_field) (C := R_M) (T := F_M) (N := 26) hx hb hts zi_M hown zz.1 hP 0 rfl rfl 8 (by decide) (hts (.fieldLink R_M 22 "WireCodecModel" "field" "[J") zin_M_22) (fun _ h9 => h9) rfl d_M_edge_22 ?_
  refine lv_iconst (v := (0 : Int32)) hx hb d_M_edge_25 (by decide) ?_
  obtain ⟨hin, hG⟩ := zgd hG
  refine va_lald hx hb zz.1 hP 3 2 rfl rfl hin d_M_edge_26 ?_
  refine lv_lstore (lv' := [(5, .long ((zM_field sM_18) (0 : Int32).toNatClampNeg)), (4, .int (zM_end sM)), (3, .int (zM_at sM)), (0, .ref adM), (1, .int v1), (2, .int v2)]) hx hb d_M_edge_27 hl (by decide) rfl (fun ls hl => ?_)
  refine lv_lload hx hb d_M_edge_29 (lv_at hl 0 rfl) ?_
  refine lv_aload_n hx hb d_M_edge_31 rfl (lv_at hl 3 rfl) ?_
  obtain ⟨a_32, hx_32, hG⟩ := zb hG
  have hr_32 := zrunV (p := p) (e := e) (below := below) (meth := meth) (As := []) (rest := [.long ((zM_field sM_18) (0 : Int32).toNatClampNeg)]) (st0 := [.ref adM, .long ((zM_field sM_18) (0 : Int32).toNatClampNeg)]) (cells := 0) (slots := 0) X zz hP hD hS hA [0, 1, 2, 3, 4, 5, 6, 7, 8, 9] (by decide) rfl (c_M_takeNumber l dC dI cB cI cL H.size adM adM_tape adM_frameAt adM_field adM_draft adM_given adM_low adM_high adM_packet adM_known N sM_18 _ hx_32) zy_M_takeNumber zv_M_takeNumber (hts (.methodLink R_M 128 y_M_takeNumber) zin_M_128) hl rfl rfl d_M_edge_32 (lv_room (Nat.le_of_ble_eq_true rfl)) rfl rfl ⟨Nat.le_trans (Nat.le_of_ble_eq_true rfl) hRf, Nat.le_trans (Nat.le_of_ble_eq_true rfl) hRl⟩ ⟨Nat.zero_le _, Nat.zero_le _⟩ 0 8 rfl rfl
  refine zcalll (wr := ([] : va_W)) hr_32 hP hD hS hA [0, 1, 2, 3, 4, 5, 6, 7, 8, 9] [] rfl rfl (by decide) (by decide) (fun r_32 u_32 H locs hw_32 hP hD hS => ?_)
  obtain ⟨sM_32, rfl⟩ : ∃ z, z = u_32 := ⟨_, rfl⟩
  subst hw_32
  have hP : va_P (dC, dI) zcl (zwM adM adM_tape adM_frameAt adM_field adM_draft adM_given adM_low adM_high adM_packet adM_known cB cI cL sM_32) H := hP
  have hD : va_D A (zwM adM adM_tape adM_frameAt adM_field adM_draft adM_given adM_low adM_high adM_packet adM_known cB cI cL sM_32) := hD
  have hG : g_M_edge_c32 N sM v1 v2 sM_18 sM_32 r_32 = some a := hG
  unfold g_M_edge_c32 at hG
  refine lv_lsub hx hb d_M_edge_35 ?_
  refine lv_lstore (lv' := [(7, .long (((zM_field sM_18) (0 : Int32).toNatClampNeg) - r_32)), (5, .long ((zM_field sM_18) (0 : Int32).toNatClampNeg)), (4, .int (zM_end sM)), (3, .int (zM_at sM)), (0, .ref adM), (1, .int v1), (2, .int v2)]) hx hb d_M_edge_36 hl (by decide) rfl (fun ls hl => ?_)
  refine lv_iconst (v := (0 : Int32)) hx hb d_M_edge_38 (by decide) ?_
  refine lv_istore (lv' := [(9, .int (0 : Int32)), (7, .long (((zM_field sM_18) (0 : Int32).toNatClampNeg) - r_32)), (5, .long ((zM_field sM_18) (0 : Int32).toNatClampNeg)), (4, .int (zM_end sM)), (3, .int (zM_at sM)), (0, .ref adM), (1, .int v1), (2, .int v2)]) hx hb d_M_edge_39 hl (by decide) rfl (fun ls hl => ?_)
  exact k_M_edge_41 X hA zz N N sM_32 v1 v2 (zM_at sM) ((zM_field sM_18) (0 : Int32).toNatClampNeg) (((zM_field sM_18) (0 : Int32).toNatClampNeg) - r_32) (0 : Int32) _ hG adM adM_tape adM_frameAt adM_field adM_draft adM_given adM_low adM_high adM_packet adM_known _ _ hP hD hS _ (lv_sub hl [5, 6, 7, 4, 2, 1, 0] rfl)
set_option maxRecDepth 100000 in
set_option maxHeartbeats 4000000 in
theorem c_M_edge (l : Launch) (dC : Nat → ClassId) (dI : Nat → Nat → Nat) (cB cI cL : ClassId) (sz : Nat) (adM adM_tape adM_frameAt adM_field adM_draft adM_given adM_low adM_high adM_packet adM_known : Nat) (N : Nat) (sM : zM) (v1 : Int32) (v2 : Int32) (a : Int64 × zM) (hG : g_M_edge N sM v1 v2 = some a) : Met l y_M_edge (zw y_M_edge b_M_edge 10 (some .long)) ({ frames := 3, cells := 0, slots := 0, locals := 68 }) (va_Pc [.ref adM, .int v1, .int v2] (zpre dC dI cB cI cL sz (zwM adM adM_tape adM_frameAt adM_field adM_draft adM_given adM_low adM_high adM_packet adM_known cB cI cL sM))) (q_M_edge dC dI cB cI cL (va_A (zwM adM adM_tape adM_frameAt adM_field adM_draft adM_given adM_low adM_high adM_packet adM_known cB cI cL sM) sz) adM adM_tape adM_frameAt adM_field adM_draft adM_given adM_low adM_high adM_packet adM_known a) 0 0 (va_A (zwM adM adM_tape adM_frameAt adM_field adM_draft adM_given adM_low adM_high adM_packet adM_known cB cI cL sM) sz) := by
  refine Met.ofW (cc := b_M_edge) (maxL := 10) (ret := (some .long)) (by decide) rfl ?_
  intro p e s m args below meth c s₁ B hml hv
  obtain ⟨rfl, hsz, hP, zz, hD0⟩ := hv
  subst hsz
  have X := zx_of (F := 3) (L := 68) B hml (Nat.le_refl _) (Nat.le_refl _)
  have hD := hD0.self (sz := s.heap.size)
  have hA : ∀ q : Nat, s.heap.size ≤ q → va_A (zwM adM adM_tape adM_frameAt adM_field adM_draft adM_given adM_low adM_high adM_packet adM_known cB cI cL sM) s.heap.size q := fun q h => Or.inr h
  have hl := lv_entry ([.ref adM, .int v1, .int v2]) (n := 10) (Nat.le_of_ble_eq_true rfl)
  rw [lg_entry_eq]
  generalize (lg_sl ([.ref adM, .int v1, .int v2]) ++ List.replicate (10 - (lg_sl ([.ref adM, .int v1, .int v2])).length) Slot.unset).toArray = ls at hl ⊢
  exact k_M_edge_0 X hA zz N sM v1 v2 a hG adM adM_tape adM_frameAt adM_field adM_draft adM_given adM_low adM_high adM_packet adM_known _ _ hP hD va_S.rf ls hl
noncomputable def g_M_isRight_71 (N : Nat) (sM : zM) (s0 : Int32) : Option (Int32 × zM) := zg (narrow .boolean (.int s0) = .int s0) (some (s0, sM))
noncomputable def g_M_isRight_53 (N : Nat) (sM : zM) : Option (Int32 × zM) := zg (vp_in (0 : Int32) 12) (if (0 : Int32) < (lg_cmp ((zM_field sM) (0 : Int32).toNatClampNeg) (1152921504606846976 : Int64)) then (g_M_isRight_71 N sM (0 : Int32)) else (g_M_isRight_71 N sM (1 : Int32)))
noncomputable def g_M_isRight_171 (N : Nat) (sM : zM) (s0 : Int32) : Option (Int32 × zM) := zg (narrow .boolean (.int s0) = .int s0) (some (s0, sM))
noncomputable def g_M_isRight_166 (N : Nat) (sM : zM) : Option (Int32 × zM) := g_M_isRight_171 N sM (1 : Int32)
noncomputable def g_M_isRight_147 (N : Nat) (sM : zM) : Option (Int32 × zM) := zg (vp_in (1 : Int32) 12) (if (0 : Int32) < (lg_cmp (((zM_field sM) (1 : Int32).toNatClampNeg) + ((zM_dataSize sM).toInt64)) (4611686018427387903 : Int64)) then (g_M_isRight_171 N sM (0 : Int32)) else (g_M_isRight_166 N sM))
noncomputable def g_M_isRight_134 (N : Nat) (sM : zM) (s0 : Int32) : Option (Int32 × zM) := zg (narrow .boolean (.int s0) = .int s0) (some (s0, sM))
noncomputable def g_M_isRight_133 (N : Nat) (sM : zM) : Option (Int32 × zM) := g_M_isRight_134 N sM (0 : Int32)
noncomputable def g_M_isRight_90 (N : Nat) (sM : zM) (s0 : Int32) : Option (Int32 × zM) := zg (narrow .boolean (.int s0) = .int s0) (some (s0, sM))
noncomputable def g_M_isRight_28 (N : Nat) (sM : zM) (s0 : Int32) : Option (Int32 × zM) := zg (narrow .boolean (.int s0) = .int s0) (some (s0, sM))
noncomputable def g_M_isRight_c15 (N : Nat) (sM_15 : zM) (r_15 : Int64) : Option (Int32 × zM) := if (lg_cmp r_15 (0 : Int64)) < (0 : Int32) then (g_M_isRight_28 N sM_15 (0 : Int32)) else (g_M_isRight_28 N sM_15 (1 : Int32))
noncomputable def g_M_isRight_c1 (N : Nat) (sM : zM) (v1 : Int32) (r_1 : Int32) : Option (Int32 × zM) := if r_1 = (0 : Int32) then (if v1 = (18 : Int32) then (g_M_isRight_53 N sM) else (if v1 = (19 : Int32) then (g_M_isRight_53 N sM) else (if v1 = (22 : Int32) then (g_M_isRight_53 N sM) else (if v1 = (23 : Int32) then (g_M_isRight_53 N sM) else (if v1 = (7 : Int32) then (if (zM_dataSize sM) ≤ (0 : Int32) then (g_M_isRight_90 N sM (0 : Int32)) else (g_M_isRight_90 N sM (1 : Int32))) else (if v1 = (24 : Int32) then (zg (vp_in (1 : Int32) 12) (zg (vp_in (0 : Int32) 12) (if (0 : Int32) < (lg_cmp ((zM_field sM) (1 : Int32).toNatClampNeg) ((zM_field sM) (0 : Int32).toNatClampNeg)) then (g_M_isRight_133 N sM) else (if (zM_dataSize sM) ≤ (0 : Int32) then (g_M_isRight_133 N sM) else (if (20 : Int32) < (zM_dataSize sM) then (g_M_isRight_133 N sM) else (g_M_isRight_134 N sM (1 : Int32))))))) else (if v1 = (6 : Int32) then (g_M_isRight_147 N sM) else (if v1 = (8 : Int32) then (g_M_isRight_147 N sM) else (g_M_isRight_166 N sM))))))))) else ((g_M_edge N sM ((zM_ranges sM) - (1 : Int32)) (0 : Int32)).bind (fun a => g_M_isRight_c15 N a.2 a.1))
noncomputable def g_M_isRight (N : Nat) (sM : zM) (v1 : Int32) : Option (Int32 × zM) := (g_M_isAck v1).bind (fun a => g_M_isRight_c1 N sM v1 a)
def q_M_isRight (dC : Nat → ClassId) (dI : Nat → Nat → Nat) (cB cI cL : ClassId) (A : Nat → Prop) (adM : Nat) (adM_tape : Nat) (adM_frameAt : Nat) (adM_field : Nat) (adM_draft : Nat) (adM_given : Nat) (adM_low : Nat) (adM_high : Nat) (adM_packet : Nat) (adM_known : Nat) (a : Int32 × zM) : Array Value → State → Outcome → State → Prop := va_Qi (fun (r : Int32) (u : zM) => (r, u) = a) (fun u U => va_P (dC, dI) zcl (zwM adM adM_tape adM_frameAt adM_field adM_draft adM_given adM_low adM_high adM_packet adM_known cB cI cL u) U.heap ∧ va_D A (zwM adM adM_tape adM_frameAt adM_field adM_draft adM_given adM_low adM_high adM_packet adM_known cB cI cL u)) A
set_option maxRecDepth 100000 in
set_option maxHeartbeats 4000000 in
theorem k_M_isRight_71 {p : Program} {l : Launch} {e : Env} {R : Room} {s : State} {m : MethodId} {args : Array Value} {below : List Frame} {meth : Method} {c : Code} {dC : Nat → ClassId} {dI : Nat → Nat → Nat} {cB cI cL : ClassId} {A : Nat → Prop} (X : zx p s m args meth c R R_M b_M_isRight (some .boolean) 2 4 97) (hA : ∀ q, s.heap.size ≤ q → A q) (zz : zk dC dI cB cI cL A s)  (N : Nat) (sM : zM) (s0 : Int32) (a : Int32 × zM) (hG : g_M_isRight_71 N sM s0 = some a) (adM adM_tape adM_frameAt adM_field adM_draft adM_given adM_low adM_high adM_packet adM_known : Nat) (H : Heap) (locs : List Loc) (hP : va_P (dC, dI) zcl (zwM adM adM_tape adM_frameAt adM_field adM_draft adM_given adM_low adM_high adM_packet adM_known cB cI cL sM) H) (hD : va_D A (zwM adM adM_tape adM_frameAt adM_field adM_draft adM_given adM_low adM_high adM_packet adM_known cB cI cL sM)) (hS : va_S A s.heap H locs) (ls : Array Slot) (hl : lv_has ls 2 []) : W p l e R s m args below meth c H locs 0 0 (MQ below (q_M_isRight dC dI cB cI cL A adM adM_tape adM_frameAt adM_field adM_draft adM_given adM_low adM_high adM_packet adM_known a) args s 0 0 A) (F0 m 71 ls [.int s0]) := by
  obtain ⟨hx, hb, hr, hml, hown, hts, hlocks, hRf, hRl⟩ := id X
  unfold g_M_isRight_71 at hG
  obtain ⟨hnb, hG⟩ := zgd hG
  exact W.zret (v := s0) hx hb hr hnb (fun t9 ht9 hW9 => ⟨⟨s0, (sM), rfl, Option.some.inj hG, by rw [ht9]; exact hP, hD⟩, hS.F ht9⟩) hS.2.2 d_M_isRight_71
set_option maxRecDepth 100000 in
set_option maxHeartbeats 4000000 in
theorem k_M_isRight_53 {p : Program} {l : Launch} {e : Env} {R : Room} {s : State} {m : MethodId} {args : Array Value} {below : List Frame} {meth : Method} {c : Code} {dC : Nat → ClassId} {dI : Nat → Nat → Nat} {cB cI cL : ClassId} {A : Nat → Prop} (X : zx p s m args meth c R R_M b_M_isRight (some .boolean) 2 4 97) (hA : ∀ q, s.heap.size ≤ q → A q) (zz : zk dC dI cB cI cL A s)  (N : Nat) (sM : zM) (a : Int32 × zM) (hG : g_M_isRight_53 N sM = some a) (adM adM_tape adM_frameAt adM_field adM_draft adM_given adM_low adM_high adM_packet adM_known : Nat) (H : Heap) (locs : List Loc) (hP : va_P (dC, dI) zcl (zwM adM adM_tape adM_frameAt adM_field adM_draft adM_given adM_low adM_high adM_packet adM_known cB cI cL sM) H) (hD : va_D A (zwM adM adM_tape adM_frameAt adM_field adM_draft adM_given adM_low adM_high adM_packet adM_known cB cI cL sM)) (hS : va_S A s.heap H locs) (ls : Array Slot) (hl : lv_has ls 2 [(0, .ref adM)]) : W p l e R s m args below meth c H locs 0 0 (MQ below (q_M_isRight dC dI cB cI cL A adM adM_tape adM_frameAt adM_field adM_draft adM_given adM_low adM_high adM_packet adM_known a) args s 0 0 A) (F0 m 53 ls []) := by
  obtain ⟨hx, hb, hr, hml, hown, hts, hlocks, hRf, hRl⟩ := id X
  unfold g_M_isRight_53 at hG
  refine lv_aload_n hx hb d_M_isRight_53 rfl (lv_at hl 0 rfl) ?_
  refine va_get (D := (dC, dI)) (ci := 8) (v := .ref adM_field) (C := R_M) (T := F_M) (N := 26) hx hb hts zi_M hown zz.1 hP 0 rfl rfl 8 (by decide) (hts (.fieldLink R_M 22 "WireCodecModel" "field" "[J") zin_M_22) (fun _ h9 => h9) rfl d_M_isRight_54 ?_
  refine lv_iconst (v := (0 : Int32)) hx hb d_M_isRight_57 (by decide) ?_
  obtain ⟨hin, hG⟩ := zgd hG
  refine va_lald hx hb zz.1 hP 3 2 rfl rfl hin d_M_isRight_58 ?_
  refine lv_ldc2 (v := (1152921504606846976 : Int64)) hx hb hown (hts (.constantLong R_M 188 (1152921504606846976 : Int64)) zin_M_188) d_M_isRight_59 ?_
  refine W.lcmp hx hb d_M_isRight_62 ?_
  refine lv_if_gt (tgt := 70) hx hb d_M_isRight_63 (by decide) (fun hc => ?_) (fun hc => ?_)
  · have hG := zt hG hc
    refine lv_iconst (v := (0 : Int32)) hx hb d_M_isRight_70 (by decide) ?_
    exact k_M_isRight_71 X hA zz N sM (0 : Int32) _ hG adM adM_tape adM_frameAt adM_field adM_draft adM_given adM_low adM_high adM_packet adM_known _ _ hP hD hS _ (lv_sub hl [] rfl)
  · have hG := zf hG hc
    refine lv_iconst (v := (1 : Int32)) hx hb d_M_isRight_66 (by decide) ?_
    refine lv_goto (tgt := 71) hx hb d_M_isRight_67 (by decide) ?_
    exact k_M_isRight_71 X hA zz N sM (1 : Int32) _ hG adM adM_tape adM_frameAt adM_field adM_draft adM_given adM_low adM_high adM_packet adM_known _ _ hP hD hS _ (lv_sub hl [] rfl)
set_option maxRecDepth 100000 in
set_option maxHeartbeats 4000000 in
theorem k_M_isRight_171 {p : Program} {l : Launch} {e : Env} {R : Room} {s : State} {m : MethodId} {args : Array Value} {below : List Frame} {meth : Method} {c : Code} {dC : Nat → ClassId} {dI : Nat → Nat → Nat} {cB cI cL : ClassId} {A : Nat → Prop} (X : zx p s m args meth c R R_M b_M_isRight (some .boolean) 2 4 97) (hA : ∀ q, s.heap.size ≤ q → A q) (zz : zk dC dI cB cI cL A s)  (N : Nat) (sM : zM) (s0 : Int32) (a : Int32 × zM) (hG : g_M_isRight_171 N sM s0 = some a) (adM adM_tape adM_frameAt adM_field adM_draft adM_given adM_low adM_high adM_packet adM_known : Nat) (H : Heap) (locs : List Loc) (hP : va_P (dC, dI) zcl (zwM adM adM_tape adM_frameAt adM_field adM_draft adM_given adM_low adM_high adM_packet adM_known cB cI cL sM) H) (hD : va_D A (zwM adM adM_tape adM_frameAt adM_field adM_draft adM_given adM_low adM_high adM_packet adM_known cB cI cL sM)) (hS : va_S A s.heap H locs) (ls : Array Slot) (hl : lv_has ls 2 []) : W p l e R s m args below meth c H locs 0 0 (MQ below (q_M_isRight dC dI cB cI cL A adM adM_tape adM_frameAt adM_field adM_draft adM_given adM_low adM_high adM_packet adM_known a) args s 0 0 A) (F0 m 171 ls [.int s0]) := by
  obtain ⟨hx, hb, hr, hml, hown, hts, hlocks, hRf, hRl⟩ := id X
  unfold g_M_isRight_171 at hG
  obtain ⟨hnb, hG⟩ := zgd hG
  exact W.zret (v := s0) hx hb hr hnb (fun t9 ht9 hW9 => ⟨⟨s0, (sM), rfl, Option.some.inj hG, by rw [ht9]; exact hP, hD⟩, hS.F ht9⟩) hS.2.2 d_M_isRight_171
set_option maxRecDepth 100000 in
set_option maxHeartbeats 4000000 in
theorem k_M_isRight_166 {p : Program} {l : Launch} {e : Env} {R : Room} {s : State} {m : MethodId} {args : Array Value} {below : List Frame} {meth : Method} {c : Code} {dC : Nat → ClassId} {dI : Nat → Nat → Nat} {cB cI cL : ClassId} {A : Nat → Prop} (X : zx p s m args meth c R R_M b_M_isRight (some .boolean) 2 4 97) (hA : ∀ q, s.heap.size ≤ q → A q) (zz : zk dC dI cB cI cL A s)  (N : Nat) (sM : zM) (a : Int32 × zM) (hG : g_M_isRight_166 N sM = some a) (adM adM_tape adM_frameAt adM_field adM_draft adM_given adM_low adM_high adM_packet adM_known : Nat) (H : Heap) (locs : List Loc) (hP : va_P (dC, dI) zcl (zwM adM adM_tape adM_frameAt adM_field adM_draft adM_given adM_low adM_high adM_packet adM_known cB cI cL sM) H) (hD : va_D A (zwM adM adM_tape adM_frameAt adM_field adM_draft adM_given adM_low adM_high adM_packet adM_known cB cI cL sM)) (hS : va_S A s.heap H locs) (ls : Array Slot) (hl : lv_has ls 2 []) : W p l e R s m args below meth c H locs 0 0 (MQ below (q_M_isRight dC dI cB cI cL A adM adM_tape adM_frameAt adM_field adM_draft adM_given adM_low adM_high adM_packet adM_known a) args s 0 0 A) (F0 m 166 ls []) := by
  obtain ⟨hx, hb, hr, hml, hown, hts, hlocks, hRf, hRl⟩ := id X
  unfold g_M_isRight_166 at hG
  refine lv_iconst (v := (1 : Int32)) hx hb d_M_isRight_166 (by decide) ?_
  refine lv_goto (tgt := 171) hx hb d_M_isRight_167 (by decide) ?_
  exact k_M_isRight_171 X hA zz N sM (1 : Int32) _ hG adM adM_tape adM_frameAt adM_field adM_draft adM_given adM_low adM_high adM_packet adM_known _ _ hP hD hS _ (lv_sub hl [] rfl)
set_option maxRecDepth 100000 in
set_option maxHeartbeats 4000000 in
theorem k_M_isRight_147 {p : Program} {l : Launch} {e : Env} {R : Room} {s : State} {m : MethodId} {args : Array Value} {below : List Frame} {meth : Method} {c : Code} {dC : Nat → ClassId} {dI : Nat → Nat → Nat} {cB cI cL : ClassId} {A : Nat → Prop} (X : zx p s m args meth c R R_M b_M_isRight (some .boolean) 2 4 97) (hA : ∀ q, s.heap.size ≤ q → A q) (zz : zk dC dI cB cI cL A s)  (N : Nat) (sM : zM) (a : Int32 × zM) (hG : g_M_isRight_147 N sM = some a) (adM adM_tape adM_frameAt adM_field adM_draft adM_given adM_low adM_high adM_packet adM_known : Nat) (H : Heap) (locs : List Loc) (hP : va_P (dC, dI) zcl (zwM adM adM_tape adM_frameAt adM_field adM_draft adM_given adM_low adM_high adM_packet adM_known cB cI cL sM) H) (hD : va_D A (zwM adM adM_tape adM_frameAt adM_field adM_draft adM_given adM_low adM_high adM_packet adM_known cB cI cL sM)) (hS : va_S A s.heap H locs) (ls : Array Slot) (hl : lv_has ls 2 [(0, .ref adM)]) : W p l e R s m args below meth c H locs 0 0 (MQ below (q_M_isRight dC dI cB cI cL A adM adM_tape adM_frameAt adM_field adM_draft adM_given adM_low adM_high adM_packet adM_known a) args s 0 0 A) (F0 m 147 ls []) := by
  obtain ⟨hx, hb, hr, hml, hown, hts, hlocks, hRf, hRl⟩ := id X
  unfold g_M_isRight_147 at hG
  refine lv_aload_n hx hb d_M_isRight_147 rfl (lv_at hl 0 rfl) ?_
  refine va_get (D := (dC, dI)) (ci := 8) (v := .ref adM_field) (C := R_M) (T := F_M) (N := 26) hx hb hts zi_M hown zz.1 hP 0 rfl rfl 8 (by decide) (hts (.fieldLink R_M 22 "WireCodecModel" "field" "[J") zin_M_22) (fun _ h9 => h9) rfl d_M_isRight_148 ?_
  refine lv_iconst (v := (1 : Int32)) hx hb d_M_isRight_151 (by decide) ?_
  obtain ⟨hin, hG⟩ := zgd hG
  refine va_lald hx hb zz.1 hP 3 2 rfl rfl hin d_M_isRight_152 ?_
  refine lv_aload_n hx hb d_M_isRight_153 rfl (lv_at hl 0 rfl) ?_
  refine va_get (D := (dC, dI)) (ci := 8) (v := .int (zM_dataSize sM)) (C := R_M) (T := F_M) (N := 26) hx hb hts zi_M hown zz.1 hP 0 rfl rfl 10 (by decide) (hts (.fieldLink R_M 147 "WireCodecModel" "dataSize" "I") zin_M_147) (fun _ h9 => h9) rfl d_M_isRight_154 ?_
  refine lv_i2l hx hb d_M_isRight_157 rfl ?_
  refine lv_ladd hx hb d_M_isRight_158 ?_
  refine lv_ldc2 (v := (4611686018427387903 : Int64)) hx hb hown (hts (.constantLong R_M 51 (4611686018427387903 : Int64)) zin_M_51) d_M_isRight_159 ?_
  refine W.lcmp hx hb d_M_isRight_162 ?_
  refine lv_if_gt (tgt := 170) hx hb d_M_isRight_163 (by decide) (fun hc => ?_) (fun hc => ?_)
  · have hG := zt hG hc
    refine lv_iconst (v := (0 : Int32)) hx hb d_M_isRight_170 (by decide) ?_
    exact k_M_isRight_171 X hA zz N sM (0 : Int32) _ hG adM adM_tape adM_frameAt adM_field adM_draft adM_given adM_low adM_high adM_packet adM_known _ _ hP hD hS _ (lv_sub hl [] rfl)
  · have hG := zf hG hc
    exact k_M_isRight_166 X hA zz N sM _ hG adM adM_tape adM_frameAt adM_field adM_draft adM_given adM_low adM_high adM_packet adM_known _ _ hP hD hS _ (lv_sub hl [] rfl)
set_option maxRecDepth 100000 in
set_option maxHeartbeats 4000000 in
theorem k_M_isRight_134 {p : Program} {l : Launch} {e : Env} {R : Room} {s : State} {m : MethodId} {args : Array Value} {below : List Frame} {meth : Method} {c : Code} {dC : Nat → ClassId} {dI : Nat → Nat → Nat} {cB cI cL : ClassId} {A : Nat → Prop} (X : zx p s m args meth c R R_M b_M_isRight (some .boolean) 2 4 97) (hA : ∀ q, s.heap.size ≤ q → A q) (zz : zk dC dI cB cI cL A s)  (N : Nat) (sM : zM) (s0 : Int32) (a : Int32 × zM) (hG : g_M_isRight_134 N sM s0 = some a) (adM adM_tape adM_frameAt adM_field adM_draft adM_given adM_low adM_high adM_packet adM_known : Nat) (H : Heap) (locs : List Loc) (hP : va_P (dC, dI) zcl (zwM adM adM_tape adM_frameAt adM_field adM_draft adM_given adM_low adM_high adM_packet adM_known cB cI cL sM) H) (hD : va_D A (zwM adM adM_tape adM_frameAt adM_field adM_draft adM_given adM_low adM_high adM_packet adM_known cB cI cL sM)) (hS : va_S A s.heap H locs) (ls : Array Slot) (hl : lv_has ls 2 []) : W p l e R s m args below meth c H locs 0 0 (MQ below (q_M_isRight dC dI cB cI cL A adM adM_tape adM_frameAt adM_field adM_draft adM_given adM_low adM_high adM_packet adM_known a) args s 0 0 A) (F0 m 134 ls [.int s0]) := by
  obtain ⟨hx, hb, hr, hml, hown, hts, hlocks, hRf, hRl⟩ := id X
  unfold g_M_isRight_134 at hG
  obtain ⟨hnb, hG⟩ := zgd hG
  exact W.zret (v := s0) hx hb hr hnb (fun t9 ht9 hW9 => ⟨⟨s0, (sM), rfl, Option.some.inj hG, by rw [ht9]; exact hP, hD⟩, hS.F ht9⟩) hS.2.2 d_M_isRight_134
set_option maxRecDepth 100000 in
set_option maxHeartbeats 4000000 in
theorem k_M_isRight_133 {p : Program} {l : Launch} {e : Env} {R : Room} {s : State} {m : MethodId} {args : Array Value} {below : List Frame} {meth : Method} {c : Code} {dC : Nat → ClassId} {dI : Nat → Nat → Nat} {cB cI cL : ClassId} {A : Nat → Prop} (X : zx p s m args meth c R R_M b_M_isRight (some .boolean) 2 4 97) (hA : ∀ q, s.heap.size ≤ q → A q) (zz : zk dC dI cB cI cL A s)  (N : Nat) (sM : zM) (a : Int32 × zM) (hG : g_M_isRight_133 N sM = some a) (adM adM_tape adM_frameAt adM_field adM_draft adM_given adM_low adM_high adM_packet adM_known : Nat) (H : Heap) (locs : List Loc) (hP : va_P (dC, dI) zcl (zwM adM adM_tape adM_frameAt adM_field adM_draft adM_given adM_low adM_high adM_packet adM_known cB cI cL sM) H) (hD : va_D A (zwM adM adM_tape adM_frameAt adM_field adM_draft adM_given adM_low adM_high adM_packet adM_known cB cI cL sM)) (hS : va_S A s.heap H locs) (ls : Array Slot) (hl : lv_has ls 2 []) : W p l e R s m args below meth c H locs 0 0 (MQ below (q_M_isRight dC dI cB cI cL A adM adM_tape adM_frameAt adM_field adM_draft adM_given adM_low adM_high adM_packet adM_known a) args s 0 0 A) (F0 m 133 ls []) := by
  obtain ⟨hx, hb, hr, hml, hown, hts, hlocks, hRf, hRl⟩ := id X
  unfold g_M_isRight_133 at hG
  refine lv_iconst (v := (0 : Int32)) hx hb d_M_isRight_133 (by decide) ?_
  exact k_M_isRight_134 X hA zz N sM (0 : Int32) _ hG adM adM_tape adM_frameAt adM_field adM_draft adM_given adM_low adM_high adM_packet adM_known _ _ hP hD hS _ (lv_sub hl [] rfl)
set_option maxRecDepth 100000 in
set_option maxHeartbeats 4000000 in
theorem k_M_isRight_90 {p : Program} {l : Launch} {e : Env} {R : Room} {s : State} {m : MethodId} {args : Array Value} {below : List Frame} {meth : Method} {c : Code} {dC : Nat → ClassId} {dI : Nat → Nat → Nat} {cB cI cL : ClassId} {A : Nat → Prop} (X : zx p s m args meth c R R_M b_M_isRight (some .boolean) 2 4 97) (hA : ∀ q, s.heap.size ≤ q → A q) (zz : zk dC dI cB cI cL A s)  (N : Nat) (sM : zM) (s0 : Int32) (a : Int32 × zM) (hG : g_M_isRight_90 N sM s0 = some a) (adM adM_tape adM_frameAt adM_field adM_draft adM_given adM_low adM_high adM_packet adM_known : Nat) (H : Heap) (locs : List Loc) (hP : va_P (dC, dI) zcl (zwM adM adM_tape adM_frameAt adM_field adM_draft adM_given adM_low adM_high adM_packet adM_known cB cI cL sM) H) (hD : va_D A (zwM adM adM_tape adM_frameAt adM_field adM_draft adM_given adM_low adM_high adM_packet adM_known cB cI cL sM)) (hS : va_S A s.heap H locs) (ls : Array Slot) (hl : lv_has ls 2 []) : W p l e R s m args below meth c H locs 0 0 (MQ below (q_M_isRight dC dI cB cI cL A adM adM_tape adM_frameAt adM_field adM_draft adM_given adM_low adM_high adM_packet adM_known a) args s 0 0 A) (F0 m 90 ls [.int s0]) := by
  obtain ⟨hx, hb, hr, hml, hown, hts, hlocks, hRf, hRl⟩ := id X
  unfold g_M_isRight_90 at hG
  obtain ⟨hnb, hG⟩ := zgd hG
  exact W.zret (v := s0) hx hb hr hnb (fun t9 ht9 hW9 => ⟨⟨s0, (sM), rfl, Option.some.inj hG, by rw [ht9]; exact hP, hD⟩, hS.F ht9⟩) hS.2.2 d_M_isRight_90
set_option maxRecDepth 100000 in
set_option maxHeartbeats 4000000 in
theorem k_M_isRight_28 {p : Program} {l : Launch} {e : Env} {R : Room} {s : State} {m : MethodId} {args : Array Value} {below : List Frame} {meth : Method} {c : Code} {dC : Nat → ClassId} {dI : Nat → Nat → Nat} {cB cI cL : ClassId} {A : Nat → Prop} (X : zx p s m args meth c R R_M b_M_isRight (some .boolean) 2 4 97) (hA : ∀ q, s.heap.size ≤ q → A q) (zz : zk dC dI cB cI cL A s)  (N : Nat) (sM : zM) (s0 : Int32) (a : Int32 × zM) (hG : g_M_isRight_28 N sM s0 = some a) (adM adM_tape adM_frameAt adM_field adM_draft adM_given adM_low adM_high adM_packet adM_known : Nat) (H : Heap) (locs : List Loc) (hP : va_P (dC, dI) zcl (zwM adM adM_tape adM_frameAt adM_field adM_draft adM_given adM_low adM_high adM_packet adM_known cB cI cL sM) H) (hD : va_D A (zwM adM adM_tape adM_frameAt adM_field adM_draft adM_given adM_low adM_high adM_packet adM_known cB cI cL sM)) (hS : va_S A s.heap H locs) (ls : Array Slot) (hl : lv_has ls 2 []) : W p l e R s m args below meth c H locs 0 0 (MQ below (q_M_isRight dC dI cB cI cL A adM adM_tape adM_frameAt adM_field adM_draft adM_given adM_low adM_high adM_packet adM_known a) args s 0 0 A) (F0 m 28 ls [.int s0]) := by
  obtain ⟨hx, hb, hr, hml, hown, hts, hlocks, hRf, hRl⟩ := id X
  unfold g_M_isRight_28 at hG
  obtain ⟨hnb, hG⟩ := zgd hG
  exact W.zret (v := s0) hx hb hr hnb (fun t9 ht9 hW9 => ⟨⟨s0, (sM), rfl, Option.some.inj hG, by rw [ht9]; exact hP, hD⟩, hS.F ht9⟩) hS.2.2 d_M_isRight_28
set_option maxRecDepth 100000 in
set_option maxHeartbeats 4000000 in
theorem k_M_isRight_0 {p : Program} {l : Launch} {e : Env} {R : Room} {s : State} {m : MethodId} {args : Array Value} {below : List Frame} {meth : Method} {c : Code} {dC : Nat → ClassId} {dI : Nat → Nat → Nat} {cB cI cL : ClassId} {A : Nat → Prop} (X : zx p s m args meth c R R_M b_M_isRight (some .boolean) 2 4 97) (hA : ∀ q, s.heap.size ≤ q → A q) (zz : zk dC dI cB cI cL A s)  (N : Nat) (sM : zM) (v1 : Int32) (a : Int32 × zM) (hG : g_M_isRight N sM v1 = some a) (adM adM_tape adM_frameAt adM_field adM_draft adM_given adM_low adM_high adM_packet adM_known : Nat) (H : Heap) (locs : List Loc) (hP : va_P (dC, dI) zcl (zwM adM adM_tape adM_frameAt adM_field adM_draft adM_given adM_low adM_high adM_packet adM_known cB cI cL sM) H) (hD : va_D A (zwM adM adM_tape adM_frameAt adM_field adM_draft adM_given adM_low adM_high adM_packet adM_known cB cI cL sM)) (hS : va_S A s.heap H locs) (ls : Array Slot) (hl : lv_has ls 2 [(0, .ref adM), (1, .int v1)]) : W p l e R s m args below meth c H locs 0 0 (MQ below (q_M_isRight dC dI cB cI cL A adM adM_tape adM_frameAt adM_field adM_draft adM_given adM_low adM_high adM_packet adM_known a) args s 0 0 A) (F0 m 0 ls []) := by
  obtain ⟨hx, hb, hr, hml, hown, hts, hlocks, hRf, hRl⟩ := id X
  unfold g_M_isRight at hG
  refine lv_iload_n hx hb d_M_isRight_0 rfl (lv_at hl 1 rfl) ?_
  obtain ⟨a_1, hx_1, hG⟩ := zb hG
  have hr_1 := zrunS (p := p) (e := e) (below := below) (meth := meth) (As := [.int v1]) (rest := []) (st0 := [.int v1]) (cells := 0) (slots := 0) X zz hP hD hS hA [] (by decide) rfl (c_M_isAck l dC dI cB cI cL H.size v1 _ hx_1) zy_M_isAck zv_M_isAck (hts (.methodLink R_M 171 y_M_isAck) zin_M_171) hl rfl rfl d_M_isRight_1 (lv_room (Nat.le_of_ble_eq_true rfl)) rfl rfl ⟨Nat.le_trans (Nat.le_of_ble_eq_true rfl) hRf, Nat.le_trans (Nat.le_of_ble_eq_true rfl) hRl⟩ ⟨Nat.zero_le _, Nat.zero_le _⟩
  refine zcalli (wr := (zwM adM adM_tape adM_frameAt adM_field adM_draft adM_given adM_low adM_high adM_packet adM_known cB cI cL sM)) hr_1 hP hD hS hA [] [0, 1, 2, 3, 4, 5, 6, 7, 8, 9] rfl rfl (by decide) (by decide) (fun r_1 u_1 H locs hw_1 hP hD hS => ?_)
  subst hw_1
  have hP : va_P (dC, dI) zcl (zwM adM adM_tape adM_frameAt adM_field adM_draft adM_given adM_low adM_high adM_packet adM_known cB cI cL sM) H := hP
  have hD : va_D A (zwM adM adM_tape adM_frameAt adM_field adM_draft adM_given adM_low adM_high adM_packet adM_known cB cI cL sM) := hD
  have hG : g_M_isRight_c1 N sM v1 r_1 = some a := hG
  unfold g_M_isRight_c1 at hG
  refine lv_if_eq (tgt := 29) hx hb d_M_isRight_4 (by decide) (fun hc => ?_) (fun hc => ?_)
  · have hG := zt hG hc
    refine lv_iload_n hx hb d_M_isRight_29 rfl (lv_at hl 1 rfl) ?_
    refine lv_bipush (v := (18 : Int32)) hx hb d_M_isRight_30 (by decide) ?_
    refine lv_icmp_eq (tgt := 53) hx hb d_M_isRight_32 (by decide) (fun hc => ?_) (fun hc => ?_)
    · have hG := zt hG hc
      exact k_M_isRight_53 X hA zz N sM _ hG adM adM_tape adM_frameAt adM_field adM_draft adM_given adM_low adM_high adM_packet adM_known _ _ hP hD hS _ (lv_sub hl [0] rfl)
    · have hG := zf hG hc
      refine lv_iload_n hx hb d_M_isRight_35 rfl (lv_at hl 1 rfl) ?_
      refine lv_bipush (v := (19 : Int32)) hx hb d_M_isRight_36 (by decide) ?_
      refine lv_icmp_eq (tgt := 53) hx hb d_M_isRight_38 (by decide) (fun hc => ?_) (fun hc => ?_)
      · have hG := zt hG hc
        exact k_M_isRight_53 X hA zz N sM _ hG adM adM_tape adM_frameAt adM_field adM_draft adM_given adM_low adM_high adM_packet adM_known _ _ hP hD hS _ (lv_sub hl [0] rfl)
      · have hG := zf hG hc
        refine lv_iload_n hx hb d_M_isRight_41 rfl (lv_at hl 1 rfl) ?_
        refine lv_bipush (v := (22 : Int32)) hx hb d_M_isRight_42 (by decide) ?_
        refine lv_icmp_eq (tgt := 53) hx hb d_M_isRight_44 (by decide) (fun hc => ?_) (fun hc => ?_)
        · have hG := zt hG hc
          exact k_M_isRight_53 X hA zz N sM _ hG adM adM_tape adM_frameAt adM_field adM_draft adM_given adM_low adM_high adM_packet adM_known _ _ hP hD hS _ (lv_sub hl [0] rfl)
        · have hG := zf hG hc
          refine lv_iload_n hx hb d_M_isRight_47 rfl (lv_at hl 1 rfl) ?_
          refine lv_bipush (v := (23 : Int32)) hx hb d_M_isRight_48 (by decide) ?_
          refine lv_icmp_ne (tgt := 72) hx hb d_M_isRight_50 (by decide) (fun hc => ?_) (fun hc => ?_)
          · have hG := zf hG hc
            refine lv_iload_n hx hb d_M_isRight_72 rfl (lv_at hl 1 rfl) ?_
            refine lv_bipush (v := (7 : Int32)) hx hb d_M_isRight_73 (by decide) ?_
            refine lv_icmp_ne (tgt := 91) hx hb d_M_isRight_75 (by decide) (fun hc => ?_) (fun hc => ?_)
            · have hG := zf hG hc
              refine lv_iload_n hx hb d_M_isRight_91 rfl (lv_at hl 1 rfl) ?_
              refine lv_bipush (v := (24 : Int32)) hx hb d_M_isRight_92 (by decide) ?_
              refine lv_icmp_ne (tgt := 135) hx hb d_M_isRight_94 (by decide) (fun hc => ?_) (fun hc => ?_)
              · have hG := zf hG hc
                refine lv_iload_n hx hb d_M_isRight_135 rfl (lv_at hl 1 rfl) ?_
                refine lv_bipush (v := (6 : Int32)) hx hb d_M_isRight_136 (by decide) ?_
                refine lv_icmp_eq (tgt := 147) hx hb d_M_isRight_138 (by decide) (fun hc => ?_) (fun hc => ?_)
                · have hG := zt hG hc
                  exact k_M_isRight_147 X hA zz N sM _ hG adM adM_tape adM_frameAt adM_field adM_draft adM_given adM_low adM_high adM_packet adM_known _ _ hP hD hS _ (lv_sub hl [0] rfl)
                · have hG := zf hG hc
                  refine lv_iload_n hx hb d_M_isRight_141 rfl (lv_at hl 1 rfl) ?_
                  refine lv_bipush (v := (8 : Int32)) hx hb d_M_isRight_142 (by decide) ?_
                  refine lv_icmp_ne (tgt := 166) hx hb d_M_isRight_144 (by decide) (fun hc => ?_) (fun hc => ?_)
                  · have hG := zf hG hc
                    exact k_M_isRight_166 X hA zz N sM _ hG adM adM_tape adM_frameAt adM_field adM_draft adM_given adM_low adM_high adM_packet adM_known _ _ hP hD hS _ (lv_sub hl [] rfl)
                  · have hG := zt hG hc
                    exact k_M_isRight_147 X hA zz N sM _ hG adM adM_tape adM_frameAt adM_field adM_draft adM_given adM_low adM_high adM_packet adM_known _ _ hP hD hS _ (lv_sub hl [0] rfl)
              · have hG := zt hG hc
                refine lv_aload_n hx hb d_M_isRight_97 rfl (lv_at hl 0 rfl) ?_
                refine va_get (D := (dC, dI)) (ci := 8) (v := .ref adM_field) (C := R_M) (T := F_M) (N := 26) hx hb hts zi_M hown zz.1 hP 0 rfl rfl 8 (by decide) (hts (.fieldLink R_M 22 "WireCodecModel" "field" "[J") zin_M_22) (fun _ h9 => h9) rfl d_M_isRight_98 ?_
                refine lv_iconst (v := (1 : Int32)) hx hb d_M_isRight_101 (by decide) ?_
                obtain ⟨hin, hG⟩ := zgd hG
                refine va_lald hx hb zz.1 hP 3 2 rfl rfl hin d_M_isRight_102 ?_
                refine lv_aload_n hx hb d_M_isRight_103 rfl (lv_at hl 0 rfl) ?_
                refine va_get (D := (dC, dI)) (ci := 8) (v := .ref adM_field) (C := R_M) (T := F_M) (N := 26) hx hb hts zi_M hown zz.1 hP 0 rfl rfl 8 (by decide) (hts (.fieldLink R_M 22 "WireCodecModel" "field" "[J") zin_M_22) (fun _ h9 => h9) rfl d_M_isRight_104 ?_
                refine lv_iconst (v := (0 : Int32)) hx hb d_M_isRight_107 (by decide) ?_
                obtain ⟨hin, hG⟩ := zgd hG
                refine va_lald hx hb zz.1 hP 3 2 rfl rfl hin d_M_isRight_108 ?_
                refine W.lcmp hx hb d_M_isRight_109 ?_
                refine lv_if_gt (tgt := 133) hx hb d_M_isRight_110 (by decide) (fun hc => ?_) (fun hc => ?_)
                · have hG := zt hG hc
                  exact k_M_isRight_133 X hA zz N sM _ hG adM adM_tape adM_frameAt adM_field adM_draft adM_given adM_low adM_high adM_packet adM_known _ _ hP hD hS _ (lv_sub hl [] rfl)
                · have hG := zf hG hc
                  refine lv_aload_n hx hb d_M_isRight_113 rfl (lv_at hl 0 rfl) ?_
                  refine va_get (D := (dC, dI)) (ci := 8) (v := .int (zM_dataSize sM)) (C := R_M) (T := F_M) (N := 26) hx hb hts zi_M hown zz.1 hP 0 rfl rfl 10 (by decide) (hts (.fieldLink R_M 147 "WireCodecModel" "dataSize" "I") zin_M_147) (fun _ h9 => h9) rfl d_M_isRight_114 ?_
                  refine lv_if_le (tgt := 133) hx hb d_M_isRight_117 (by decide) (fun hc => ?_) (fun hc => ?_)
                  · have hG := zt hG hc
                    exact k_M_isRight_133 X hA zz N sM _ hG adM adM_tape adM_frameAt adM_field adM_draft adM_given adM_low adM_high adM_packet adM_known _ _ hP hD hS _ (lv_sub hl [] rfl)
                  · have hG := zf hG hc
                    refine lv_aload_n hx hb d_M_isRight_120 rfl (lv_at hl 0 rfl) ?_
                    refine va_get (D := (dC, dI)) (ci := 8) (v := .int (zM_dataSize sM)) (C := R_M) (T := F_M) (N := 26) hx hb hts zi_M hown zz.1 hP 0 rfl rfl 10 (by decide) (hts (.fieldLink R_M 147 "WireCodecModel" "dataSize" "I") zin_M_147) (fun _ h9 => h9) rfl d_M_isRight_121 ?_
                    refine lv_bipush (v := (20 : Int32)) hx hb d_M_isRight_124 (by decide) ?_
                    refine lv_icmp_gt (tgt := 133) hx hb d_M_isRight_126 (by decide) (fun hc => ?_) (fun hc => ?_)
                    · have hG := zt hG hc
                      exact k_M_isRight_133 X hA zz N sM _ hG adM adM_tape adM_frameAt adM_field adM_draft adM_given adM_low adM_high adM_packet adM_known _ _ hP hD hS _ (lv_sub hl [] rfl)
                    · have hG := zf hG hc
                      refine lv_iconst (v := (1 : Int32)) hx hb d_M_isRight_129 (by decide) ?_
                      refine lv_goto (tgt := 134) hx hb d_M_isRight_130 (by decide) ?_
                      exact k_M_isRight_134 X hA zz N sM (1 : Int32) _ hG adM adM_tape adM_frameAt adM_field adM_draft adM_given adM_low adM_high adM_packet adM_known _ _ hP hD hS _ (lv_sub hl [] rfl)
            · have hG := zt hG hc
              refine lv_aload_n hx hb d_M_isRight_78 rfl (lv_at hl 0 rfl) ?_
              refine va_get (D := (dC, dI)) (ci := 8) (v := .int (zM_dataSize sM)) (C := R_M) (T := F_M) (N := 26) hx hb hts zi_M hown zz.1 hP 0 rfl rfl 10 (by decide) (hts (.fieldLink R_M 147 "WireCodecModel" "dataSize" "I") zin_M_147) (fun _ h9 => h9) rfl d_M_isRight_79 ?_
              refine lv_if_le (tgt := 89) hx hb d_M_isRight_82 (by decide) (fun hc => ?_) (fun hc => ?_)
              · have hG := zt hG hc
                refine lv_iconst (v := (0 : Int32)) hx hb d_M_isRight_89 (by decide) ?_
                exact k_M_isRight_90 X hA zz N sM (0 : Int32) _ hG adM adM_tape adM_frameAt adM_field adM_draft adM_given adM_low adM_high adM_packet adM_known _ _ hP hD hS _ (lv_sub hl [] rfl)
              · have hG := zf hG hc
                refine lv_iconst (v := (1 : Int32)) hx hb d_M_isRight_85 (by decide) ?_
                refine lv_goto (tgt := 90) hx hb d_M_isRight_86 (by decide) ?_
                exact k_M_isRight_90 X hA zz N sM (1 : Int32) _ hG adM adM_tape adM_frameAt adM_field adM_draft adM_given adM_low adM_high adM_packet adM_known _ _ hP hD hS _ (lv_sub hl [] rfl)
          · have hG := zt hG hc
            exact k_M_isRight_53 X hA zz N sM _ hG adM adM_tape adM_frameAt adM_field adM_draft adM_given adM_low adM_high adM_packet adM_known _ _ hP hD hS _ (lv_sub hl [0] rfl)
  · have hG := zf hG hc
    refine lv_aload_n hx hb d_M_isRight_7 rfl (lv_at hl 0 rfl) ?_
    refine lv_aload_n hx hb d_M_isRight_8 rfl (lv_at hl 0 rfl) ?_
    refine va_get (D := (dC, dI)) (ci := 8) (v := .int (zM_ranges sM)) (C := R_M) (T := F_M) (N := 26) hx hb hts zi_M hown zz.1 hP 0 rfl rfl 12 (by decide) (hts (.fieldLink R_M 153 "WireCodecModel" "ranges" "I") zin_M_153) (fun _ h9 => h9) rfl d_M_isRight_9 ?_
    refine lv_iconst (v := (1 : Int32)) hx hb d_M_isRight_12 (by decide) ?_
    refine lv_isub hx hb d_M_isRight_13 ?_
    refine lv_iconst (v := (0 : Int32)) hx hb d_M_isRight_14 (by decide) ?_
    obtain ⟨a_15, hx_15, hG⟩ := zb hG
    have hr_15 := zrunV (p := p) (e := e) (below := below) (meth := meth) (As := [.int ((zM_ranges sM) - (1 : Int32)), .int (0 : Int32)]) (rest := []) (st0 := [.int (0 : Int32), .int ((zM_ranges sM) - (1 : Int32)), .ref adM]) (cells := 0) (slots := 0) X zz hP hD hS hA [0, 1, 2, 3, 4, 5, 6, 7, 8, 9] (by decide) rfl (c_M_edge l dC dI cB cI cL H.size adM adM_tape adM_frameAt adM_field adM_draft adM_given adM_low adM_high adM_packet adM_known N sM ((zM_ranges sM) - (1 : Int32)) (0 : Int32) _ hx_15) zy_M_edge zv_M_edge (hts (.methodLink R_M 184 y_M_edge) zin_M_184) hl rfl rfl d_M_isRight_15 (lv_room (Nat.le_of_ble_eq_true rfl)) rfl rfl ⟨Nat.le_trans (Nat.le_of_ble_eq_true rfl) hRf, Nat.le_trans (Nat.le_of_ble_eq_true rfl) hRl⟩ ⟨Nat.zero_le _, Nat.zero_le _⟩ 0 8 rfl rfl
    refine zcalll (wr := ([] : va_W)) hr_15 hP hD hS hA [0, 1, 2, 3, 4, 5, 6, 7, 8, 9] [] rfl rfl (by decide) (by decide) (fun r_15 u_15 H locs hw_15 hP hD hS => ?_)
    obtain ⟨sM_15, rfl⟩ : ∃ z, z = u_15 := ⟨_, rfl⟩
    subst hw_15
    have hP : va_P (dC, dI) zcl (zwM adM adM_tape adM_frameAt adM_field adM_draft adM_given adM_low adM_high adM_packet adM_known cB cI cL sM_15) H := hP
    have hD : va_D A (zwM adM adM_tape adM_frameAt adM_field adM_draft adM_given adM_low adM_high adM_packet adM_known cB cI cL sM_15) := hD
    have hG : g_M_isRight_c15 N sM_15 r_15 = some a := hG
    unfold g_M_isRight_c15 at hG
    refine lv_lconst (v := (0 : Int64)) hx hb d_M_isRight_18 (by decide) ?_
    refine W.lcmp hx hb d_M_isRight_19 ?_
    refine lv_if_lt (tgt := 27) hx hb d_M_isRight_20 (by decide) (fun hc => ?_) (fun hc => ?_)
    · have hG := zt hG hc
      refine lv_iconst (v := (0 : Int32)) hx hb d_M_isRight_27 (by decide) ?_
      exact k_M_isRight_28 X hA zz N sM_15 (0 : Int32) _ hG adM adM_tape adM_frameAt adM_field adM_draft adM_given adM_low adM_high adM_packet adM_known _ _ hP hD hS _ (lv_sub hl [] rfl)
    · have hG := zf hG hc
      refine lv_iconst (v := (1 : Int32)) hx hb d_M_isRight_23 (by decide) ?_
      refine lv_goto (tgt := 28) hx hb d_M_isRight_24 (by decide) ?_
      exact k_M_isRight_28 X hA zz N sM_15 (1 : Int32) _ hG adM adM_tape adM_frameAt adM_field adM_draft adM_given adM_low adM_high adM_packet adM_known _ _ hP hD hS _ (lv_sub hl [] rfl)
set_option maxRecDepth 100000 in
set_option maxHeartbeats 4000000 in
theorem c_M_isRight (l : Launch) (dC : Nat → ClassId) (dI : Nat → Nat → Nat) (cB cI cL : ClassId) (sz : Nat) (adM adM_tape adM_frameAt adM_field adM_draft adM_given adM_low adM_high adM_packet adM_known : Nat) (N : Nat) (sM : zM) (v1 : Int32) (a : Int32 × zM) (hG : g_M_isRight N sM v1 = some a) : Met l y_M_isRight (zw y_M_isRight b_M_isRight 2 (some .boolean)) ({ frames := 4, cells := 0, slots := 0, locals := 97 }) (va_Pc [.ref adM, .int v1] (zpre dC dI cB cI cL sz (zwM adM adM_tape adM_frameAt adM_field adM_draft adM_given adM_low adM_high adM_packet adM_known cB cI cL sM))) (q_M_isRight dC dI cB cI cL (va_A (zwM adM adM_tape adM_frameAt adM_field adM_draft adM_given adM_low adM_high adM_packet adM_known cB cI cL sM) sz) adM adM_tape adM_frameAt adM_field adM_draft adM_given adM_low adM_high adM_packet adM_known a) 0 0 (va_A (zwM adM adM_tape adM_frameAt adM_field adM_draft adM_given adM_low adM_high adM_packet adM_known cB cI cL sM) sz) := by
  refine Met.ofW (cc := b_M_isRight) (maxL := 2) (ret := (some .boolean)) (by decide) rfl ?_
  intro p e s m args below meth c s₁ B hml hv
  obtain ⟨rfl, hsz, hP, zz, hD0⟩ := hv
  subst hsz
  have X := zx_of (F := 4) (L := 97) B hml (Nat.le_refl _) (Nat.le_refl _)
  have hD := hD0.self (sz := s.heap.size)
  have hA : ∀ q : Nat, s.heap.size ≤ q → va_A (zwM adM adM_tape adM_frameAt adM_field adM_draft adM_given adM_low adM_high adM_packet adM_known cB cI cL sM) s.heap.size q := fun q h => Or.inr h
  have hl := lv_entry ([.ref adM, .int v1]) (n := 2) (Nat.le_of_ble_eq_true rfl)
  rw [lg_entry_eq]
  generalize (lg_sl ([.ref adM, .int v1]) ++ List.replicate (2 - (lg_sl ([.ref adM, .int v1])).length) Slot.unset).toArray = ls at hl ⊢
  exact k_M_isRight_0 X hA zz N sM v1 a hG adM adM_tape adM_frameAt adM_field adM_draft adM_given adM_low adM_high adM_packet adM_known _ _ hP hD va_S.rf ls hl
noncomputable def g_M_tell_w15 (sM_15 : zM) : Option (zM) := some (sM_15)
noncomputable def g_M_tell_15 (sM : zM) (s0 : Int32) : Option (zM) := g_M_tell_w15 (zM_faultAt' sM s0)
noncomputable def g_M_tell_w2 (v1 : Int32) (v2 : Int32) (sM_2 : zM) : Option (zM) := if v1 = (0 : Int32) then (g_M_tell_15 sM_2 (-1 : Int32)) else (g_M_tell_15 sM_2 v2)
noncomputable def g_M_tell (sM : zM) (v1 : Int32) (v2 : Int32) : Option (zM) := g_M_tell_w2 v1 v2 (zM_fault' sM v1)
def q_M_tell (dC : Nat → ClassId) (dI : Nat → Nat → Nat) (cB cI cL : ClassId) (A : Nat → Prop) (adM : Nat) (adM_tape : Nat) (adM_frameAt : Nat) (adM_field : Nat) (adM_draft : Nat) (adM_given : Nat) (adM_low : Nat) (adM_high : Nat) (adM_packet : Nat) (adM_known : Nat) (a : zM) : Array Value → State → Outcome → State → Prop := va_Qv (fun (u : zM) => (u) = a) (fun u U => va_P (dC, dI) zcl (zwM adM adM_tape adM_frameAt adM_field adM_draft adM_given adM_low adM_high adM_packet adM_known cB cI cL u) U.heap ∧ va_D A (zwM adM adM_tape adM_frameAt adM_field adM_draft adM_given adM_low adM_high adM_packet adM_known cB cI cL u)) A
set_option maxRecDepth 100000 in
set_option maxHeartbeats 4000000 in
theorem k_M_tell_15 {p : Program} {l : Launch} {e : Env} {R : Room} {s : State} {m : MethodId} {args : Array Value} {below : List Frame} {meth : Method} {c : Code} {dC : Nat → ClassId} {dI : Nat → Nat → Nat} {cB cI cL : ClassId} {A : Nat → Prop} (X : zx p s m args meth c R R_M b_M_tell none 3 0 0) (hA : ∀ q, s.heap.size ≤ q → A q) (zz : zk dC dI cB cI cL A s)  (sM : zM) (s0 : Int32) (a : zM) (hG : g_M_tell_15 sM s0 = some a) (adM adM_tape adM_frameAt adM_field adM_draft adM_given adM_low adM_high adM_packet adM_known : Nat) (H : Heap) (locs : List Loc) (hP : va_P (dC, dI) zcl (zwM adM adM_tape adM_frameAt adM_field adM_draft adM_given adM_low adM_high adM_packet adM_known cB cI cL sM) H) (hD : va_D A (zwM adM adM_tape adM_frameAt adM_field adM_draft adM_given adM_low adM_high adM_packet adM_known cB cI cL sM)) (hS : va_S A s.heap H locs) (ls : Array Slot) (hl : lv_has ls 3 []) : W p l e R s m args below meth c H locs 0 0 (MQ below (q_M_tell dC dI cB cI cL A adM adM_tape adM_frameAt adM_field adM_draft adM_given adM_low adM_high adM_packet adM_known a) args s 0 0 A) (F0 m 15 ls [.int s0, .ref adM]) := by
  obtain ⟨hx, hb, hr, hml, hown, hts, hlocks, hRf, hRl⟩ := id X
  unfold g_M_tell_15 at hG
  refine va_put (D := (dC, dI)) (ci := 8) (v := .int s0) (ty := .int) (C := R_M) (T := F_M) (N := 26) hx hb hts zi_M zty_M zty_M_ok znm_M hown zz.1 hP hD hS 0 rfl rfl 4 (by decide) (hts (.fieldLink R_M 14 "WireCodecModel" "faultAt" "I") zin_M_14) (fun _ h9 => h9) rfl (by decide +kernel) rfl rfl (Nat.le_of_ble_eq_true rfl) d_M_tell_15 (fun H locs hP hD hS => ?_)
  have hP := zp_M_faultAt hP
  have hD := zd_M_faultAt hD
  have hG : g_M_tell_w15 (zM_faultAt' sM s0) = some a := hG
  generalize zM_faultAt' sM s0 = sM_15 at hP hD hG
  unfold g_M_tell_w15 at hG
  exact W.vret hx hb hr (fun t9 ht9 hW9 => ⟨⟨(sM_15), rfl, Option.some.inj hG, by rw [ht9]; exact hP, hD⟩, hS.F ht9⟩) hS.2.2 d_M_tell_18
set_option maxRecDepth 100000 in
set_option maxHeartbeats 4000000 in
theorem k_M_tell_0 {p : Program} {l : Launch} {e : Env} {R : Room} {s : State} {m : MethodId} {args : Array Value} {below : List Frame} {meth : Method} {c : Code} {dC : Nat → ClassId} {dI : Nat → Nat → Nat} {cB cI cL : ClassId} {A : Nat → Prop} (X : zx p s m args meth c R R_M b_M_tell none 3 0 0) (hA : ∀ q, s.heap.size ≤ q → A q) (zz : zk dC dI cB cI cL A s)  (sM : zM) (v1 : Int32) (v2 : Int32) (a : zM) (hG : g_M_tell sM v1 v2 = some a) (adM adM_tape adM_frameAt adM_field adM_draft adM_given adM_low adM_high adM_packet adM_known : Nat) (H : Heap) (locs : List Loc) (hP : va_P (dC, dI) zcl (zwM adM adM_tape adM_frameAt adM_field adM_draft adM_given adM_low adM_high adM_packet adM_known cB cI cL sM) H) (hD : va_D A (zwM adM adM_tape adM_frameAt adM_field adM_draft adM_given adM_low adM_high adM_packet adM_known cB cI cL sM)) (hS : va_S A s.heap H locs) (ls : Array Slot) (hl : lv_has ls 3 [(0, .ref adM), (1, .int v1), (2, .int v2)]) : W p l e R s m args below meth c H locs 0 0 (MQ below (q_M_tell dC dI cB cI cL A adM adM_tape adM_frameAt adM_field adM_draft adM_given adM_low adM_high adM_packet adM_known a) args s 0 0 A) (F0 m 0 ls []) := by
  obtain ⟨hx, hb, hr, hml, hown, hts, hlocks, hRf, hRl⟩ := id X
  unfold g_M_tell at hG
  refine lv_aload_n hx hb d_M_tell_0 rfl (lv_at hl 0 rfl) ?_
  refine lv_iload_n hx hb d_M_tell_1 rfl (lv_at hl 1 rfl) ?_
  refine va_put (D := (dC, dI)) (ci := 8) (v := .int v1) (ty := .int) (C := R_M) (T := F_M) (N := 26) hx hb hts zi_M zty_M zty_M_ok znm_M hown zz.1 hP hD hS 0 rfl rfl 3 (by decide) (hts (.fieldLink R_M 91 "WireCodecModel" "fault" "I") zin_M_91) (fun _ h9 => h9) rfl (by decide +kernel) rfl rfl (Nat.le_of_ble_eq_true rfl) d_M_tell_2 (fun H locs hP hD hS => ?_)
  have hP := zp_M_fault hP
  have hD := zd_M_fault hD
  have hG : g_M_tell_w2 v1 v2 (zM_fault' sM v1) = some a := hG
  generalize zM_fault' sM v1 = sM_2 at hP hD hG
  unfold g_M_tell_w2 at hG
  refine lv_aload_n hx hb d_M_tell_5 rfl (lv_at hl 0 rfl) ?_
  refine lv_iload_n hx hb d_M_tell_6 rfl (lv_at hl 1 rfl) ?_
  refine lv_if_ne (tgt := 14) hx hb d_M_tell_7 (by decide) (fun hc => ?_) (fun hc => ?_)
  · have hG := zf hG hc
    refine lv_iload_n hx hb d_M_tell_14 rfl (lv_at hl 2 rfl) ?_
    exact k_M_tell_15 X hA zz sM_2 v2 _ hG adM adM_tape adM_frameAt adM_field adM_draft adM_given adM_low adM_high adM_packet adM_known _ _ hP hD hS _ (lv_sub hl [] rfl)
  · have hG := zt hG hc
    refine lv_iconst (v := (-1 : Int32)) hx hb d_M_tell_10 (by decide) ?_
    refine lv_goto (tgt := 15) hx hb d_M_tell_11 (by decide) ?_
    exact k_M_tell_15 X hA zz sM_2 (-1 : Int32) _ hG adM adM_tape adM_frameAt adM_field adM_draft adM_given adM_low adM_high adM_packet adM_known _ _ hP hD hS _ (lv_sub hl [] rfl)
set_option maxRecDepth 100000 in
set_option maxHeartbeats 4000000 in
theorem c_M_tell (l : Launch) (dC : Nat → ClassId) (dI : Nat → Nat → Nat) (cB cI cL : ClassId) (sz : Nat) (adM adM_tape adM_frameAt adM_field adM_draft adM_given adM_low adM_high adM_packet adM_known : Nat) (sM : zM) (v1 : Int32) (v2 : Int32) (a : zM) (hG : g_M_tell sM v1 v2 = some a) : Met l y_M_tell (zw y_M_tell b_M_tell 3 none) ({ frames := 0, cells := 0, slots := 0, locals := 0 }) (va_Pc [.ref adM, .int v1, .int v2] (zpre dC dI cB cI cL sz (zwM adM adM_tape adM_frameAt adM_field adM_draft adM_given adM_low adM_high adM_packet adM_known cB cI cL sM))) (q_M_tell dC dI cB cI cL (va_A (zwM adM adM_tape adM_frameAt adM_field adM_draft adM_given adM_low adM_high adM_packet adM_known cB cI cL sM) sz) adM adM_tape adM_frameAt adM_field adM_draft adM_given adM_low adM_high adM_packet adM_known a) 0 0 (va_A (zwM adM adM_tape adM_frameAt adM_field adM_draft adM_given adM_low adM_high adM_packet adM_known cB cI cL sM) sz) := by
  refine Met.ofW (cc := b_M_tell) (maxL := 3) (ret := none) (by decide) rfl ?_
  intro p e s m args below meth c s₁ B hml hv
  obtain ⟨rfl, hsz, hP, zz, hD0⟩ := hv
  subst hsz
  have X := zx_of (F := 0) (L := 0) B hml (Nat.le_refl _) (Nat.le_refl _)
  have hD := hD0.self (sz := s.heap.size)
  have hA : ∀ q : Nat, s.heap.size ≤ q → va_A (zwM adM adM_tape adM_frameAt adM_field adM_draft adM_given adM_low adM_high adM_packet adM_known cB cI cL sM) s.heap.size q := fun q h => Or.inr h
  have hl := lv_entry ([.ref adM, .int v1, .int v2]) (n := 3) (Nat.le_of_ble_eq_true rfl)
  rw [lg_entry_eq]
  generalize (lg_sl ([.ref adM, .int v1, .int v2]) ++ List.replicate (3 - (lg_sl ([.ref adM, .int v1, .int v2])).length) Slot.unset).toArray = ls at hl ⊢
  exact k_M_tell_0 X hA zz sM v1 v2 a hG adM adM_tape adM_frameAt adM_field adM_draft adM_given adM_low adM_high adM_packet adM_known _ _ hP hD va_S.rf ls hl
noncomputable def g_M_fault_20 (sM : zM) (s0 : Int32) : Option (Int32 × zM) := some (s0, sM)
noncomputable def g_M_fault_w2 (v1 : Int32) (sM_2 : zM) : Option (Int32 × zM) := if v1 = (0 : Int32) then (g_M_fault_20 sM_2 (zM_fault sM_2)) else (g_M_fault_20 sM_2 (zM_faultAt sM_2))
noncomputable def g_M_fault (sM : zM) (v1 : Int32) : Option (Int32 × zM) := g_M_fault_w2 v1 (zM_thrown' sM (0 : Int32))
def q_M_fault (dC : Nat → ClassId) (dI : Nat → Nat → Nat) (cB cI cL : ClassId) (A : Nat → Prop) (adM : Nat) (adM_tape : Nat) (adM_frameAt : Nat) (adM_field : Nat) (adM_draft : Nat) (adM_given : Nat) (adM_low : Nat) (adM_high : Nat) (adM_packet : Nat) (adM_known : Nat) (a : Int32 × zM) : Array Value → State → Outcome → State → Prop := va_Qi (fun (r : Int32) (u : zM) => (r, u) = a) (fun u U => va_P (dC, dI) zcl (zwM adM adM_tape adM_frameAt adM_field adM_draft adM_given adM_low adM_high adM_packet adM_known cB cI cL u) U.heap ∧ va_D A (zwM adM adM_tape adM_frameAt adM_field adM_draft adM_given adM_low adM_high adM_packet adM_known cB cI cL u)) A
set_option maxRecDepth 100000 in
set_option maxHeartbeats 4000000 in
theorem k_M_fault_20 {p : Program} {l : Launch} {e : Env} {R : Room} {s : State} {m : MethodId} {args : Array Value} {below : List Frame} {meth : Method} {c : Code} {dC : Nat → ClassId} {dI : Nat → Nat → Nat} {cB cI cL : ClassId} {A : Nat → Prop} (X : zx p s m args meth c R R_M b_M_fault (some .int) 2 0 0) (hA : ∀ q, s.heap.size ≤ q → A q) (zz : zk dC dI cB cI cL A s)  (sM : zM) (s0 : Int32) (a : Int32 × zM) (hG : g_M_fault_20 sM s0 = some a) (adM adM_tape adM_frameAt adM_field adM_draft adM_given adM_low adM_high adM_packet adM_known : Nat) (H : Heap) (locs : List Loc) (hP : va_P (dC, dI) zcl (zwM adM adM_tape adM_frameAt adM_field adM_draft adM_given adM_low adM_high adM_packet adM_known cB cI cL sM) H) (hD : va_D A (zwM adM adM_tape adM_frameAt adM_field adM_draft adM_given adM_low adM_high adM_packet adM_known cB cI cL sM)) (hS : va_S A s.heap H locs) (ls : Array Slot) (hl : lv_has ls 2 []) : W p l e R s m args below meth c H locs 0 0 (MQ below (q_M_fault dC dI cB cI cL A adM adM_tape adM_frameAt adM_field adM_draft adM_given adM_low adM_high adM_packet adM_known a) args s 0 0 A) (F0 m 20 ls [.int s0]) := by
  obtain ⟨hx, hb, hr, hml, hown, hts, hlocks, hRf, hRl⟩ := id X
  unfold g_M_fault_20 at hG
  exact W.iret (v := s0) hx hb hr (fun t9 ht9 hW9 => ⟨⟨s0, (sM), rfl, Option.some.inj hG, by rw [ht9]; exact hP, hD⟩, hS.F ht9⟩) hS.2.2 d_M_fault_20
set_option maxRecDepth 100000 in
set_option maxHeartbeats 4000000 in
theorem k_M_fault_0 {p : Program} {l : Launch} {e : Env} {R : Room} {s : State} {m : MethodId} {args : Array Value} {below : List Frame} {meth : Method} {c : Code} {dC : Nat → ClassId} {dI : Nat → Nat → Nat} {cB cI cL : ClassId} {A : Nat → Prop} (X : zx p s m args meth c R R_M b_M_fault (some .int) 2 0 0) (hA : ∀ q, s.heap.size ≤ q → A q) (zz : zk dC dI cB cI cL A s)  (sM : zM) (v1 : Int32) (a : Int32 × zM) (hG : g_M_fault sM v1 = some a) (adM adM_tape adM_frameAt adM_field adM_draft adM_given adM_low adM_high adM_packet adM_known : Nat) (H : Heap) (locs : List Loc) (hP : va_P (dC, dI) zcl (zwM adM adM_tape adM_frameAt adM_field adM_draft adM_given adM_low adM_high adM_packet adM_known cB cI cL sM) H) (hD : va_D A (zwM adM adM_tape adM_frameAt adM_field adM_draft adM_given adM_low adM_high adM_packet adM_known cB cI cL sM)) (hS : va_S A s.heap H locs) (ls : Array Slot) (hl : lv_has ls 2 [(0, .ref adM), (1, .int v1)]) : W p l e R s m args below meth c H locs 0 0 (MQ below (q_M_fault dC dI cB cI cL A adM adM_tape adM_frameAt adM_field adM_draft adM_given adM_low adM_high adM_packet adM_known a) args s 0 0 A) (F0 m 0 ls []) := by
  obtain ⟨hx, hb, hr, hml, hown, hts, hlocks, hRf, hRl⟩ := id X
  unfold g_M_fault at hG
  refine lv_aload_n hx hb d_M_fault_0 rfl (lv_at hl 0 rfl) ?_
  refine lv_iconst (v := (0 : Int32)) hx hb d_M_fault_1 (by decide) ?_
  refine va_put (D := (dC, dI)) (ci := 8) (v := .int (0 : Int32)) (ty := .int) (C := R_M) (T := F_M) (N := 26) hx hb hts zi_M zty_M zty_M_ok znm_M hown zz.1 hP hD hS 0 rfl rfl 0 (by decide) (hts (.fieldLink R_M 48 "WireCodecModel" "thrown" "I") zin_M_48) (fun _ h9 => h9) rfl (by decide +kernel) rfl rfl (Nat.le_of_ble_eq_true rfl) d_M_fault_2 (fun H locs hP hD hS => ?_)
  have hP := zp_M_thrown hP
  have hD := zd_M_thrown hD
  have hG : g_M_fault_w2 v1 (zM_thrown' sM (0 : Int32)) = some a := hG
  generalize zM_thrown' sM (0 : Int32) = sM_2 at hP hD hG
  unfold g_M_fault_w2 at hG
  refine lv_iload_n hx hb d_M_fault_5 rfl (lv_at hl 1 rfl) ?_
  refine lv_if_eq (tgt := 16) hx hb d_M_fault_6 (by decide) (fun hc => ?_) (fun hc => ?_)
  · have hG := zt hG hc
    refine lv_aload_n hx hb d_M_fault_16 rfl (lv_at hl 0 rfl) ?_
    refine va_get (D := (dC, dI)) (ci := 8) (v := .int (zM_fault sM_2)) (C := R_M) (T := F_M) (N := 26) hx hb hts zi_M hown zz.1 hP 0 rfl rfl 3 (by decide) (hts (.fieldLink R_M 91 "WireCodecModel" "fault" "I") zin_M_91) (fun _ h9 => h9) rfl d_M_fault_17 ?_
    exact k_M_fault_20 X hA zz sM_2 (zM_fault sM_2) _ hG adM adM_tape adM_frameAt adM_field adM_draft adM_given adM_low adM_high adM_packet adM_known _ _ hP hD hS _ (lv_sub hl [] rfl)
  · have hG := zf hG hc
    refine lv_aload_n hx hb d_M_fault_9 rfl (lv_at hl 0 rfl) ?_
    refine va_get (D := (dC, dI)) (ci := 8) (v := .int (zM_faultAt sM_2)) (C := R_M) (T := F_M) (N := 26) hx hb hts zi_M hown zz.1 hP 0 rfl rfl 4 (by decide) (hts (.fieldLink R_M 14 "WireCodecModel" "faultAt" "I") zin_M_14) (fun _ h9 => h9) rfl d_M_fault_10 ?_
    refine lv_goto (tgt := 20) hx hb d_M_fault_13 (by decide) ?_
    exact k_M_fault_20 X hA zz sM_2 (zM_faultAt sM_2) _ hG adM adM_tape adM_frameAt adM_field adM_draft adM_given adM_low adM_high adM_packet adM_known _ _ hP hD hS _ (lv_sub hl [] rfl)
set_option maxRecDepth 100000 in
set_option maxHeartbeats 4000000 in
theorem c_M_fault (l : Launch) (dC : Nat → ClassId) (dI : Nat → Nat → Nat) (cB cI cL : ClassId) (sz : Nat) (adM adM_tape adM_frameAt adM_field adM_draft adM_given adM_low adM_high adM_packet adM_known : Nat) (sM : zM) (v1 : Int32) (a : Int32 × zM) (hG : g_M_fault sM v1 = some a) : Met l y_M_fault (zw y_M_fault b_M_fault 2 (some .int)) ({ frames := 0, cells := 0, slots := 0, locals := 0 }) (va_Pc [.ref adM, .int v1] (zpre dC dI cB cI cL sz (zwM adM adM_tape adM_frameAt adM_field adM_draft adM_given adM_low adM_high adM_packet adM_known cB cI cL sM))) (q_M_fault dC dI cB cI cL (va_A (zwM adM adM_tape adM_frameAt adM_field adM_draft adM_given adM_low adM_high adM_packet adM_known cB cI cL sM) sz) adM adM_tape adM_frameAt adM_field adM_draft adM_given adM_low adM_high adM_packet adM_known a) 0 0 (va_A (zwM adM adM_tape adM_frameAt adM_field adM_draft adM_given adM_low adM_high adM_packet adM_known cB cI cL sM) sz) := by
  refine Met.ofW (cc := b_M_fault) (maxL := 2) (ret := (some .int)) (by decide) rfl ?_
  intro p e s m args below meth c s₁ B hml hv
  obtain ⟨rfl, hsz, hP, zz, hD0⟩ := hv
  subst hsz
  have X := zx_of (F := 0) (L := 0) B hml (Nat.le_refl _) (Nat.le_refl _)
  have hD := hD0.self (sz := s.heap.size)
  have hA : ∀ q : Nat, s.heap.size ≤ q → va_A (zwM adM adM_tape adM_frameAt adM_field adM_draft adM_given adM_low adM_high adM_packet adM_known cB cI cL sM) s.heap.size q := fun q h => Or.inr h
  have hl := lv_entry ([.ref adM, .int v1]) (n := 2) (Nat.le_of_ble_eq_true rfl)
  rw [lg_entry_eq]
  generalize (lg_sl ([.ref adM, .int v1]) ++ List.replicate (2 - (lg_sl ([.ref adM, .int v1])).length) Slot.unset).toArray = ls at hl ⊢
  exact k_M_fault_0 X hA zz sM v1 a hG adM adM_tape adM_frameAt adM_field adM_draft adM_given adM_low adM_high adM_packet adM_known _ _ hP hD va_S.rf ls hl
noncomputable def g_M_draft_w33 (sM_33 : zM) : Option (zM) := some (sM_33)
noncomputable def g_M_draft_w28 (sM_28 : zM) : Option (zM) := g_M_draft_w33 (zM_spans' sM_28 (0 : Int32))
noncomputable def g_M_draft_w19 (kr : zM → Int32 → Option (zM)) (v1 : Int32) (sM_19 : zM) : Option (zM) := kr sM_19 (v1 + 1)
noncomputable def g_M_draft_7_b (N : Nat) (kr : zM → Int32 → Option (zM)) (sM : zM) (v1 : Int32) : Option (zM) := if (12 : Int32) ≤ v1 then (g_M_draft_w28 (zM_gives' sM (0 : Int32))) else (zg (vp_in v1 12) (g_M_draft_w19 kr v1 (zM_draft' sM (vp_updL (zM_draft sM) v1.toNatClampNeg (0 : Int64)))))
noncomputable def g_M_draft_7 (N : Nat) : Nat → zM → Int32 → Option (zM)
  | 0 => fun _ _ => none
  | k + 1 => fun sM v1 => g_M_draft_7_b N (g_M_draft_7 N k) sM v1
noncomputable def g_M_draft_w2 (N : Nat) (sM_2 : zM) : Option (zM) := g_M_draft_7 N N sM_2 (0 : Int32)
noncomputable def g_M_draft (N : Nat) (sM : zM) : Option (zM) := g_M_draft_w2 N (zM_thrown' sM (0 : Int32))
def q_M_draft (dC : Nat → ClassId) (dI : Nat → Nat → Nat) (cB cI cL : ClassId) (A : Nat → Prop) (adM : Nat) (adM_tape : Nat) (adM_frameAt : Nat) (adM_field : Nat) (adM_draft : Nat) (adM_given : Nat) (adM_low : Nat) (adM_high : Nat) (adM_packet : Nat) (adM_known : Nat) (a : zM) : Array Value → State → Outcome → State → Prop := va_Qv (fun (u : zM) => (u) = a) (fun u U => va_P (dC, dI) zcl (zwM adM adM_tape adM_frameAt adM_field adM_draft adM_given adM_low adM_high adM_packet adM_known cB cI cL u) U.heap ∧ va_D A (zwM adM adM_tape adM_frameAt adM_field adM_draft adM_given adM_low adM_high adM_packet adM_known cB cI cL u)) A
set_option maxRecDepth 100000 in
set_option maxHeartbeats 4000000 in
theorem k_M_draft_7_b {p : Program} {l : Launch} {e : Env} {R : Room} {s : State} {m : MethodId} {args : Array Value} {below : List Frame} {meth : Method} {c : Code} {dC : Nat → ClassId} {dI : Nat → Nat → Nat} {cB cI cL : ClassId} {A : Nat → Prop} (kr : zM → Int32 → Option (zM)) (hrec : ∀ (sM : zM) (v1 : Int32) (a : zM), kr sM v1 = some a → ∀ (adM adM_tape adM_frameAt adM_field adM_draft adM_given adM_low adM_high adM_packet adM_known : Nat) (H : Heap) (locs : List Loc), va_P (dC, dI) zcl (zwM adM adM_tape adM_frameAt adM_field adM_draft adM_given adM_low adM_high adM_packet adM_known cB cI cL sM) H → va_D A (zwM adM adM_tape adM_frameAt adM_field adM_draft adM_given adM_low adM_high adM_packet adM_known cB cI cL sM) → va_S A s.heap H locs → ∀ ls : Array Slot, lv_has ls 2 [(0, .ref adM), (1, .int v1)] → W p l e R s m args below meth c H locs 0 0 (MQ below (q_M_draft dC dI cB cI cL A adM adM_tape adM_frameAt adM_field adM_draft adM_given adM_low adM_high adM_packet adM_known a) args s 0 0 A) (F0 m 7 ls [])) (X : zx p s m args meth c R R_M b_M_draft none 2 0 0) (hA : ∀ q, s.heap.size ≤ q → A q) (zz : zk dC dI cB cI cL A s)  (N : Nat) (sM : zM) (v1 : Int32) (a : zM) (hG : g_M_draft_7_b N kr sM v1 = some a) (adM adM_tape adM_frameAt adM_field adM_draft adM_given adM_low adM_high adM_packet adM_known : Nat) (H : Heap) (locs : List Loc) (hP : va_P (dC, dI) zcl (zwM adM adM_tape adM_frameAt adM_field adM_draft adM_given adM_low adM_high adM_packet adM_known cB cI cL sM) H) (hD : va_D A (zwM adM adM_tape adM_frameAt adM_field adM_draft adM_given adM_low adM_high adM_packet adM_known cB cI cL sM)) (hS : va_S A s.heap H locs) (ls : Array Slot) (hl : lv_has ls 2 [(0, .ref adM), (1, .int v1)]) : W p l e R s m args below meth c H locs 0 0 (MQ below (q_M_draft dC dI cB cI cL A adM adM_tape adM_frameAt adM_field adM_draft adM_given adM_low adM_high adM_packet adM_known a) args s 0 0 A) (F0 m 7 ls []) := by
  obtain ⟨hx, hb, hr, hml, hown, hts, hlocks, hRf, hRl⟩ := id X
  unfold g_M_draft_7_b at hG
  refine lv_iload_n hx hb d_M_draft_7 rfl (lv_at hl 1 rfl) ?_
  refine lv_bipush (v := (12 : Int32)) hx hb d_M_draft_8 (by decide) ?_
  refine lv_icmp_ge (tgt := 26) hx hb d_M_draft_10 (by decide) (fun hc => ?_) (fun hc => ?_)
  · have hG := zt hG hc
    refine lv_aload_n hx hb d_M_draft_26 rfl (lv_at hl 0 rfl) ?_
    refine lv_iconst (v := (0 : Int32)) hx hb d_M_draft_27 (by decide) ?_
    refine va_put (D := (dC, dI)) (ci := 8) (v := .int (0 : Int32)) (ty := .int) (C := R_M) (T := F_M) (N := 26) hx hb hts zi_M zty_M zty_M_ok znm_M hown zz.1 hP hD hS 0 rfl rfl 19 (by decide) (hts (.fieldLink R_M 211 "WireCodecModel" "gives" "I") zin_M_211) (fun _ h9 => h9) rfl (by decide +kernel) rfl rfl (Nat.le_of_ble_eq_true rfl) d_M_draft_28 (fun H locs hP hD hS => ?_)
    have hP := zp_M_gives hP
    have hD := zd_M_gives hD
    have hG : g_M_draft_w28 (zM_gives' sM (0 : Int32)) = some a := hG
    generalize zM_gives' sM (0 : Int32) = sM_28 at hP hD hG
    unfold g_M_draft_w28 at hG
    refine lv_aload_n hx hb d_M_draft_31 rfl (lv_at hl 0 rfl) ?_
    refine lv_iconst (v := (0 : Int32)) hx hb d_M_draft_32 (by decide) ?_
    refine va_put (D := (dC, dI)) (ci := 8) (v := .int (0 : Int32)) (ty := .int) (C := R_M) (T := F_M) (N := 26) hx hb hts zi_M zty_M zty_M_ok znm_M hown zz.1 hP hD hS 0 rfl rfl 22 (by decide) (hts (.fieldLink R_M 214 "WireCodecModel" "spans" "I") zin_M_214) (fun _ h9 => h9) rfl (by decide +kernel) rfl rfl (Nat.le_of_ble_eq_true rfl) d_M_draft_33 (fun H locs hP hD hS => ?_)
    have hP := zp_M_spans hP
    have hD := zd_M_spans hD
    have hG : g_M_draft_w33 (zM_spans' sM_28 (0 : Int32)) = some a := hG
    generalize zM_spans' sM_28 (0 : Int32) = sM_33 at hP hD hG
    unfold g_M_draft_w33 at hG
    exact W.vret hx hb hr (fun t9 ht9 hW9 => ⟨⟨(sM_33), rfl, Option.some.inj hG, by rw [ht9]; exact hP, hD⟩, hS.F ht9⟩) hS.2.2 d_M_draft_36
  · have hG := zf hG hc
    refine lv_aload_n hx hb d_M_draft_13 rfl (lv_at hl 0 rfl) ?_
    refine va_get (D := (dC, dI)) (ci := 8) (v := .ref adM_draft) (C := R_M) (T := F_M) (N := 26) hx hb hts zi_M hown zz.1 hP 0 rfl rfl 17 (by decide) (hts (.fieldLink R_M 26 "WireCodecModel" "draft" "[J") zin_M_26) (fun _ h9 => h9) rfl d_M_draft_14 ?_
    refine lv_iload_n hx hb d_M_draft_17 rfl (lv_at hl 1 rfl) ?_
    refine lv_lconst (v := (0 : Int64)) hx hb d_M_draft_18 (by decide) ?_
    obtain ⟨hin, hG⟩ := zgd hG
    refine va_last hx hb zz.1 hP hD hS 4 2 rfl rfl hin d_M_draft_19 (fun H locs hP hD hS => ?_)
    have hP := zp_M_draft hP
    have hD := zd_M_draft hD
    have hG : g_M_draft_w19 kr v1 (zM_draft' sM (vp_updL (zM_draft sM) v1.toNatClampNeg (0 : Int64))) = some a := hG
    generalize zM_draft' sM (vp_updL (zM_draft sM) v1.toNatClampNeg (0 : Int64)) = sM_19 at hP hD hG
    unfold g_M_draft_w19 at hG
    refine lv_iinc (v := v1 + 1) (lv' := [(1, .int (v1 + 1)), (0, .ref adM)]) hx hb d_M_draft_20 hl (k := 1) rfl rfl (by decide) rfl (fun ls hl => ?_)
    refine lv_goto (tgt := 7) hx hb d_M_draft_23 (by decide) ?_
    exact hrec sM_19 (v1 + 1) _ hG adM adM_tape adM_frameAt adM_field adM_draft adM_given adM_low adM_high adM_packet adM_known _ _ hP hD hS _ (lv_sub hl [1, 0] rfl)
theorem k_M_draft_7 {p : Program} {l : Launch} {e : Env} {R : Room} {s : State} {m : MethodId} {args : Array Value} {below : List Frame} {meth : Method} {c : Code} {dC : Nat → ClassId} {dI : Nat → Nat → Nat} {cB cI cL : ClassId} {A : Nat → Prop} (X : zx p s m args meth c R R_M b_M_draft none 2 0 0) (hA : ∀ q, s.heap.size ≤ q → A q) (zz : zk dC dI cB cI cL A s)  (N : Nat) : ∀ (k : Nat) (sM : zM) (v1 : Int32) (a : zM) (hG : g_M_draft_7 N k sM v1 = some a) (adM adM_tape adM_frameAt adM_field adM_draft adM_given adM_low adM_high adM_packet adM_known : Nat) (H : Heap) (locs : List Loc) (hP : va_P (dC, dI) zcl (zwM adM adM_tape adM_frameAt adM_field adM_draft adM_given adM_low adM_high adM_packet adM_known cB cI cL sM) H) (hD : va_D A (zwM adM adM_tape adM_frameAt adM_field adM_draft adM_given adM_low adM_high adM_packet adM_known cB cI cL sM)) (hS : va_S A s.heap H locs) (ls : Array Slot) (hl : lv_has ls 2 [(0, .ref adM), (1, .int v1)]), W p l e R s m args below meth c H locs 0 0 (MQ below (q_M_draft dC dI cB cI cL A adM adM_tape adM_frameAt adM_field adM_draft adM_given adM_low adM_high adM_packet adM_known a) args s 0 0 A) (F0 m 7 ls []) := by
  intro k
  induction k with
  | zero => intro sM v1 a hG; exact absurd hG (by unfold g_M_draft_7; simp)
  | succ k ih => intro sM v1 a hG adM adM_tape adM_frameAt adM_field adM_draft adM_given adM_low adM_high adM_packet adM_known H locs hP hD hS ls hl; exact k_M_draft_7_b _ ih X hA zz N sM v1 a hG adM adM_tape adM_frameAt adM_field adM_draft adM_given adM_low adM_high adM_packet adM_known H locs hP hD hS ls hl
set_option maxRecDepth 100000 in
set_option maxHeartbeats 4000000 in
theorem k_M_draft_0 {p : Program} {l : Launch} {e : Env} {R : Room} {s : State} {m : MethodId} {args : Array Value} {below : List Frame} {meth : Method} {c : Code} {dC : Nat → ClassId} {dI : Nat → Nat → Nat} {cB cI cL : ClassId} {A : Nat → Prop} (X : zx p s m args meth c R R_M b_M_draft none 2 0 0) (hA : ∀ q, s.heap.size ≤ q → A q) (zz : zk dC dI cB cI cL A s)  (N : Nat) (sM : zM) (a : zM) (hG : g_M_draft N sM = some a) (adM adM_tape adM_frameAt adM_field adM_draft adM_given adM_low adM_high adM_packet adM_known : Nat) (H : Heap) (locs : List Loc) (hP : va_P (dC, dI) zcl (zwM adM adM_tape adM_frameAt adM_field adM_draft adM_given adM_low adM_high adM_packet adM_known cB cI cL sM) H) (hD : va_D A (zwM adM adM_tape adM_frameAt adM_field adM_draft adM_given adM_low adM_high adM_packet adM_known cB cI cL sM)) (hS : va_S A s.heap H locs) (ls : Array Slot) (hl : lv_has ls 2 [(0, .ref adM)]) : W p l e R s m args below meth c H locs 0 0 (MQ below (q_M_draft dC dI cB cI cL A adM adM_tape adM_frameAt adM_field adM_draft adM_given adM_low adM_high adM_packet adM_known a) args s 0 0 A) (F0 m 0 ls []) := by
  obtain ⟨hx, hb, hr, hml, hown, hts, hlocks, hRf, hRl⟩ := id X
  unfold g_M_draft at hG
  refine lv_aload_n hx hb d_M_draft_0 rfl (lv_at hl 0 rfl) ?_
  refine lv_iconst (v := (0 : Int32)) hx hb d_M_draft_1 (by decide) ?_
  refine va_put (D := (dC, dI)) (ci := 8) (v := .int (0 : Int32)) (ty := .int) (C := R_M) (T := F_M) (N := 26) hx hb hts zi_M zty_M zty_M_ok znm_M hown zz.1 hP hD hS 0 rfl rfl 0 (by decide) (hts (.fieldLink R_M 48 "WireCodecModel" "thrown" "I") zin_M_48) (fun _ h9 => h9) rfl (by decide +kernel) rfl rfl (Nat.le_of_ble_eq_true rfl) d_M_draft_2 (fun H locs hP hD hS => ?_)
  have hP := zp_M_thrown hP
  have hD := zd_M_thrown hD
  have hG : g_M_draft_w2 N (zM_thrown' sM (0 : Int32)) = some a := hG
  generalize zM_thrown' sM (0 : Int32) = sM_2 at hP hD hG
  unfold g_M_draft_w2 at hG
  refine lv_iconst (v := (0 : Int32)) hx hb d_M_draft_5 (by decide) ?_
  refine lv_istore_n (lv' := [(1, .int (0 : Int32)), (0, .ref adM)]) hx hb d_M_draft_6 rfl hl (by decide) rfl (fun ls hl => ?_)
  exact k_M_draft_7 X hA zz N N sM_2 (0 : Int32) _ hG adM adM_tape adM_frameAt adM_field adM_draft adM_given adM_low adM_high adM_packet adM_known _ _ hP hD hS _ (lv_sub hl [1, 0] rfl)
set_option maxRecDepth 100000 in
set_option maxHeartbeats 4000000 in
theorem c_M_draft (l : Launch) (dC : Nat → ClassId) (dI : Nat → Nat → Nat) (cB cI cL : ClassId) (sz : Nat) (adM adM_tape adM_frameAt adM_field adM_draft adM_given adM_low adM_high adM_packet adM_known : Nat) (N : Nat) (sM : zM) (a : zM) (hG : g_M_draft N sM = some a) : Met l y_M_draft (zw y_M_draft b_M_draft 2 none) ({ frames := 0, cells := 0, slots := 0, locals := 0 }) (va_Pc [.ref adM] (zpre dC dI cB cI cL sz (zwM adM adM_tape adM_frameAt adM_field adM_draft adM_given adM_low adM_high adM_packet adM_known cB cI cL sM))) (q_M_draft dC dI cB cI cL (va_A (zwM adM adM_tape adM_frameAt adM_field adM_draft adM_given adM_low adM_high adM_packet adM_known cB cI cL sM) sz) adM adM_tape adM_frameAt adM_field adM_draft adM_given adM_low adM_high adM_packet adM_known a) 0 0 (va_A (zwM adM adM_tape adM_frameAt adM_field adM_draft adM_given adM_low adM_high adM_packet adM_known cB cI cL sM) sz) := by
  refine Met.ofW (cc := b_M_draft) (maxL := 2) (ret := none) (by decide) rfl ?_
  intro p e s m args below meth c s₁ B hml hv
  obtain ⟨rfl, hsz, hP, zz, hD0⟩ := hv
  subst hsz
  have X := zx_of (F := 0) (L := 0) B hml (Nat.le_refl _) (Nat.le_refl _)
  have hD := hD0.self (sz := s.heap.size)
  have hA : ∀ q : Nat, s.heap.size ≤ q → va_A (zwM adM adM_tape adM_frameAt adM_field adM_draft adM_given adM_low adM_high adM_packet adM_known cB cI cL sM) s.heap.size q := fun q h => Or.inr h
  have hl := lv_entry ([.ref adM]) (n := 2) (Nat.le_of_ble_eq_true rfl)
  rw [lg_entry_eq]
  generalize (lg_sl ([.ref adM]) ++ List.replicate (2 - (lg_sl ([.ref adM])).length) Slot.unset).toArray = ls at hl ⊢
  exact k_M_draft_0 X hA zz N sM a hG adM adM_tape adM_frameAt adM_field adM_draft adM_given adM_low adM_high adM_packet adM_known _ _ hP hD va_S.rf ls hl

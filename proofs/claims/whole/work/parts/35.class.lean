theorem zy_W_lead : zy y_W_lead b_W_lead 6 (some .int) 5 := ⟨zmem 843 (by decide +kernel) (by decide +kernel), zmem 62 (by decide +kernel) (by decide +kernel), by decide +kernel⟩
theorem zv_W_lead : Cond.instanceMethod y_W_lead ∈ ztb ∧ Cond.selects y_W_lead.cls y_W_lead y_W_lead ∈ ztb := ⟨zmem 841 (by decide +kernel) (by decide +kernel), zmem 842 (by decide +kernel) (by decide +kernel)⟩
theorem d_W_lead_0 : decode b_W_lead 0 = .ok (.aload_n 0, 1) := by decide +kernel
theorem d_W_lead_1 : decode b_W_lead 1 = .ok (.getfield 49, 3) := by decide +kernel
theorem d_W_lead_4 : decode b_W_lead 4 = .ok (.iload_n 1, 1) := by decide +kernel
theorem d_W_lead_5 : decode b_W_lead 5 = .ok (.iload_n 2, 1) := by decide +kernel
theorem d_W_lead_6 : decode b_W_lead 6 = .ok (.iload_n 3, 1) := by decide +kernel
theorem d_W_lead_7 : decode b_W_lead 7 = .ok (.iload 4, 2) := by decide +kernel
theorem d_W_lead_9 : decode b_W_lead 9 = .ok (.iload 5, 2) := by decide +kernel
theorem d_W_lead_11 : decode b_W_lead 11 = .ok (.invokevirtual 263, 3) := by decide +kernel
theorem d_W_lead_14 : decode b_W_lead 14 = .ok (.ifCond .ne 14, 3) := by decide +kernel
theorem d_W_lead_17 : decode b_W_lead 17 = .ok (.new 60, 3) := by decide +kernel
theorem d_W_lead_20 : decode b_W_lead 20 = .ok (.dup, 1) := by decide +kernel
theorem d_W_lead_21 : decode b_W_lead 21 = .ok (.ldc_w 267, 3) := by decide +kernel
theorem d_W_lead_24 : decode b_W_lead 24 = .ok (.invokespecial 64, 3) := by decide +kernel
theorem d_W_lead_27 : decode b_W_lead 27 = .ok (.athrow, 1) := by decide +kernel
theorem d_W_lead_28 : decode b_W_lead 28 = .ok (.aload_n 0, 1) := by decide +kernel
theorem d_W_lead_29 : decode b_W_lead 29 = .ok (.getfield 12, 3) := by decide +kernel
theorem d_W_lead_32 : decode b_W_lead 32 = .ok (.invokevirtual 67, 3) := by decide +kernel
theorem d_W_lead_35 : decode b_W_lead 35 = .ok (.aload_n 0, 1) := by decide +kernel
theorem d_W_lead_36 : decode b_W_lead 36 = .ok (.getfield 49, 3) := by decide +kernel
theorem d_W_lead_39 : decode b_W_lead 39 = .ok (.aload_n 0, 1) := by decide +kernel
theorem d_W_lead_40 : decode b_W_lead 40 = .ok (.getfield 12, 3) := by decide +kernel
theorem d_W_lead_43 : decode b_W_lead 43 = .ok (.iload_n 1, 1) := by decide +kernel
theorem d_W_lead_44 : decode b_W_lead 44 = .ok (.iload_n 2, 1) := by decide +kernel
theorem d_W_lead_45 : decode b_W_lead 45 = .ok (.iload_n 3, 1) := by decide +kernel
theorem d_W_lead_46 : decode b_W_lead 46 = .ok (.iload 4, 2) := by decide +kernel
theorem d_W_lead_48 : decode b_W_lead 48 = .ok (.iload 5, 2) := by decide +kernel
theorem d_W_lead_50 : decode b_W_lead 50 = .ok (.invokevirtual 269, 3) := by decide +kernel
theorem d_W_lead_53 : decode b_W_lead 53 = .ok (.aload_n 0, 1) := by decide +kernel
theorem d_W_lead_54 : decode b_W_lead 54 = .ok (.invokevirtual 74, 3) := by decide +kernel
theorem d_W_lead_57 : decode b_W_lead 57 = .ok (.ireturn, 1) := by decide +kernel
theorem zy_D_writeFrame : zy y_D_writeFrame b_D_writeFrame 5 none 2 := ⟨zmem 758 (by decide +kernel) (by decide +kernel), zmem 68 (by decide +kernel) (by decide +kernel), by decide +kernel⟩
theorem zv_D_writeFrame : Cond.instanceMethod y_D_writeFrame ∈ ztb ∧ Cond.selects y_D_writeFrame.cls y_D_writeFrame y_D_writeFrame ∈ ztb := ⟨zmem 756 (by decide +kernel) (by decide +kernel), zmem 757 (by decide +kernel) (by decide +kernel)⟩
theorem d_D_writeFrame_0 : decode b_D_writeFrame 0 = .ok (.iload_n 2, 1) := by decide +kernel
theorem d_D_writeFrame_1 : decode b_D_writeFrame 1 = .ok (.ifCond .ne 36, 3) := by decide +kernel
theorem d_D_writeFrame_4 : decode b_D_writeFrame 4 = .ok (.iconst 0, 1) := by decide +kernel
theorem d_D_writeFrame_5 : decode b_D_writeFrame 5 = .ok (.istore_n 3, 1) := by decide +kernel
theorem d_D_writeFrame_6 : decode b_D_writeFrame 6 = .ok (.iload_n 3, 1) := by decide +kernel
theorem d_D_writeFrame_7 : decode b_D_writeFrame 7 = .ok (.sipush 2000, 3) := by decide +kernel
theorem d_D_writeFrame_10 : decode b_D_writeFrame 10 = .ok (.if_icmp .ge 26, 3) := by decide +kernel
theorem d_D_writeFrame_13 : decode b_D_writeFrame 13 = .ok (.iload_n 3, 1) := by decide +kernel
theorem d_D_writeFrame_14 : decode b_D_writeFrame 14 = .ok (.i2l, 1) := by decide +kernel
theorem d_D_writeFrame_15 : decode b_D_writeFrame 15 = .ok (.aload_n 0, 1) := by decide +kernel
theorem d_D_writeFrame_16 : decode b_D_writeFrame 16 = .ok (.getfield 9, 3) := by decide +kernel
theorem d_D_writeFrame_19 : decode b_D_writeFrame 19 = .ok (.iconst 0, 1) := by decide +kernel
theorem d_D_writeFrame_20 : decode b_D_writeFrame 20 = .ok (.laload, 1) := by decide +kernel
theorem d_D_writeFrame_21 : decode b_D_writeFrame 21 = .ok (.lcmp, 1) := by decide +kernel
theorem d_D_writeFrame_22 : decode b_D_writeFrame 22 = .ok (.ifCond .ge 14, 3) := by decide +kernel
theorem d_D_writeFrame_25 : decode b_D_writeFrame 25 = .ok (.aload_n 1, 1) := by decide +kernel
theorem d_D_writeFrame_26 : decode b_D_writeFrame 26 = .ok (.iconst 0, 1) := by decide +kernel
theorem d_D_writeFrame_27 : decode b_D_writeFrame 27 = .ok (.invokevirtual 57, 3) := by decide +kernel
theorem d_D_writeFrame_30 : decode b_D_writeFrame 30 = .ok (.iinc 3 1, 3) := by decide +kernel
theorem d_D_writeFrame_33 : decode b_D_writeFrame 33 = .ok (.goto (-27), 3) := by decide +kernel
theorem d_D_writeFrame_36 : decode b_D_writeFrame 36 = .ok (.return_, 1) := by decide +kernel
theorem d_D_writeFrame_37 : decode b_D_writeFrame 37 = .ok (.aload_n 0, 1) := by decide +kernel
theorem d_D_writeFrame_38 : decode b_D_writeFrame 38 = .ok (.iload_n 2, 1) := by decide +kernel
theorem d_D_writeFrame_39 : decode b_D_writeFrame 39 = .ok (.invokevirtual 63, 3) := by decide +kernel
theorem d_D_writeFrame_42 : decode b_D_writeFrame 42 = .ok (.istore_n 3, 1) := by decide +kernel
theorem d_D_writeFrame_43 : decode b_D_writeFrame 43 = .ok (.aload_n 1, 1) := by decide +kernel
theorem d_D_writeFrame_44 : decode b_D_writeFrame 44 = .ok (.iload_n 3, 1) := by decide +kernel
theorem d_D_writeFrame_45 : decode b_D_writeFrame 45 = .ok (.invokevirtual 57, 3) := by decide +kernel
theorem d_D_writeFrame_48 : decode b_D_writeFrame 48 = .ok (.iload_n 2, 1) := by decide +kernel
theorem d_D_writeFrame_49 : decode b_D_writeFrame 49 = .ok (.iconst 2, 1) := by decide +kernel
theorem d_D_writeFrame_50 : decode b_D_writeFrame 50 = .ok (.if_icmp .eq 8, 3) := by decide +kernel
theorem d_D_writeFrame_53 : decode b_D_writeFrame 53 = .ok (.iload_n 2, 1) := by decide +kernel
theorem d_D_writeFrame_54 : decode b_D_writeFrame 54 = .ok (.iconst 3, 1) := by decide +kernel
theorem d_D_writeFrame_55 : decode b_D_writeFrame 55 = .ok (.if_icmp .ne 10, 3) := by decide +kernel
theorem d_D_writeFrame_58 : decode b_D_writeFrame 58 = .ok (.aload_n 0, 1) := by decide +kernel
theorem d_D_writeFrame_59 : decode b_D_writeFrame 59 = .ok (.aload_n 1, 1) := by decide +kernel
theorem d_D_writeFrame_60 : decode b_D_writeFrame 60 = .ok (.iload_n 2, 1) := by decide +kernel
theorem d_D_writeFrame_61 : decode b_D_writeFrame 61 = .ok (.invokevirtual 67, 3) := by decide +kernel
theorem d_D_writeFrame_64 : decode b_D_writeFrame 64 = .ok (.return_, 1) := by decide +kernel
theorem d_D_writeFrame_65 : decode b_D_writeFrame 65 = .ok (.iload_n 3, 1) := by decide +kernel
theorem d_D_writeFrame_66 : decode b_D_writeFrame 66 = .ok (.invokestatic 71, 3) := by decide +kernel
theorem d_D_writeFrame_69 : decode b_D_writeFrame 69 = .ok (.istore 4, 2) := by decide +kernel
theorem d_D_writeFrame_71 : decode b_D_writeFrame 71 = .ok (.aload_n 0, 1) := by decide +kernel
theorem d_D_writeFrame_72 : decode b_D_writeFrame 72 = .ok (.aload_n 1, 1) := by decide +kernel
theorem d_D_writeFrame_73 : decode b_D_writeFrame 73 = .ok (.iload 4, 2) := by decide +kernel
theorem d_D_writeFrame_75 : decode b_D_writeFrame 75 = .ok (.invokevirtual 74, 3) := by decide +kernel
theorem d_D_writeFrame_78 : decode b_D_writeFrame 78 = .ok (.iload_n 2, 1) := by decide +kernel
theorem d_D_writeFrame_79 : decode b_D_writeFrame 79 = .ok (.bipush 24, 2) := by decide +kernel
theorem d_D_writeFrame_81 : decode b_D_writeFrame 81 = .ok (.if_icmp .ne 14, 3) := by decide +kernel
theorem d_D_writeFrame_84 : decode b_D_writeFrame 84 = .ok (.aload_n 1, 1) := by decide +kernel
theorem d_D_writeFrame_85 : decode b_D_writeFrame 85 = .ok (.aload_n 0, 1) := by decide +kernel
theorem d_D_writeFrame_86 : decode b_D_writeFrame 86 = .ok (.getfield 31, 3) := by decide +kernel
theorem d_D_writeFrame_89 : decode b_D_writeFrame 89 = .ok (.bipush 16, 2) := by decide +kernel
theorem d_D_writeFrame_91 : decode b_D_writeFrame 91 = .ok (.isub, 1) := by decide +kernel
theorem d_D_writeFrame_92 : decode b_D_writeFrame 92 = .ok (.invokevirtual 57, 3) := by decide +kernel
theorem d_D_writeFrame_95 : decode b_D_writeFrame 95 = .ok (.iload_n 2, 1) := by decide +kernel
theorem d_D_writeFrame_96 : decode b_D_writeFrame 96 = .ok (.bipush 26, 2) := by decide +kernel
theorem d_D_writeFrame_98 : decode b_D_writeFrame 98 = .ok (.if_icmp .eq 9, 3) := by decide +kernel
theorem d_D_writeFrame_101 : decode b_D_writeFrame 101 = .ok (.iload_n 2, 1) := by decide +kernel
theorem d_D_writeFrame_102 : decode b_D_writeFrame 102 = .ok (.bipush 27, 2) := by decide +kernel
theorem d_D_writeFrame_104 : decode b_D_writeFrame 104 = .ok (.if_icmp .ne 15, 3) := by decide +kernel
theorem d_D_writeFrame_107 : decode b_D_writeFrame 107 = .ok (.aload_n 1, 1) := by decide +kernel
theorem d_D_writeFrame_108 : decode b_D_writeFrame 108 = .ok (.aload_n 0, 1) := by decide +kernel
theorem d_D_writeFrame_109 : decode b_D_writeFrame 109 = .ok (.getfield 9, 3) := by decide +kernel
theorem d_D_writeFrame_112 : decode b_D_writeFrame 112 = .ok (.iconst 0, 1) := by decide +kernel
theorem d_D_writeFrame_113 : decode b_D_writeFrame 113 = .ok (.laload, 1) := by decide +kernel
theorem d_D_writeFrame_114 : decode b_D_writeFrame 114 = .ok (.bipush 8, 2) := by decide +kernel
theorem d_D_writeFrame_116 : decode b_D_writeFrame 116 = .ok (.invokevirtual 77, 3) := by decide +kernel
theorem d_D_writeFrame_119 : decode b_D_writeFrame 119 = .ok (.iload 4, 2) := by decide +kernel
theorem d_D_writeFrame_121 : decode b_D_writeFrame 121 = .ok (.bipush 8, 2) := by decide +kernel
theorem d_D_writeFrame_123 : decode b_D_writeFrame 123 = .ok (.iand, 1) := by decide +kernel
theorem d_D_writeFrame_124 : decode b_D_writeFrame 124 = .ok (.ifCond .ne 15, 3) := by decide +kernel
theorem d_D_writeFrame_127 : decode b_D_writeFrame 127 = .ok (.iload_n 2, 1) := by decide +kernel
theorem d_D_writeFrame_128 : decode b_D_writeFrame 128 = .ok (.bipush 8, 2) := by decide +kernel
theorem d_D_writeFrame_130 : decode b_D_writeFrame 130 = .ok (.if_icmp .eq 9, 3) := by decide +kernel
theorem d_D_writeFrame_133 : decode b_D_writeFrame 133 = .ok (.iload_n 2, 1) := by decide +kernel
theorem d_D_writeFrame_134 : decode b_D_writeFrame 134 = .ok (.bipush 24, 2) := by decide +kernel
theorem d_D_writeFrame_136 : decode b_D_writeFrame 136 = .ok (.if_icmp .ne 16, 3) := by decide +kernel
theorem d_D_writeFrame_139 : decode b_D_writeFrame 139 = .ok (.aload_n 1, 1) := by decide +kernel
theorem d_D_writeFrame_140 : decode b_D_writeFrame 140 = .ok (.aload_n 0, 1) := by decide +kernel
theorem d_D_writeFrame_141 : decode b_D_writeFrame 141 = .ok (.getfield 15, 3) := by decide +kernel
theorem d_D_writeFrame_144 : decode b_D_writeFrame 144 = .ok (.iconst 0, 1) := by decide +kernel
theorem d_D_writeFrame_145 : decode b_D_writeFrame 145 = .ok (.aload_n 0, 1) := by decide +kernel
theorem d_D_writeFrame_146 : decode b_D_writeFrame 146 = .ok (.getfield 31, 3) := by decide +kernel
theorem d_D_writeFrame_149 : decode b_D_writeFrame 149 = .ok (.invokevirtual 81, 3) := by decide +kernel
theorem d_D_writeFrame_152 : decode b_D_writeFrame 152 = .ok (.return_, 1) := by decide +kernel
theorem zy_F_walkRanges : zy y_F_walkRanges b_F_walkRanges 8 none 2 := ⟨zmem 608 (by decide +kernel) (by decide +kernel), zmem 66 (by decide +kernel) (by decide +kernel), by decide +kernel⟩
theorem zv_F_walkRanges : Cond.instanceMethod y_F_walkRanges ∈ ztb ∧ Cond.selects y_F_walkRanges.cls y_F_walkRanges y_F_walkRanges ∈ ztb := ⟨zmem 606 (by decide +kernel) (by decide +kernel), zmem 607 (by decide +kernel) (by decide +kernel)⟩
theorem d_F_walkRanges_0 : decode b_F_walkRanges 0 = .ok (.aload_n 0, 1) := by decide +kernel
theorem d_F_walkRanges_1 : decode b_F_walkRanges 1 = .ok (.aload_n 0, 1) := by decide +kernel
theorem d_F_walkRanges_2 : decode b_F_walkRanges 2 = .ok (.getfield 9, 3) := by decide +kernel
theorem d_F_walkRanges_5 : decode b_F_walkRanges 5 = .ok (.iconst 0, 1) := by decide +kernel
theorem d_F_walkRanges_6 : decode b_F_walkRanges 6 = .ok (.laload, 1) := by decide +kernel
theorem d_F_walkRanges_7 : decode b_F_walkRanges 7 = .ok (.putfield 53, 3) := by decide +kernel
theorem d_F_walkRanges_10 : decode b_F_walkRanges 10 = .ok (.aload_n 0, 1) := by decide +kernel
theorem d_F_walkRanges_11 : decode b_F_walkRanges 11 = .ok (.aload_n 0, 1) := by decide +kernel
theorem d_F_walkRanges_12 : decode b_F_walkRanges 12 = .ok (.getfield 53, 3) := by decide +kernel
theorem d_F_walkRanges_15 : decode b_F_walkRanges 15 = .ok (.aload_n 1, 1) := by decide +kernel
theorem d_F_walkRanges_16 : decode b_F_walkRanges 16 = .ok (.invokevirtual 56, 3) := by decide +kernel
theorem d_F_walkRanges_19 : decode b_F_walkRanges 19 = .ok (.lsub, 1) := by decide +kernel
theorem d_F_walkRanges_20 : decode b_F_walkRanges 20 = .ok (.putfield 45, 3) := by decide +kernel
theorem d_F_walkRanges_23 : decode b_F_walkRanges 23 = .ok (.iconst 0, 1) := by decide +kernel
theorem d_F_walkRanges_24 : decode b_F_walkRanges 24 = .ok (.istore_n 3, 1) := by decide +kernel
theorem d_F_walkRanges_25 : decode b_F_walkRanges 25 = .ok (.iload_n 3, 1) := by decide +kernel
theorem d_F_walkRanges_26 : decode b_F_walkRanges 26 = .ok (.iload_n 2, 1) := by decide +kernel
theorem d_F_walkRanges_27 : decode b_F_walkRanges 27 = .ok (.if_icmp .ge 79, 3) := by decide +kernel
theorem d_F_walkRanges_30 : decode b_F_walkRanges 30 = .ok (.aload_n 1, 1) := by decide +kernel
theorem d_F_walkRanges_31 : decode b_F_walkRanges 31 = .ok (.invokevirtual 56, 3) := by decide +kernel
theorem d_F_walkRanges_34 : decode b_F_walkRanges 34 = .ok (.lstore 4, 2) := by decide +kernel
theorem d_F_walkRanges_36 : decode b_F_walkRanges 36 = .ok (.aload_n 1, 1) := by decide +kernel
theorem d_F_walkRanges_37 : decode b_F_walkRanges 37 = .ok (.invokevirtual 56, 3) := by decide +kernel
theorem d_F_walkRanges_40 : decode b_F_walkRanges 40 = .ok (.lstore 6, 2) := by decide +kernel
theorem d_F_walkRanges_42 : decode b_F_walkRanges 42 = .ok (.aload_n 0, 1) := by decide +kernel
theorem d_F_walkRanges_43 : decode b_F_walkRanges 43 = .ok (.aload_n 0, 1) := by decide +kernel
theorem d_F_walkRanges_44 : decode b_F_walkRanges 44 = .ok (.getfield 45, 3) := by decide +kernel
theorem d_F_walkRanges_47 : decode b_F_walkRanges 47 = .ok (.lconst 0, 1) := by decide +kernel
theorem d_F_walkRanges_48 : decode b_F_walkRanges 48 = .ok (.lcmp, 1) := by decide +kernel
theorem d_F_walkRanges_49 : decode b_F_walkRanges 49 = .ok (.ifCond .ge 10, 3) := by decide +kernel
theorem d_F_walkRanges_52 : decode b_F_walkRanges 52 = .ok (.aload_n 0, 1) := by decide +kernel
theorem d_F_walkRanges_53 : decode b_F_walkRanges 53 = .ok (.getfield 45, 3) := by decide +kernel
theorem d_F_walkRanges_56 : decode b_F_walkRanges 56 = .ok (.goto 14, 3) := by decide +kernel
theorem d_F_walkRanges_59 : decode b_F_walkRanges 59 = .ok (.aload_n 0, 1) := by decide +kernel
theorem d_F_walkRanges_60 : decode b_F_walkRanges 60 = .ok (.getfield 45, 3) := by decide +kernel
theorem d_F_walkRanges_63 : decode b_F_walkRanges 63 = .ok (.lload 4, 2) := by decide +kernel
theorem d_F_walkRanges_65 : decode b_F_walkRanges 65 = .ok (.lsub, 1) := by decide +kernel
theorem d_F_walkRanges_66 : decode b_F_walkRanges 66 = .ok (.ldc2_w 60, 3) := by decide +kernel
theorem d_F_walkRanges_69 : decode b_F_walkRanges 69 = .ok (.lsub, 1) := by decide +kernel
theorem d_F_walkRanges_70 : decode b_F_walkRanges 70 = .ok (.putfield 53, 3) := by decide +kernel
theorem d_F_walkRanges_73 : decode b_F_walkRanges 73 = .ok (.aload_n 0, 1) := by decide +kernel
theorem d_F_walkRanges_74 : decode b_F_walkRanges 74 = .ok (.aload_n 0, 1) := by decide +kernel
theorem d_F_walkRanges_75 : decode b_F_walkRanges 75 = .ok (.getfield 53, 3) := by decide +kernel
theorem d_F_walkRanges_78 : decode b_F_walkRanges 78 = .ok (.lconst 0, 1) := by decide +kernel
theorem d_F_walkRanges_79 : decode b_F_walkRanges 79 = .ok (.lcmp, 1) := by decide +kernel
theorem d_F_walkRanges_80 : decode b_F_walkRanges 80 = .ok (.ifCond .ge 10, 3) := by decide +kernel
theorem d_F_walkRanges_83 : decode b_F_walkRanges 83 = .ok (.aload_n 0, 1) := by decide +kernel
theorem d_F_walkRanges_84 : decode b_F_walkRanges 84 = .ok (.getfield 53, 3) := by decide +kernel
theorem d_F_walkRanges_87 : decode b_F_walkRanges 87 = .ok (.goto 10, 3) := by decide +kernel
theorem d_F_walkRanges_90 : decode b_F_walkRanges 90 = .ok (.aload_n 0, 1) := by decide +kernel
theorem d_F_walkRanges_91 : decode b_F_walkRanges 91 = .ok (.getfield 53, 3) := by decide +kernel
theorem d_F_walkRanges_94 : decode b_F_walkRanges 94 = .ok (.lload 6, 2) := by decide +kernel
theorem d_F_walkRanges_96 : decode b_F_walkRanges 96 = .ok (.lsub, 1) := by decide +kernel
theorem d_F_walkRanges_97 : decode b_F_walkRanges 97 = .ok (.putfield 45, 3) := by decide +kernel
theorem d_F_walkRanges_100 : decode b_F_walkRanges 100 = .ok (.iinc 3 1, 3) := by decide +kernel
theorem d_F_walkRanges_103 : decode b_F_walkRanges 103 = .ok (.goto (-78), 3) := by decide +kernel
theorem d_F_walkRanges_106 : decode b_F_walkRanges 106 = .ok (.return_, 1) := by decide +kernel
theorem zy_F_takeShape : zy y_F_takeShape b_F_takeShape 3 none 2 := ⟨zmem 584 (by decide +kernel) (by decide +kernel), zmem 66 (by decide +kernel) (by decide +kernel), by decide +kernel⟩
theorem zv_F_takeShape : Cond.instanceMethod y_F_takeShape ∈ ztb ∧ Cond.selects y_F_takeShape.cls y_F_takeShape y_F_takeShape ∈ ztb := ⟨zmem 583 (by decide +kernel) (by decide +kernel), zmem 5 (by decide +kernel) (by decide +kernel)⟩
theorem d_F_takeShape_0 : decode b_F_takeShape 0 = .ok (.iload_n 2, 1) := by decide +kernel
theorem d_F_takeShape_1 : decode b_F_takeShape 1 = .ok (.iconst 1, 1) := by decide +kernel
theorem d_F_takeShape_2 : decode b_F_takeShape 2 = .ok (.iand, 1) := by decide +kernel
theorem d_F_takeShape_3 : decode b_F_takeShape 3 = .ok (.ifCond .eq 13, 3) := by decide +kernel
theorem d_F_takeShape_6 : decode b_F_takeShape 6 = .ok (.aload_n 0, 1) := by decide +kernel
theorem d_F_takeShape_7 : decode b_F_takeShape 7 = .ok (.getfield 9, 3) := by decide +kernel
theorem d_F_takeShape_10 : decode b_F_takeShape 10 = .ok (.iconst 0, 1) := by decide +kernel
theorem d_F_takeShape_11 : decode b_F_takeShape 11 = .ok (.aload_n 1, 1) := by decide +kernel
theorem d_F_takeShape_12 : decode b_F_takeShape 12 = .ok (.invokevirtual 56, 3) := by decide +kernel
theorem d_F_takeShape_15 : decode b_F_takeShape 15 = .ok (.lastore, 1) := by decide +kernel
theorem d_F_takeShape_16 : decode b_F_takeShape 16 = .ok (.iload_n 2, 1) := by decide +kernel
theorem d_F_takeShape_17 : decode b_F_takeShape 17 = .ok (.iconst 2, 1) := by decide +kernel
theorem d_F_takeShape_18 : decode b_F_takeShape 18 = .ok (.iand, 1) := by decide +kernel
theorem d_F_takeShape_19 : decode b_F_takeShape 19 = .ok (.ifCond .eq 13, 3) := by decide +kernel
theorem d_F_takeShape_22 : decode b_F_takeShape 22 = .ok (.aload_n 0, 1) := by decide +kernel
theorem d_F_takeShape_23 : decode b_F_takeShape 23 = .ok (.getfield 9, 3) := by decide +kernel
theorem d_F_takeShape_26 : decode b_F_takeShape 26 = .ok (.iconst 1, 1) := by decide +kernel
theorem d_F_takeShape_27 : decode b_F_takeShape 27 = .ok (.aload_n 1, 1) := by decide +kernel
theorem d_F_takeShape_28 : decode b_F_takeShape 28 = .ok (.invokevirtual 56, 3) := by decide +kernel
theorem d_F_takeShape_31 : decode b_F_takeShape 31 = .ok (.lastore, 1) := by decide +kernel
theorem d_F_takeShape_32 : decode b_F_takeShape 32 = .ok (.iload_n 2, 1) := by decide +kernel
theorem d_F_takeShape_33 : decode b_F_takeShape 33 = .ok (.iconst 4, 1) := by decide +kernel
theorem d_F_takeShape_34 : decode b_F_takeShape 34 = .ok (.iand, 1) := by decide +kernel
theorem d_F_takeShape_35 : decode b_F_takeShape 35 = .ok (.ifCond .eq 13, 3) := by decide +kernel
theorem d_F_takeShape_38 : decode b_F_takeShape 38 = .ok (.aload_n 0, 1) := by decide +kernel
theorem d_F_takeShape_39 : decode b_F_takeShape 39 = .ok (.getfield 9, 3) := by decide +kernel
theorem d_F_takeShape_42 : decode b_F_takeShape 42 = .ok (.iconst 2, 1) := by decide +kernel
theorem d_F_takeShape_43 : decode b_F_takeShape 43 = .ok (.aload_n 1, 1) := by decide +kernel
theorem d_F_takeShape_44 : decode b_F_takeShape 44 = .ok (.invokevirtual 56, 3) := by decide +kernel
theorem d_F_takeShape_47 : decode b_F_takeShape 47 = .ok (.lastore, 1) := by decide +kernel
theorem d_F_takeShape_48 : decode b_F_takeShape 48 = .ok (.iload_n 2, 1) := by decide +kernel
theorem d_F_takeShape_49 : decode b_F_takeShape 49 = .ok (.bipush 8, 2) := by decide +kernel
theorem d_F_takeShape_51 : decode b_F_takeShape 51 = .ok (.iand, 1) := by decide +kernel
theorem d_F_takeShape_52 : decode b_F_takeShape 52 = .ok (.ifCond .eq 12, 3) := by decide +kernel
theorem d_F_takeShape_55 : decode b_F_takeShape 55 = .ok (.aload_n 0, 1) := by decide +kernel
theorem d_F_takeShape_56 : decode b_F_takeShape 56 = .ok (.aload_n 1, 1) := by decide +kernel
theorem d_F_takeShape_57 : decode b_F_takeShape 57 = .ok (.aload_n 1, 1) := by decide +kernel
theorem d_F_takeShape_58 : decode b_F_takeShape 58 = .ok (.invokevirtual 56, 3) := by decide +kernel
theorem d_F_takeShape_61 : decode b_F_takeShape 61 = .ok (.invokevirtual 71, 3) := by decide +kernel
theorem d_F_takeShape_64 : decode b_F_takeShape 64 = .ok (.return_, 1) := by decide +kernel
theorem zy_F_takeRangeCount : zy y_F_takeRangeCount b_F_takeRangeCount 4 none 1 := ⟨zmem 603 (by decide +kernel) (by decide +kernel), zmem 66 (by decide +kernel) (by decide +kernel), by decide +kernel⟩
theorem zv_F_takeRangeCount : Cond.instanceMethod y_F_takeRangeCount ∈ ztb ∧ Cond.selects y_F_takeRangeCount.cls y_F_takeRangeCount y_F_takeRangeCount ∈ ztb := ⟨zmem 602 (by decide +kernel) (by decide +kernel), zmem 8 (by decide +kernel) (by decide +kernel)⟩
theorem d_F_takeRangeCount_0 : decode b_F_takeRangeCount 0 = .ok (.aload_n 1, 1) := by decide +kernel
theorem d_F_takeRangeCount_1 : decode b_F_takeRangeCount 1 = .ok (.invokevirtual 56, 3) := by decide +kernel
theorem d_F_takeRangeCount_4 : decode b_F_takeRangeCount 4 = .ok (.lstore_n 2, 1) := by decide +kernel
theorem d_F_takeRangeCount_5 : decode b_F_takeRangeCount 5 = .ok (.aload_n 0, 1) := by decide +kernel
theorem d_F_takeRangeCount_6 : decode b_F_takeRangeCount 6 = .ok (.aload_n 1, 1) := by decide +kernel
theorem d_F_takeRangeCount_7 : decode b_F_takeRangeCount 7 = .ok (.getfield 18, 3) := by decide +kernel
theorem d_F_takeRangeCount_10 : decode b_F_takeRangeCount 10 = .ok (.putfield 107, 3) := by decide +kernel
theorem d_F_takeRangeCount_13 : decode b_F_takeRangeCount 13 = .ok (.lload_n 2, 1) := by decide +kernel
theorem d_F_takeRangeCount_14 : decode b_F_takeRangeCount 14 = .ok (.aload_n 1, 1) := by decide +kernel
theorem d_F_takeRangeCount_15 : decode b_F_takeRangeCount 15 = .ok (.invokevirtual 104, 3) := by decide +kernel
theorem d_F_takeRangeCount_18 : decode b_F_takeRangeCount 18 = .ok (.iconst 2, 1) := by decide +kernel
theorem d_F_takeRangeCount_19 : decode b_F_takeRangeCount 19 = .ok (.idiv, 1) := by decide +kernel
theorem d_F_takeRangeCount_20 : decode b_F_takeRangeCount 20 = .ok (.i2l, 1) := by decide +kernel
theorem d_F_takeRangeCount_21 : decode b_F_takeRangeCount 21 = .ok (.lcmp, 1) := by decide +kernel
theorem d_F_takeRangeCount_22 : decode b_F_takeRangeCount 22 = .ok (.ifCond .le 11, 3) := by decide +kernel
theorem d_F_takeRangeCount_25 : decode b_F_takeRangeCount 25 = .ok (.aload_n 1, 1) := by decide +kernel
theorem d_F_takeRangeCount_26 : decode b_F_takeRangeCount 26 = .ok (.iconst 1, 1) := by decide +kernel
theorem d_F_takeRangeCount_27 : decode b_F_takeRangeCount 27 = .ok (.putfield 41, 3) := by decide +kernel
theorem d_F_takeRangeCount_30 : decode b_F_takeRangeCount 30 = .ok (.goto 13, 3) := by decide +kernel
theorem d_F_takeRangeCount_33 : decode b_F_takeRangeCount 33 = .ok (.aload_n 0, 1) := by decide +kernel
theorem d_F_takeRangeCount_34 : decode b_F_takeRangeCount 34 = .ok (.getfield 9, 3) := by decide +kernel
theorem d_F_takeRangeCount_37 : decode b_F_takeRangeCount 37 = .ok (.bipush 6, 2) := by decide +kernel
theorem d_F_takeRangeCount_39 : decode b_F_takeRangeCount 39 = .ok (.lload_n 2, 1) := by decide +kernel
theorem d_F_takeRangeCount_40 : decode b_F_takeRangeCount 40 = .ok (.lconst 1, 1) := by decide +kernel
theorem d_F_takeRangeCount_41 : decode b_F_takeRangeCount 41 = .ok (.ladd, 1) := by decide +kernel
theorem d_F_takeRangeCount_42 : decode b_F_takeRangeCount 42 = .ok (.lastore, 1) := by decide +kernel
theorem d_F_takeRangeCount_43 : decode b_F_takeRangeCount 43 = .ok (.return_, 1) := by decide +kernel
theorem zy_F_takeCounts : zy y_F_takeCounts b_F_takeCounts 4 none 2 := ⟨zmem 613 (by decide +kernel) (by decide +kernel), zmem 66 (by decide +kernel) (by decide +kernel), by decide +kernel⟩
theorem zv_F_takeCounts : Cond.instanceMethod y_F_takeCounts ∈ ztb ∧ Cond.selects y_F_takeCounts.cls y_F_takeCounts y_F_takeCounts ∈ ztb := ⟨zmem 612 (by decide +kernel) (by decide +kernel), zmem 9 (by decide +kernel) (by decide +kernel)⟩
theorem d_F_takeCounts_0 : decode b_F_takeCounts 0 = .ok (.bipush 9, 2) := by decide +kernel
theorem d_F_takeCounts_2 : decode b_F_takeCounts 2 = .ok (.istore_n 3, 1) := by decide +kernel
theorem d_F_takeCounts_3 : decode b_F_takeCounts 3 = .ok (.iload_n 2, 1) := by decide +kernel
theorem d_F_takeCounts_4 : decode b_F_takeCounts 4 = .ok (.iconst 3, 1) := by decide +kernel
theorem d_F_takeCounts_5 : decode b_F_takeCounts 5 = .ok (.if_icmp .ne 25, 3) := by decide +kernel
theorem d_F_takeCounts_8 : decode b_F_takeCounts 8 = .ok (.iload_n 3, 1) := by decide +kernel
theorem d_F_takeCounts_9 : decode b_F_takeCounts 9 = .ok (.bipush 12, 2) := by decide +kernel
theorem d_F_takeCounts_11 : decode b_F_takeCounts 11 = .ok (.if_icmp .ge 19, 3) := by decide +kernel
theorem d_F_takeCounts_14 : decode b_F_takeCounts 14 = .ok (.aload_n 0, 1) := by decide +kernel
theorem d_F_takeCounts_15 : decode b_F_takeCounts 15 = .ok (.getfield 9, 3) := by decide +kernel
theorem d_F_takeCounts_18 : decode b_F_takeCounts 18 = .ok (.iload_n 3, 1) := by decide +kernel
theorem d_F_takeCounts_19 : decode b_F_takeCounts 19 = .ok (.aload_n 1, 1) := by decide +kernel
theorem d_F_takeCounts_20 : decode b_F_takeCounts 20 = .ok (.invokevirtual 56, 3) := by decide +kernel
theorem d_F_takeCounts_23 : decode b_F_takeCounts 23 = .ok (.lastore, 1) := by decide +kernel
theorem d_F_takeCounts_24 : decode b_F_takeCounts 24 = .ok (.iinc 3 1, 3) := by decide +kernel
theorem d_F_takeCounts_27 : decode b_F_takeCounts 27 = .ok (.goto (-24), 3) := by decide +kernel
theorem d_F_takeCounts_30 : decode b_F_takeCounts 30 = .ok (.return_, 1) := by decide +kernel
theorem zy_H_parseTokenAndLength : zy y_H_parseTokenAndLength b_H_parseTokenAndLength 4 (some .int) 1 := ⟨zmem 805 (by decide +kernel) (by decide +kernel), zmem 67 (by decide +kernel) (by decide +kernel), by decide +kernel⟩
theorem zv_H_parseTokenAndLength : Cond.instanceMethod y_H_parseTokenAndLength ∈ ztb ∧ Cond.selects y_H_parseTokenAndLength.cls y_H_parseTokenAndLength y_H_parseTokenAndLength ∈ ztb := ⟨zmem 804 (by decide +kernel) (by decide +kernel), zmem 21 (by decide +kernel) (by decide +kernel)⟩
theorem d_H_parseTokenAndLength_0 : decode b_H_parseTokenAndLength 0 = .ok (.aload_n 0, 1) := by decide +kernel
theorem d_H_parseTokenAndLength_1 : decode b_H_parseTokenAndLength 1 = .ok (.getfield 9, 3) := by decide +kernel
theorem d_H_parseTokenAndLength_4 : decode b_H_parseTokenAndLength 4 = .ok (.iconst 0, 1) := by decide +kernel
theorem d_H_parseTokenAndLength_5 : decode b_H_parseTokenAndLength 5 = .ok (.iaload, 1) := by decide +kernel
theorem d_H_parseTokenAndLength_6 : decode b_H_parseTokenAndLength 6 = .ok (.ifCond .ne 29, 3) := by decide +kernel
theorem d_H_parseTokenAndLength_9 : decode b_H_parseTokenAndLength 9 = .ok (.aload_n 1, 1) := by decide +kernel
theorem d_H_parseTokenAndLength_10 : decode b_H_parseTokenAndLength 10 = .ok (.invokevirtual 67, 3) := by decide +kernel
theorem d_H_parseTokenAndLength_13 : decode b_H_parseTokenAndLength 13 = .ok (.lstore_n 2, 1) := by decide +kernel
theorem d_H_parseTokenAndLength_14 : decode b_H_parseTokenAndLength 14 = .ok (.aload_n 0, 1) := by decide +kernel
theorem d_H_parseTokenAndLength_15 : decode b_H_parseTokenAndLength 15 = .ok (.getfield 9, 3) := by decide +kernel
theorem d_H_parseTokenAndLength_18 : decode b_H_parseTokenAndLength 18 = .ok (.bipush 10, 2) := by decide +kernel
theorem d_H_parseTokenAndLength_20 : decode b_H_parseTokenAndLength 20 = .ok (.aload_n 1, 1) := by decide +kernel
theorem d_H_parseTokenAndLength_21 : decode b_H_parseTokenAndLength 21 = .ok (.lload_n 2, 1) := by decide +kernel
theorem d_H_parseTokenAndLength_22 : decode b_H_parseTokenAndLength 22 = .ok (.invokevirtual 49, 3) := by decide +kernel
theorem d_H_parseTokenAndLength_25 : decode b_H_parseTokenAndLength 25 = .ok (.iastore, 1) := by decide +kernel
theorem d_H_parseTokenAndLength_26 : decode b_H_parseTokenAndLength 26 = .ok (.aload_n 0, 1) := by decide +kernel
theorem d_H_parseTokenAndLength_27 : decode b_H_parseTokenAndLength 27 = .ok (.getfield 9, 3) := by decide +kernel
theorem d_H_parseTokenAndLength_30 : decode b_H_parseTokenAndLength 30 = .ok (.bipush 11, 2) := by decide +kernel
theorem d_H_parseTokenAndLength_32 : decode b_H_parseTokenAndLength 32 = .ok (.lload_n 2, 1) := by decide +kernel
theorem d_H_parseTokenAndLength_33 : decode b_H_parseTokenAndLength 33 = .ok (.l2i, 1) := by decide +kernel
theorem d_H_parseTokenAndLength_34 : decode b_H_parseTokenAndLength 34 = .ok (.iastore, 1) := by decide +kernel
theorem d_H_parseTokenAndLength_35 : decode b_H_parseTokenAndLength 35 = .ok (.aload_n 1, 1) := by decide +kernel
theorem d_H_parseTokenAndLength_36 : decode b_H_parseTokenAndLength 36 = .ok (.invokevirtual 67, 3) := by decide +kernel
theorem d_H_parseTokenAndLength_39 : decode b_H_parseTokenAndLength 39 = .ok (.lstore_n 2, 1) := by decide +kernel
theorem d_H_parseTokenAndLength_40 : decode b_H_parseTokenAndLength 40 = .ok (.aload_n 0, 1) := by decide +kernel
theorem d_H_parseTokenAndLength_41 : decode b_H_parseTokenAndLength 41 = .ok (.getfield 9, 3) := by decide +kernel
theorem d_H_parseTokenAndLength_44 : decode b_H_parseTokenAndLength 44 = .ok (.iconst 4, 1) := by decide +kernel
theorem d_H_parseTokenAndLength_45 : decode b_H_parseTokenAndLength 45 = .ok (.aload_n 1, 1) := by decide +kernel
theorem d_H_parseTokenAndLength_46 : decode b_H_parseTokenAndLength 46 = .ok (.getfield 21, 3) := by decide +kernel
theorem d_H_parseTokenAndLength_49 : decode b_H_parseTokenAndLength 49 = .ok (.iastore, 1) := by decide +kernel
theorem d_H_parseTokenAndLength_50 : decode b_H_parseTokenAndLength 50 = .ok (.aload_n 1, 1) := by decide +kernel
theorem d_H_parseTokenAndLength_51 : decode b_H_parseTokenAndLength 51 = .ok (.lload_n 2, 1) := by decide +kernel
theorem d_H_parseTokenAndLength_52 : decode b_H_parseTokenAndLength 52 = .ok (.invokevirtual 49, 3) := by decide +kernel
theorem d_H_parseTokenAndLength_55 : decode b_H_parseTokenAndLength 55 = .ok (.pop, 1) := by decide +kernel
theorem d_H_parseTokenAndLength_56 : decode b_H_parseTokenAndLength 56 = .ok (.aload_n 0, 1) := by decide +kernel
theorem d_H_parseTokenAndLength_57 : decode b_H_parseTokenAndLength 57 = .ok (.getfield 9, 3) := by decide +kernel
theorem d_H_parseTokenAndLength_60 : decode b_H_parseTokenAndLength 60 = .ok (.iconst 5, 1) := by decide +kernel
theorem d_H_parseTokenAndLength_61 : decode b_H_parseTokenAndLength 61 = .ok (.aload_n 1, 1) := by decide +kernel
theorem d_H_parseTokenAndLength_62 : decode b_H_parseTokenAndLength 62 = .ok (.getfield 21, 3) := by decide +kernel
theorem d_H_parseTokenAndLength_65 : decode b_H_parseTokenAndLength 65 = .ok (.iastore, 1) := by decide +kernel
theorem d_H_parseTokenAndLength_66 : decode b_H_parseTokenAndLength 66 = .ok (.aload_n 1, 1) := by decide +kernel
theorem d_H_parseTokenAndLength_67 : decode b_H_parseTokenAndLength 67 = .ok (.getfield 31, 3) := by decide +kernel
theorem d_H_parseTokenAndLength_70 : decode b_H_parseTokenAndLength 70 = .ok (.ifCond .ne 11, 3) := by decide +kernel
theorem d_H_parseTokenAndLength_73 : decode b_H_parseTokenAndLength 73 = .ok (.lload_n 2, 1) := by decide +kernel
theorem d_H_parseTokenAndLength_74 : decode b_H_parseTokenAndLength 74 = .ok (.ldc2_w 71, 3) := by decide +kernel
theorem d_H_parseTokenAndLength_77 : decode b_H_parseTokenAndLength 77 = .ok (.lcmp, 1) := by decide +kernel
theorem d_H_parseTokenAndLength_78 : decode b_H_parseTokenAndLength 78 = .ok (.ifCond .ge 7, 3) := by decide +kernel
theorem d_H_parseTokenAndLength_81 : decode b_H_parseTokenAndLength 81 = .ok (.iconst 1, 1) := by decide +kernel
theorem d_H_parseTokenAndLength_82 : decode b_H_parseTokenAndLength 82 = .ok (.goto 4, 3) := by decide +kernel
theorem d_H_parseTokenAndLength_85 : decode b_H_parseTokenAndLength 85 = .ok (.iconst 0, 1) := by decide +kernel
theorem d_H_parseTokenAndLength_86 : decode b_H_parseTokenAndLength 86 = .ok (.ireturn, 1) := by decide +kernel
theorem zy_P_parseNext : zy y_P_parseNext b_P_parseNext 12 (some .int) 2 := ⟨zmem 885 (by decide +kernel) (by decide +kernel), zmem 69 (by decide +kernel) (by decide +kernel), by decide +kernel⟩
theorem zv_P_parseNext : Cond.instanceMethod y_P_parseNext ∈ ztb ∧ Cond.selects y_P_parseNext.cls y_P_parseNext y_P_parseNext ∈ ztb := ⟨zmem 883 (by decide +kernel) (by decide +kernel), zmem 884 (by decide +kernel) (by decide +kernel)⟩
theorem d_P_parseNext_0 : decode b_P_parseNext 0 = .ok (.aload_n 1, 1) := by decide +kernel
theorem d_P_parseNext_1 : decode b_P_parseNext 1 = .ok (.invokevirtual 34, 3) := by decide +kernel
theorem d_P_parseNext_4 : decode b_P_parseNext 4 = .ok (.lstore_n 3, 1) := by decide +kernel
theorem d_P_parseNext_5 : decode b_P_parseNext 5 = .ok (.aload_n 1, 1) := by decide +kernel
theorem d_P_parseNext_6 : decode b_P_parseNext 6 = .ok (.invokevirtual 34, 3) := by decide +kernel
theorem d_P_parseNext_9 : decode b_P_parseNext 9 = .ok (.lstore 5, 2) := by decide +kernel
theorem d_P_parseNext_11 : decode b_P_parseNext 11 = .ok (.aload_n 1, 1) := by decide +kernel
theorem d_P_parseNext_12 : decode b_P_parseNext 12 = .ok (.lload 5, 2) := by decide +kernel
theorem d_P_parseNext_14 : decode b_P_parseNext 14 = .ok (.invokevirtual 40, 3) := by decide +kernel
theorem d_P_parseNext_17 : decode b_P_parseNext 17 = .ok (.istore 7, 2) := by decide +kernel
theorem d_P_parseNext_19 : decode b_P_parseNext 19 = .ok (.aload_n 1, 1) := by decide +kernel
theorem d_P_parseNext_20 : decode b_P_parseNext 20 = .ok (.getfield 44, 3) := by decide +kernel
theorem d_P_parseNext_23 : decode b_P_parseNext 23 = .ok (.ifCond .eq 5, 3) := by decide +kernel
theorem d_P_parseNext_26 : decode b_P_parseNext 26 = .ok (.iconst 1, 1) := by decide +kernel
theorem d_P_parseNext_27 : decode b_P_parseNext 27 = .ok (.ireturn, 1) := by decide +kernel
theorem d_P_parseNext_28 : decode b_P_parseNext 28 = .ok (.lload_n 3, 1) := by decide +kernel
theorem d_P_parseNext_29 : decode b_P_parseNext 29 = .ok (.lconst 0, 1) := by decide +kernel
theorem d_P_parseNext_30 : decode b_P_parseNext 30 = .ok (.lcmp, 1) := by decide +kernel
theorem d_P_parseNext_31 : decode b_P_parseNext 31 = .ok (.ifCond .lt 11, 3) := by decide +kernel
theorem d_P_parseNext_34 : decode b_P_parseNext 34 = .ok (.lload_n 3, 1) := by decide +kernel
theorem d_P_parseNext_35 : decode b_P_parseNext 35 = .ok (.ldc2_w 48, 3) := by decide +kernel
theorem d_P_parseNext_38 : decode b_P_parseNext 38 = .ok (.lcmp, 1) := by decide +kernel
theorem d_P_parseNext_39 : decode b_P_parseNext 39 = .ok (.ifCond .le 5, 3) := by decide +kernel
theorem d_P_parseNext_42 : decode b_P_parseNext 42 = .ok (.iconst 0, 1) := by decide +kernel
theorem d_P_parseNext_43 : decode b_P_parseNext 43 = .ok (.ireturn, 1) := by decide +kernel
theorem d_P_parseNext_44 : decode b_P_parseNext 44 = .ok (.lload_n 3, 1) := by decide +kernel
theorem d_P_parseNext_45 : decode b_P_parseNext 45 = .ok (.l2i, 1) := by decide +kernel
theorem d_P_parseNext_46 : decode b_P_parseNext 46 = .ok (.istore 8, 2) := by decide +kernel
theorem d_P_parseNext_48 : decode b_P_parseNext 48 = .ok (.iconst 1, 1) := by decide +kernel
theorem d_P_parseNext_49 : decode b_P_parseNext 49 = .ok (.iload 8, 2) := by decide +kernel
theorem d_P_parseNext_51 : decode b_P_parseNext 51 = .ok (.ishl, 1) := by decide +kernel
theorem d_P_parseNext_52 : decode b_P_parseNext 52 = .ok (.istore 9, 2) := by decide +kernel
theorem d_P_parseNext_54 : decode b_P_parseNext 54 = .ok (.aload_n 0, 1) := by decide +kernel
theorem d_P_parseNext_55 : decode b_P_parseNext 55 = .ok (.getfield 30, 3) := by decide +kernel
theorem d_P_parseNext_58 : decode b_P_parseNext 58 = .ok (.iload 9, 2) := by decide +kernel
theorem d_P_parseNext_60 : decode b_P_parseNext 60 = .ok (.iand, 1) := by decide +kernel
theorem d_P_parseNext_61 : decode b_P_parseNext 61 = .ok (.ifCond .eq 5, 3) := by decide +kernel
theorem d_P_parseNext_64 : decode b_P_parseNext 64 = .ok (.iconst 2, 1) := by decide +kernel
theorem d_P_parseNext_65 : decode b_P_parseNext 65 = .ok (.ireturn, 1) := by decide +kernel
theorem d_P_parseNext_66 : decode b_P_parseNext 66 = .ok (.iload_n 2, 1) := by decide +kernel
theorem d_P_parseNext_67 : decode b_P_parseNext 67 = .ok (.ifCond .ne 13, 3) := by decide +kernel
theorem d_P_parseNext_70 : decode b_P_parseNext 70 = .ok (.ldc 50, 2) := by decide +kernel
theorem d_P_parseNext_72 : decode b_P_parseNext 72 = .ok (.iload 9, 2) := by decide +kernel
theorem d_P_parseNext_74 : decode b_P_parseNext 74 = .ok (.iand, 1) := by decide +kernel
theorem d_P_parseNext_75 : decode b_P_parseNext 75 = .ok (.ifCond .eq 5, 3) := by decide +kernel
theorem d_P_parseNext_78 : decode b_P_parseNext 78 = .ok (.iconst 4, 1) := by decide +kernel
theorem d_P_parseNext_79 : decode b_P_parseNext 79 = .ok (.ireturn, 1) := by decide +kernel
theorem d_P_parseNext_80 : decode b_P_parseNext 80 = .ok (.ldc 51, 2) := by decide +kernel
theorem d_P_parseNext_82 : decode b_P_parseNext 82 = .ok (.iload 9, 2) := by decide +kernel
theorem d_P_parseNext_84 : decode b_P_parseNext 84 = .ok (.iand, 1) := by decide +kernel
theorem d_P_parseNext_85 : decode b_P_parseNext 85 = .ok (.ifCond .eq 8, 3) := by decide +kernel
theorem d_P_parseNext_88 : decode b_P_parseNext 88 = .ok (.lload 5, 2) := by decide +kernel
theorem d_P_parseNext_90 : decode b_P_parseNext 90 = .ok (.goto 11, 3) := by decide +kernel
theorem d_P_parseNext_93 : decode b_P_parseNext 93 = .ok (.aload_n 1, 1) := by decide +kernel
theorem d_P_parseNext_94 : decode b_P_parseNext 94 = .ok (.iload 7, 2) := by decide +kernel
theorem d_P_parseNext_96 : decode b_P_parseNext 96 = .ok (.lload 5, 2) := by decide +kernel
theorem d_P_parseNext_98 : decode b_P_parseNext 98 = .ok (.invokevirtual 52, 3) := by decide +kernel
theorem d_P_parseNext_101 : decode b_P_parseNext 101 = .ok (.lstore 10, 2) := by decide +kernel
theorem d_P_parseNext_103 : decode b_P_parseNext 103 = .ok (.lload 10, 2) := by decide +kernel
theorem d_P_parseNext_105 : decode b_P_parseNext 105 = .ok (.getstatic 56, 3) := by decide +kernel
theorem d_P_parseNext_108 : decode b_P_parseNext 108 = .ok (.iload 8, 2) := by decide +kernel
theorem d_P_parseNext_110 : decode b_P_parseNext 110 = .ok (.laload, 1) := by decide +kernel
theorem d_P_parseNext_111 : decode b_P_parseNext 111 = .ok (.lcmp, 1) := by decide +kernel
theorem d_P_parseNext_112 : decode b_P_parseNext 112 = .ok (.ifCond .lt 15, 3) := by decide +kernel
theorem d_P_parseNext_115 : decode b_P_parseNext 115 = .ok (.lload 10, 2) := by decide +kernel
theorem d_P_parseNext_117 : decode b_P_parseNext 117 = .ok (.getstatic 59, 3) := by decide +kernel
theorem d_P_parseNext_120 : decode b_P_parseNext 120 = .ok (.iload 8, 2) := by decide +kernel
theorem d_P_parseNext_122 : decode b_P_parseNext 122 = .ok (.laload, 1) := by decide +kernel
theorem d_P_parseNext_123 : decode b_P_parseNext 123 = .ok (.lcmp, 1) := by decide +kernel
theorem d_P_parseNext_124 : decode b_P_parseNext 124 = .ok (.ifCond .le 5, 3) := by decide +kernel
theorem d_P_parseNext_127 : decode b_P_parseNext 127 = .ok (.iconst 3, 1) := by decide +kernel
theorem d_P_parseNext_128 : decode b_P_parseNext 128 = .ok (.ireturn, 1) := by decide +kernel
theorem d_P_parseNext_129 : decode b_P_parseNext 129 = .ok (.aload_n 0, 1) := by decide +kernel
theorem d_P_parseNext_130 : decode b_P_parseNext 130 = .ok (.dup, 1) := by decide +kernel
theorem d_P_parseNext_131 : decode b_P_parseNext 131 = .ok (.getfield 30, 3) := by decide +kernel
theorem d_P_parseNext_134 : decode b_P_parseNext 134 = .ok (.iload 9, 2) := by decide +kernel
theorem d_P_parseNext_136 : decode b_P_parseNext 136 = .ok (.ior, 1) := by decide +kernel
theorem d_P_parseNext_137 : decode b_P_parseNext 137 = .ok (.putfield 30, 3) := by decide +kernel
theorem d_P_parseNext_140 : decode b_P_parseNext 140 = .ok (.aload_n 0, 1) := by decide +kernel
theorem d_P_parseNext_141 : decode b_P_parseNext 141 = .ok (.getfield 21, 3) := by decide +kernel
theorem d_P_parseNext_144 : decode b_P_parseNext 144 = .ok (.iload 8, 2) := by decide +kernel
theorem d_P_parseNext_146 : decode b_P_parseNext 146 = .ok (.iload 8, 2) := by decide +kernel
theorem d_P_parseNext_148 : decode b_P_parseNext 148 = .ok (.bipush 12, 2) := by decide +kernel
theorem d_P_parseNext_150 : decode b_P_parseNext 150 = .ok (.if_icmp .ne 7, 3) := by decide +kernel
theorem d_P_parseNext_153 : decode b_P_parseNext 153 = .ok (.lconst 1, 1) := by decide +kernel
theorem d_P_parseNext_154 : decode b_P_parseNext 154 = .ok (.goto 5, 3) := by decide +kernel
theorem d_P_parseNext_157 : decode b_P_parseNext 157 = .ok (.lload 10, 2) := by decide +kernel
theorem d_P_parseNext_159 : decode b_P_parseNext 159 = .ok (.lastore, 1) := by decide +kernel
theorem d_P_parseNext_160 : decode b_P_parseNext 160 = .ok (.iconst 0, 1) := by decide +kernel
theorem d_P_parseNext_161 : decode b_P_parseNext 161 = .ok (.ireturn, 1) := by decide +kernel
theorem zy_W_put : zy y_W_put b_W_put 2 (some .int) 1 := ⟨zmem 723 (by decide +kernel) (by decide +kernel), zmem 62 (by decide +kernel) (by decide +kernel), by decide +kernel⟩
theorem zv_W_put : Cond.instanceMethod y_W_put ∈ ztb ∧ Cond.selects y_W_put.cls y_W_put y_W_put ∈ ztb := ⟨zmem 721 (by decide +kernel) (by decide +kernel), zmem 722 (by decide +kernel) (by decide +kernel)⟩
theorem d_W_put_0 : decode b_W_put 0 = .ok (.aload_n 0, 1) := by decide +kernel
theorem d_W_put_1 : decode b_W_put 1 = .ok (.getfield 49, 3) := by decide +kernel
theorem d_W_put_4 : decode b_W_put 4 = .ok (.iload_n 1, 1) := by decide +kernel
theorem d_W_put_5 : decode b_W_put 5 = .ok (.invokevirtual 229, 3) := by decide +kernel
theorem d_W_put_8 : decode b_W_put 8 = .ok (.ifCond .ne 13, 3) := by decide +kernel
theorem d_W_put_11 : decode b_W_put 11 = .ok (.new 60, 3) := by decide +kernel
theorem d_W_put_14 : decode b_W_put 14 = .ok (.dup, 1) := by decide +kernel
theorem d_W_put_15 : decode b_W_put 15 = .ok (.ldc 232, 2) := by decide +kernel
theorem d_W_put_17 : decode b_W_put 17 = .ok (.invokespecial 64, 3) := by decide +kernel
theorem d_W_put_20 : decode b_W_put 20 = .ok (.athrow, 1) := by decide +kernel
theorem d_W_put_21 : decode b_W_put 21 = .ok (.aload_n 0, 1) := by decide +kernel
theorem d_W_put_22 : decode b_W_put 22 = .ok (.getfield 12, 3) := by decide +kernel
theorem d_W_put_25 : decode b_W_put 25 = .ok (.invokevirtual 67, 3) := by decide +kernel
theorem d_W_put_28 : decode b_W_put 28 = .ok (.aload_n 0, 1) := by decide +kernel
theorem d_W_put_29 : decode b_W_put 29 = .ok (.getfield 49, 3) := by decide +kernel
theorem d_W_put_32 : decode b_W_put 32 = .ok (.aload_n 0, 1) := by decide +kernel
theorem d_W_put_33 : decode b_W_put 33 = .ok (.getfield 12, 3) := by decide +kernel
theorem d_W_put_36 : decode b_W_put 36 = .ok (.iload_n 1, 1) := by decide +kernel
theorem d_W_put_37 : decode b_W_put 37 = .ok (.invokevirtual 234, 3) := by decide +kernel
theorem d_W_put_40 : decode b_W_put 40 = .ok (.aload_n 0, 1) := by decide +kernel
theorem d_W_put_41 : decode b_W_put 41 = .ok (.invokevirtual 74, 3) := by decide +kernel
theorem d_W_put_44 : decode b_W_put 44 = .ok (.ireturn, 1) := by decide +kernel
theorem zy_W_parameters : zy y_W_parameters b_W_parameters 6 (some .int) 2 := ⟨zmem 881 (by decide +kernel) (by decide +kernel), zmem 62 (by decide +kernel) (by decide +kernel), by decide +kernel⟩
theorem zv_W_parameters : Cond.instanceMethod y_W_parameters ∈ ztb ∧ Cond.selects y_W_parameters.cls y_W_parameters y_W_parameters ∈ ztb := ⟨zmem 879 (by decide +kernel) (by decide +kernel), zmem 880 (by decide +kernel) (by decide +kernel)⟩
theorem d_W_parameters_0 : decode b_W_parameters 0 = .ok (.aload_n 0, 1) := by decide +kernel
theorem d_W_parameters_1 : decode b_W_parameters 1 = .ok (.iload_n 1, 1) := by decide +kernel
theorem d_W_parameters_2 : decode b_W_parameters 2 = .ok (.invokevirtual 127, 3) := by decide +kernel
theorem d_W_parameters_5 : decode b_W_parameters 5 = .ok (.aload_n 0, 1) := by decide +kernel
theorem d_W_parameters_6 : decode b_W_parameters 6 = .ok (.getfield 28, 3) := by decide +kernel
theorem d_W_parameters_9 : decode b_W_parameters 9 = .ok (.aload_n 0, 1) := by decide +kernel
theorem d_W_parameters_10 : decode b_W_parameters 10 = .ok (.getfield 12, 3) := by decide +kernel
theorem d_W_parameters_13 : decode b_W_parameters 13 = .ok (.getfield 95, 3) := by decide +kernel
theorem d_W_parameters_16 : decode b_W_parameters 16 = .ok (.iconst 0, 1) := by decide +kernel
theorem d_W_parameters_17 : decode b_W_parameters 17 = .ok (.invokevirtual 99, 3) := by decide +kernel
theorem d_W_parameters_20 : decode b_W_parameters 20 = .ok (.aload_n 0, 1) := by decide +kernel
theorem d_W_parameters_21 : decode b_W_parameters 21 = .ok (.getfield 56, 3) := by decide +kernel
theorem d_W_parameters_24 : decode b_W_parameters 24 = .ok (.invokevirtual 103, 3) := by decide +kernel
theorem d_W_parameters_27 : decode b_W_parameters 27 = .ok (.aload_n 0, 1) := by decide +kernel
theorem d_W_parameters_28 : decode b_W_parameters 28 = .ok (.getfield 21, 3) := by decide +kernel
theorem d_W_parameters_31 : decode b_W_parameters 31 = .ok (.iload_n 1, 1) := by decide +kernel
theorem d_W_parameters_32 : decode b_W_parameters 32 = .ok (.aload_n 0, 1) := by decide +kernel
theorem d_W_parameters_33 : decode b_W_parameters 33 = .ok (.getfield 28, 3) := by decide +kernel
theorem d_W_parameters_36 : decode b_W_parameters 36 = .ok (.getfield 132, 3) := by decide +kernel
theorem d_W_parameters_39 : decode b_W_parameters 39 = .ok (.invokevirtual 114, 3) := by decide +kernel
theorem d_W_parameters_42 : decode b_W_parameters 42 = .ok (.iconst 0, 1) := by decide +kernel
theorem d_W_parameters_43 : decode b_W_parameters 43 = .ok (.istore_n 3, 1) := by decide +kernel
theorem d_W_parameters_44 : decode b_W_parameters 44 = .ok (.iload_n 3, 1) := by decide +kernel
theorem d_W_parameters_45 : decode b_W_parameters 45 = .ok (.ldc 135, 2) := by decide +kernel
theorem d_W_parameters_47 : decode b_W_parameters 47 = .ok (.if_icmp .ge 67, 3) := by decide +kernel
theorem d_W_parameters_50 : decode b_W_parameters 50 = .ok (.aload_n 0, 1) := by decide +kernel
theorem d_W_parameters_51 : decode b_W_parameters 51 = .ok (.getfield 21, 3) := by decide +kernel
theorem d_W_parameters_54 : decode b_W_parameters 54 = .ok (.invokevirtual 136, 3) := by decide +kernel
theorem d_W_parameters_57 : decode b_W_parameters 57 = .ok (.ifCond .le 57, 3) := by decide +kernel
theorem d_W_parameters_60 : decode b_W_parameters 60 = .ok (.aload_n 0, 1) := by decide +kernel
theorem d_W_parameters_61 : decode b_W_parameters 61 = .ok (.getfield 21, 3) := by decide +kernel
theorem d_W_parameters_64 : decode b_W_parameters 64 = .ok (.getfield 139, 3) := by decide +kernel
theorem d_W_parameters_67 : decode b_W_parameters 67 = .ok (.istore 4, 2) := by decide +kernel
theorem d_W_parameters_69 : decode b_W_parameters 69 = .ok (.aload_n 0, 1) := by decide +kernel
theorem d_W_parameters_70 : decode b_W_parameters 70 = .ok (.getfield 56, 3) := by decide +kernel
theorem d_W_parameters_73 : decode b_W_parameters 73 = .ok (.aload_n 0, 1) := by decide +kernel
theorem d_W_parameters_74 : decode b_W_parameters 74 = .ok (.getfield 21, 3) := by decide +kernel
theorem d_W_parameters_77 : decode b_W_parameters 77 = .ok (.iload_n 2, 1) := by decide +kernel
theorem d_W_parameters_78 : decode b_W_parameters 78 = .ok (.invokevirtual 286, 3) := by decide +kernel
theorem d_W_parameters_81 : decode b_W_parameters 81 = .ok (.istore 5, 2) := by decide +kernel
theorem d_W_parameters_83 : decode b_W_parameters 83 = .ok (.iload 5, 2) := by decide +kernel
theorem d_W_parameters_85 : decode b_W_parameters 85 = .ok (.ifCond .eq 23, 3) := by decide +kernel
theorem d_W_parameters_88 : decode b_W_parameters 88 = .ok (.aload_n 0, 1) := by decide +kernel
theorem d_W_parameters_89 : decode b_W_parameters 89 = .ok (.getfield 28, 3) := by decide +kernel
theorem d_W_parameters_92 : decode b_W_parameters 92 = .ok (.iload 5, 2) := by decide +kernel
theorem d_W_parameters_94 : decode b_W_parameters 94 = .ok (.iload 4, 2) := by decide +kernel
theorem d_W_parameters_96 : decode b_W_parameters 96 = .ok (.invokevirtual 146, 3) := by decide +kernel
theorem d_W_parameters_99 : decode b_W_parameters 99 = .ok (.aload_n 0, 1) := by decide +kernel
theorem d_W_parameters_100 : decode b_W_parameters 100 = .ok (.getfield 56, 3) := by decide +kernel
theorem d_W_parameters_103 : decode b_W_parameters 103 = .ok (.invokevirtual 103, 3) := by decide +kernel
theorem d_W_parameters_106 : decode b_W_parameters 106 = .ok (.iconst (-1), 1) := by decide +kernel
theorem d_W_parameters_107 : decode b_W_parameters 107 = .ok (.ireturn, 1) := by decide +kernel
theorem d_W_parameters_108 : decode b_W_parameters 108 = .ok (.iinc 3 1, 3) := by decide +kernel
theorem d_W_parameters_111 : decode b_W_parameters 111 = .ok (.goto (-67), 3) := by decide +kernel
theorem d_W_parameters_114 : decode b_W_parameters 114 = .ok (.aload_n 0, 1) := by decide +kernel
theorem d_W_parameters_115 : decode b_W_parameters 115 = .ok (.getfield 56, 3) := by decide +kernel
theorem d_W_parameters_118 : decode b_W_parameters 118 = .ok (.getfield 290, 3) := by decide +kernel
theorem d_W_parameters_121 : decode b_W_parameters 121 = .ok (.invokestatic 293, 3) := by decide +kernel
theorem d_W_parameters_124 : decode b_W_parameters 124 = .ok (.ireturn, 1) := by decide +kernel
theorem zy_F_takeRest : zy y_F_takeRest b_F_takeRest 4 none 3 := ⟨zmem 594 (by decide +kernel) (by decide +kernel), zmem 66 (by decide +kernel) (by decide +kernel), by decide +kernel⟩
theorem zv_F_takeRest : Cond.instanceMethod y_F_takeRest ∈ ztb ∧ Cond.selects y_F_takeRest.cls y_F_takeRest y_F_takeRest ∈ ztb := ⟨zmem 593 (by decide +kernel) (by decide +kernel), zmem 7 (by decide +kernel) (by decide +kernel)⟩
theorem d_F_takeRest_0 : decode b_F_takeRest 0 = .ok (.iload_n 2, 1) := by decide +kernel
theorem d_F_takeRest_1 : decode b_F_takeRest 1 = .ok (.lookupswitch 166 #[(0, 67), (2, 83), (3, 83), (8, 112), (24, 121), (26, 151), (27, 151)], 67) := by decide +kernel
theorem d_F_takeRest_68 : decode b_F_takeRest 68 = .ok (.aload_n 0, 1) := by decide +kernel
theorem d_F_takeRest_69 : decode b_F_takeRest 69 = .ok (.getfield 9, 3) := by decide +kernel
theorem d_F_takeRest_72 : decode b_F_takeRest 72 = .ok (.iconst 0, 1) := by decide +kernel
theorem d_F_takeRest_73 : decode b_F_takeRest 73 = .ok (.iconst 1, 1) := by decide +kernel
theorem d_F_takeRest_74 : decode b_F_takeRest 74 = .ok (.aload_n 1, 1) := by decide +kernel
theorem d_F_takeRest_75 : decode b_F_takeRest 75 = .ok (.invokevirtual 75, 3) := by decide +kernel
theorem d_F_takeRest_78 : decode b_F_takeRest 78 = .ok (.iadd, 1) := by decide +kernel
theorem d_F_takeRest_79 : decode b_F_takeRest 79 = .ok (.i2l, 1) := by decide +kernel
theorem d_F_takeRest_80 : decode b_F_takeRest 80 = .ok (.lastore, 1) := by decide +kernel
theorem d_F_takeRest_81 : decode b_F_takeRest 81 = .ok (.goto 86, 3) := by decide +kernel
theorem d_F_takeRest_84 : decode b_F_takeRest 84 = .ok (.aload_n 0, 1) := by decide +kernel
theorem d_F_takeRest_85 : decode b_F_takeRest 85 = .ok (.aload_n 1, 1) := by decide +kernel
theorem d_F_takeRest_86 : decode b_F_takeRest 86 = .ok (.invokevirtual 79, 3) := by decide +kernel
theorem d_F_takeRest_89 : decode b_F_takeRest 89 = .ok (.aload_n 0, 1) := by decide +kernel
theorem d_F_takeRest_90 : decode b_F_takeRest 90 = .ok (.aload_n 1, 1) := by decide +kernel
theorem d_F_takeRest_91 : decode b_F_takeRest 91 = .ok (.aload_n 0, 1) := by decide +kernel
theorem d_F_takeRest_92 : decode b_F_takeRest 92 = .ok (.getfield 9, 3) := by decide +kernel
theorem d_F_takeRest_95 : decode b_F_takeRest 95 = .ok (.bipush 6, 2) := by decide +kernel
theorem d_F_takeRest_97 : decode b_F_takeRest 97 = .ok (.laload, 1) := by decide +kernel
theorem d_F_takeRest_98 : decode b_F_takeRest 98 = .ok (.l2i, 1) := by decide +kernel
theorem d_F_takeRest_99 : decode b_F_takeRest 99 = .ok (.iconst 1, 1) := by decide +kernel
theorem d_F_takeRest_100 : decode b_F_takeRest 100 = .ok (.isub, 1) := by decide +kernel
theorem d_F_takeRest_101 : decode b_F_takeRest 101 = .ok (.invokevirtual 83, 3) := by decide +kernel
theorem d_F_takeRest_104 : decode b_F_takeRest 104 = .ok (.aload_n 0, 1) := by decide +kernel
theorem d_F_takeRest_105 : decode b_F_takeRest 105 = .ok (.aload_n 1, 1) := by decide +kernel
theorem d_F_takeRest_106 : decode b_F_takeRest 106 = .ok (.iload_n 2, 1) := by decide +kernel
theorem d_F_takeRest_107 : decode b_F_takeRest 107 = .ok (.invokevirtual 86, 3) := by decide +kernel
theorem d_F_takeRest_110 : decode b_F_takeRest 110 = .ok (.goto 57, 3) := by decide +kernel
theorem d_F_takeRest_113 : decode b_F_takeRest 113 = .ok (.aload_n 0, 1) := by decide +kernel
theorem d_F_takeRest_114 : decode b_F_takeRest 114 = .ok (.aload_n 1, 1) := by decide +kernel
theorem d_F_takeRest_115 : decode b_F_takeRest 115 = .ok (.iload_n 3, 1) := by decide +kernel
theorem d_F_takeRest_116 : decode b_F_takeRest 116 = .ok (.invokevirtual 89, 3) := by decide +kernel
theorem d_F_takeRest_119 : decode b_F_takeRest 119 = .ok (.goto 48, 3) := by decide +kernel
theorem d_F_takeRest_122 : decode b_F_takeRest 122 = .ok (.aload_n 0, 1) := by decide +kernel
theorem d_F_takeRest_123 : decode b_F_takeRest 123 = .ok (.aload_n 1, 1) := by decide +kernel
theorem d_F_takeRest_124 : decode b_F_takeRest 124 = .ok (.aload_n 1, 1) := by decide +kernel
theorem d_F_takeRest_125 : decode b_F_takeRest 125 = .ok (.iconst 1, 1) := by decide +kernel
theorem d_F_takeRest_126 : decode b_F_takeRest 126 = .ok (.invokevirtual 24, 3) := by decide +kernel
theorem d_F_takeRest_129 : decode b_F_takeRest 129 = .ok (.invokevirtual 71, 3) := by decide +kernel
theorem d_F_takeRest_132 : decode b_F_takeRest 132 = .ok (.aload_n 0, 1) := by decide +kernel
theorem d_F_takeRest_133 : decode b_F_takeRest 133 = .ok (.aload_n 1, 1) := by decide +kernel
theorem d_F_takeRest_134 : decode b_F_takeRest 134 = .ok (.ldc2_w 92, 3) := by decide +kernel
theorem d_F_takeRest_137 : decode b_F_takeRest 137 = .ok (.invokevirtual 94, 3) := by decide +kernel
theorem d_F_takeRest_140 : decode b_F_takeRest 140 = .ok (.putfield 98, 3) := by decide +kernel
theorem d_F_takeRest_143 : decode b_F_takeRest 143 = .ok (.aload_n 0, 1) := by decide +kernel
theorem d_F_takeRest_144 : decode b_F_takeRest 144 = .ok (.bipush 16, 2) := by decide +kernel
theorem d_F_takeRest_146 : decode b_F_takeRest 146 = .ok (.putfield 68, 3) := by decide +kernel
theorem d_F_takeRest_149 : decode b_F_takeRest 149 = .ok (.goto 18, 3) := by decide +kernel
theorem d_F_takeRest_152 : decode b_F_takeRest 152 = .ok (.aload_n 0, 1) := by decide +kernel
theorem d_F_takeRest_153 : decode b_F_takeRest 153 = .ok (.getfield 9, 3) := by decide +kernel
theorem d_F_takeRest_156 : decode b_F_takeRest 156 = .ok (.iconst 0, 1) := by decide +kernel
theorem d_F_takeRest_157 : decode b_F_takeRest 157 = .ok (.aload_n 1, 1) := by decide +kernel
theorem d_F_takeRest_158 : decode b_F_takeRest 158 = .ok (.bipush 8, 2) := by decide +kernel
theorem d_F_takeRest_160 : decode b_F_takeRest 160 = .ok (.invokevirtual 24, 3) := by decide +kernel
theorem d_F_takeRest_163 : decode b_F_takeRest 163 = .ok (.lastore, 1) := by decide +kernel
theorem d_F_takeRest_164 : decode b_F_takeRest 164 = .ok (.goto 3, 3) := by decide +kernel
theorem d_F_takeRest_167 : decode b_F_takeRest 167 = .ok (.return_, 1) := by decide +kernel
theorem zy_H_parseLong : zy y_H_parseLong b_H_parseLong 7 (some .int) 2 := ⟨zmem 796 (by decide +kernel) (by decide +kernel), zmem 67 (by decide +kernel) (by decide +kernel), by decide +kernel⟩
theorem zv_H_parseLong : Cond.instanceMethod y_H_parseLong ∈ ztb ∧ Cond.selects y_H_parseLong.cls y_H_parseLong y_H_parseLong ∈ ztb := ⟨zmem 795 (by decide +kernel) (by decide +kernel), zmem 19 (by decide +kernel) (by decide +kernel)⟩
theorem d_H_parseLong_0 : decode b_H_parseLong 0 = .ok (.aload_n 0, 1) := by decide +kernel
theorem d_H_parseLong_1 : decode b_H_parseLong 1 = .ok (.getfield 9, 3) := by decide +kernel
theorem d_H_parseLong_4 : decode b_H_parseLong 4 = .ok (.iconst 0, 1) := by decide +kernel
theorem d_H_parseLong_5 : decode b_H_parseLong 5 = .ok (.iload_n 2, 1) := by decide +kernel
theorem d_H_parseLong_6 : decode b_H_parseLong 6 = .ok (.iconst 4, 1) := by decide +kernel
theorem d_H_parseLong_7 : decode b_H_parseLong 7 = .ok (.ishr, 1) := by decide +kernel
theorem d_H_parseLong_8 : decode b_H_parseLong 8 = .ok (.iconst 3, 1) := by decide +kernel
theorem d_H_parseLong_9 : decode b_H_parseLong 9 = .ok (.iand, 1) := by decide +kernel
theorem d_H_parseLong_10 : decode b_H_parseLong 10 = .ok (.iastore, 1) := by decide +kernel
theorem d_H_parseLong_11 : decode b_H_parseLong 11 = .ok (.aload_n 0, 1) := by decide +kernel
theorem d_H_parseLong_12 : decode b_H_parseLong 12 = .ok (.getfield 9, 3) := by decide +kernel
theorem d_H_parseLong_15 : decode b_H_parseLong 15 = .ok (.iconst 1, 1) := by decide +kernel
theorem d_H_parseLong_16 : decode b_H_parseLong 16 = .ok (.iload_n 2, 1) := by decide +kernel
theorem d_H_parseLong_17 : decode b_H_parseLong 17 = .ok (.bipush 15, 2) := by decide +kernel
theorem d_H_parseLong_19 : decode b_H_parseLong 19 = .ok (.iand, 1) := by decide +kernel
theorem d_H_parseLong_20 : decode b_H_parseLong 20 = .ok (.iastore, 1) := by decide +kernel
theorem d_H_parseLong_21 : decode b_H_parseLong 21 = .ok (.aload_n 1, 1) := by decide +kernel
theorem d_H_parseLong_22 : decode b_H_parseLong 22 = .ok (.iconst 4, 1) := by decide +kernel
theorem d_H_parseLong_23 : decode b_H_parseLong 23 = .ok (.invokevirtual 27, 3) := by decide +kernel
theorem d_H_parseLong_26 : decode b_H_parseLong 26 = .ok (.lstore_n 3, 1) := by decide +kernel
theorem d_H_parseLong_27 : decode b_H_parseLong 27 = .ok (.aload_n 0, 1) := by decide +kernel
theorem d_H_parseLong_28 : decode b_H_parseLong 28 = .ok (.aload_n 1, 1) := by decide +kernel
theorem d_H_parseLong_29 : decode b_H_parseLong 29 = .ok (.bipush 7, 2) := by decide +kernel
theorem d_H_parseLong_31 : decode b_H_parseLong 31 = .ok (.invokevirtual 60, 3) := by decide +kernel
theorem d_H_parseLong_34 : decode b_H_parseLong 34 = .ok (.istore 5, 2) := by decide +kernel
theorem d_H_parseLong_36 : decode b_H_parseLong 36 = .ok (.iload 5, 2) := by decide +kernel
theorem d_H_parseLong_38 : decode b_H_parseLong 38 = .ok (.iconst 1, 1) := by decide +kernel
theorem d_H_parseLong_39 : decode b_H_parseLong 39 = .ok (.if_icmp .ne 5, 3) := by decide +kernel
theorem d_H_parseLong_42 : decode b_H_parseLong 42 = .ok (.iconst 1, 1) := by decide +kernel
theorem d_H_parseLong_43 : decode b_H_parseLong 43 = .ok (.ireturn, 1) := by decide +kernel
theorem d_H_parseLong_44 : decode b_H_parseLong 44 = .ok (.lload_n 3, 1) := by decide +kernel
theorem d_H_parseLong_45 : decode b_H_parseLong 45 = .ok (.lconst 1, 1) := by decide +kernel
theorem d_H_parseLong_46 : decode b_H_parseLong 46 = .ok (.lcmp, 1) := by decide +kernel
theorem d_H_parseLong_47 : decode b_H_parseLong 47 = .ok (.ifCond .eq 5, 3) := by decide +kernel
theorem d_H_parseLong_50 : decode b_H_parseLong 50 = .ok (.iconst 3, 1) := by decide +kernel
theorem d_H_parseLong_51 : decode b_H_parseLong 51 = .ok (.ireturn, 1) := by decide +kernel
theorem d_H_parseLong_52 : decode b_H_parseLong 52 = .ok (.aload_n 0, 1) := by decide +kernel
theorem d_H_parseLong_53 : decode b_H_parseLong 53 = .ok (.getfield 9, 3) := by decide +kernel
theorem d_H_parseLong_56 : decode b_H_parseLong 56 = .ok (.iconst 2, 1) := by decide +kernel
theorem d_H_parseLong_57 : decode b_H_parseLong 57 = .ok (.iconst 1, 1) := by decide +kernel
theorem d_H_parseLong_58 : decode b_H_parseLong 58 = .ok (.iastore, 1) := by decide +kernel
theorem d_H_parseLong_59 : decode b_H_parseLong 59 = .ok (.iload 5, 2) := by decide +kernel
theorem d_H_parseLong_61 : decode b_H_parseLong 61 = .ok (.ifCond .eq 6, 3) := by decide +kernel
theorem d_H_parseLong_64 : decode b_H_parseLong 64 = .ok (.iload 5, 2) := by decide +kernel
theorem d_H_parseLong_66 : decode b_H_parseLong 66 = .ok (.ireturn, 1) := by decide +kernel
theorem d_H_parseLong_67 : decode b_H_parseLong 67 = .ok (.aload_n 0, 1) := by decide +kernel
theorem d_H_parseLong_68 : decode b_H_parseLong 68 = .ok (.getfield 9, 3) := by decide +kernel
theorem d_H_parseLong_71 : decode b_H_parseLong 71 = .ok (.bipush 6, 2) := by decide +kernel
theorem d_H_parseLong_73 : decode b_H_parseLong 73 = .ok (.aload_n 1, 1) := by decide +kernel
theorem d_H_parseLong_74 : decode b_H_parseLong 74 = .ok (.aload_n 0, 1) := by decide +kernel
theorem d_H_parseLong_75 : decode b_H_parseLong 75 = .ok (.getfield 9, 3) := by decide +kernel
theorem d_H_parseLong_78 : decode b_H_parseLong 78 = .ok (.bipush 7, 2) := by decide +kernel
theorem d_H_parseLong_80 : decode b_H_parseLong 80 = .ok (.iaload, 1) := by decide +kernel
theorem d_H_parseLong_81 : decode b_H_parseLong 81 = .ok (.i2l, 1) := by decide +kernel
theorem d_H_parseLong_82 : decode b_H_parseLong 82 = .ok (.invokevirtual 49, 3) := by decide +kernel
theorem d_H_parseLong_85 : decode b_H_parseLong 85 = .ok (.iastore, 1) := by decide +kernel
theorem d_H_parseLong_86 : decode b_H_parseLong 86 = .ok (.aload_n 0, 1) := by decide +kernel
theorem d_H_parseLong_87 : decode b_H_parseLong 87 = .ok (.aload_n 1, 1) := by decide +kernel
theorem d_H_parseLong_88 : decode b_H_parseLong 88 = .ok (.bipush 9, 2) := by decide +kernel
theorem d_H_parseLong_90 : decode b_H_parseLong 90 = .ok (.invokevirtual 60, 3) := by decide +kernel
theorem d_H_parseLong_93 : decode b_H_parseLong 93 = .ok (.istore 5, 2) := by decide +kernel
theorem d_H_parseLong_95 : decode b_H_parseLong 95 = .ok (.iload 5, 2) := by decide +kernel
theorem d_H_parseLong_97 : decode b_H_parseLong 97 = .ok (.ifCond .eq 6, 3) := by decide +kernel
theorem d_H_parseLong_100 : decode b_H_parseLong 100 = .ok (.iload 5, 2) := by decide +kernel
theorem d_H_parseLong_102 : decode b_H_parseLong 102 = .ok (.ireturn, 1) := by decide +kernel
theorem d_H_parseLong_103 : decode b_H_parseLong 103 = .ok (.aload_n 0, 1) := by decide +kernel
theorem d_H_parseLong_104 : decode b_H_parseLong 104 = .ok (.getfield 9, 3) := by decide +kernel
theorem d_H_parseLong_107 : decode b_H_parseLong 107 = .ok (.bipush 8, 2) := by decide +kernel
theorem d_H_parseLong_109 : decode b_H_parseLong 109 = .ok (.aload_n 1, 1) := by decide +kernel
theorem d_H_parseLong_110 : decode b_H_parseLong 110 = .ok (.aload_n 0, 1) := by decide +kernel
theorem d_H_parseLong_111 : decode b_H_parseLong 111 = .ok (.getfield 9, 3) := by decide +kernel
theorem d_H_parseLong_114 : decode b_H_parseLong 114 = .ok (.bipush 9, 2) := by decide +kernel
theorem d_H_parseLong_116 : decode b_H_parseLong 116 = .ok (.iaload, 1) := by decide +kernel
theorem d_H_parseLong_117 : decode b_H_parseLong 117 = .ok (.i2l, 1) := by decide +kernel
theorem d_H_parseLong_118 : decode b_H_parseLong 118 = .ok (.invokevirtual 49, 3) := by decide +kernel
theorem d_H_parseLong_121 : decode b_H_parseLong 121 = .ok (.iastore, 1) := by decide +kernel
theorem d_H_parseLong_122 : decode b_H_parseLong 122 = .ok (.aload_n 1, 1) := by decide +kernel
theorem d_H_parseLong_123 : decode b_H_parseLong 123 = .ok (.getfield 31, 3) := by decide +kernel
theorem d_H_parseLong_126 : decode b_H_parseLong 126 = .ok (.ifCond .eq 5, 3) := by decide +kernel
theorem d_H_parseLong_129 : decode b_H_parseLong 129 = .ok (.iconst 1, 1) := by decide +kernel
theorem d_H_parseLong_130 : decode b_H_parseLong 130 = .ok (.ireturn, 1) := by decide +kernel
theorem d_H_parseLong_131 : decode b_H_parseLong 131 = .ok (.aload_n 0, 1) := by decide +kernel
theorem d_H_parseLong_132 : decode b_H_parseLong 132 = .ok (.getfield 9, 3) := by decide +kernel
theorem d_H_parseLong_135 : decode b_H_parseLong 135 = .ok (.iconst 0, 1) := by decide +kernel
theorem d_H_parseLong_136 : decode b_H_parseLong 136 = .ok (.iaload, 1) := by decide +kernel
theorem d_H_parseLong_137 : decode b_H_parseLong 137 = .ok (.iconst 1, 1) := by decide +kernel
theorem d_H_parseLong_138 : decode b_H_parseLong 138 = .ok (.if_icmp .eq 13, 3) := by decide +kernel
theorem d_H_parseLong_141 : decode b_H_parseLong 141 = .ok (.aload_n 0, 1) := by decide +kernel
theorem d_H_parseLong_142 : decode b_H_parseLong 142 = .ok (.getfield 9, 3) := by decide +kernel
theorem d_H_parseLong_145 : decode b_H_parseLong 145 = .ok (.iconst 0, 1) := by decide +kernel
theorem d_H_parseLong_146 : decode b_H_parseLong 146 = .ok (.iaload, 1) := by decide +kernel
theorem d_H_parseLong_147 : decode b_H_parseLong 147 = .ok (.iconst 3, 1) := by decide +kernel
theorem d_H_parseLong_148 : decode b_H_parseLong 148 = .ok (.if_icmp .ne 7, 3) := by decide +kernel
theorem d_H_parseLong_151 : decode b_H_parseLong 151 = .ok (.iconst 1, 1) := by decide +kernel
theorem d_H_parseLong_152 : decode b_H_parseLong 152 = .ok (.goto 4, 3) := by decide +kernel
theorem d_H_parseLong_155 : decode b_H_parseLong 155 = .ok (.iconst 0, 1) := by decide +kernel
theorem d_H_parseLong_156 : decode b_H_parseLong 156 = .ok (.istore 6, 2) := by decide +kernel
theorem d_H_parseLong_158 : decode b_H_parseLong 158 = .ok (.iload 6, 2) := by decide +kernel
theorem d_H_parseLong_160 : decode b_H_parseLong 160 = .ok (.ifCond .eq 7, 3) := by decide +kernel
theorem d_H_parseLong_163 : decode b_H_parseLong 163 = .ok (.iconst 4, 1) := by decide +kernel
theorem d_H_parseLong_164 : decode b_H_parseLong 164 = .ok (.goto 8, 3) := by decide +kernel
theorem d_H_parseLong_167 : decode b_H_parseLong 167 = .ok (.aload_n 0, 1) := by decide +kernel
theorem d_H_parseLong_168 : decode b_H_parseLong 168 = .ok (.aload_n 1, 1) := by decide +kernel
theorem d_H_parseLong_169 : decode b_H_parseLong 169 = .ok (.invokevirtual 63, 3) := by decide +kernel
theorem d_H_parseLong_172 : decode b_H_parseLong 172 = .ok (.ireturn, 1) := by decide +kernel
theorem zy_F_parse : zy y_F_parse b_F_parse 6 (some .int) 2 := ⟨zmem 562 (by decide +kernel) (by decide +kernel), zmem 66 (by decide +kernel) (by decide +kernel), by decide +kernel⟩
theorem zv_F_parse : Cond.instanceMethod y_F_parse ∈ ztb ∧ Cond.selects y_F_parse.cls y_F_parse y_F_parse ∈ ztb := ⟨zmem 560 (by decide +kernel) (by decide +kernel), zmem 561 (by decide +kernel) (by decide +kernel)⟩
theorem d_F_parse_0 : decode b_F_parse 0 = .ok (.aload_n 0, 1) := by decide +kernel
theorem d_F_parse_1 : decode b_F_parse 1 = .ok (.invokevirtual 15, 3) := by decide +kernel
theorem d_F_parse_4 : decode b_F_parse 4 = .ok (.aload_n 0, 1) := by decide +kernel
theorem d_F_parse_5 : decode b_F_parse 5 = .ok (.getfield 9, 3) := by decide +kernel
theorem d_F_parse_8 : decode b_F_parse 8 = .ok (.bipush 7, 2) := by decide +kernel
theorem d_F_parse_10 : decode b_F_parse 10 = .ok (.aload_n 1, 1) := by decide +kernel
theorem d_F_parse_11 : decode b_F_parse 11 = .ok (.getfield 18, 3) := by decide +kernel
theorem d_F_parse_14 : decode b_F_parse 14 = .ok (.i2l, 1) := by decide +kernel
theorem d_F_parse_15 : decode b_F_parse 15 = .ok (.lastore, 1) := by decide +kernel
theorem d_F_parse_16 : decode b_F_parse 16 = .ok (.aload_n 1, 1) := by decide +kernel
theorem d_F_parse_17 : decode b_F_parse 17 = .ok (.iconst 1, 1) := by decide +kernel
theorem d_F_parse_18 : decode b_F_parse 18 = .ok (.invokevirtual 24, 3) := by decide +kernel
theorem d_F_parse_21 : decode b_F_parse 21 = .ok (.l2i, 1) := by decide +kernel
theorem d_F_parse_22 : decode b_F_parse 22 = .ok (.istore_n 3, 1) := by decide +kernel
theorem d_F_parse_23 : decode b_F_parse 23 = .ok (.iload_n 3, 1) := by decide +kernel
theorem d_F_parse_24 : decode b_F_parse 24 = .ok (.ifCond .lt 9, 3) := by decide +kernel
theorem d_F_parse_27 : decode b_F_parse 27 = .ok (.iload_n 3, 1) := by decide +kernel
theorem d_F_parse_28 : decode b_F_parse 28 = .ok (.bipush 30, 2) := by decide +kernel
theorem d_F_parse_30 : decode b_F_parse 30 = .ok (.if_icmp .le 5, 3) := by decide +kernel
theorem d_F_parse_33 : decode b_F_parse 33 = .ok (.iconst 2, 1) := by decide +kernel
theorem d_F_parse_34 : decode b_F_parse 34 = .ok (.ireturn, 1) := by decide +kernel
theorem d_F_parse_35 : decode b_F_parse 35 = .ok (.iload_n 2, 1) := by decide +kernel
theorem d_F_parse_36 : decode b_F_parse 36 = .ok (.iconst 2, 1) := by decide +kernel
theorem d_F_parse_37 : decode b_F_parse 37 = .ok (.if_icmp .eq 14, 3) := by decide +kernel
theorem d_F_parse_40 : decode b_F_parse 40 = .ok (.ldc 28, 2) := by decide +kernel
theorem d_F_parse_42 : decode b_F_parse 42 = .ok (.iload_n 3, 1) := by decide +kernel
theorem d_F_parse_43 : decode b_F_parse 43 = .ok (.ishr, 1) := by decide +kernel
theorem d_F_parse_44 : decode b_F_parse 44 = .ok (.iconst 1, 1) := by decide +kernel
theorem d_F_parse_45 : decode b_F_parse 45 = .ok (.iand, 1) := by decide +kernel
theorem d_F_parse_46 : decode b_F_parse 46 = .ok (.ifCond .ne 5, 3) := by decide +kernel
theorem d_F_parse_49 : decode b_F_parse 49 = .ok (.iconst 4, 1) := by decide +kernel
theorem d_F_parse_50 : decode b_F_parse 50 = .ok (.ireturn, 1) := by decide +kernel
theorem d_F_parse_51 : decode b_F_parse 51 = .ok (.iload_n 3, 1) := by decide +kernel
theorem d_F_parse_52 : decode b_F_parse 52 = .ok (.bipush 8, 2) := by decide +kernel
theorem d_F_parse_54 : decode b_F_parse 54 = .ok (.if_icmp .le 14, 3) := by decide +kernel
theorem d_F_parse_57 : decode b_F_parse 57 = .ok (.iload_n 3, 1) := by decide +kernel
theorem d_F_parse_58 : decode b_F_parse 58 = .ok (.bipush 15, 2) := by decide +kernel
theorem d_F_parse_60 : decode b_F_parse 60 = .ok (.if_icmp .gt 8, 3) := by decide +kernel
theorem d_F_parse_63 : decode b_F_parse 63 = .ok (.bipush 8, 2) := by decide +kernel
theorem d_F_parse_65 : decode b_F_parse 65 = .ok (.goto 4, 3) := by decide +kernel
theorem d_F_parse_68 : decode b_F_parse 68 = .ok (.iload_n 3, 1) := by decide +kernel
theorem d_F_parse_69 : decode b_F_parse 69 = .ok (.istore 4, 2) := by decide +kernel
theorem d_F_parse_71 : decode b_F_parse 71 = .ok (.aload_n 0, 1) := by decide +kernel
theorem d_F_parse_72 : decode b_F_parse 72 = .ok (.getfield 9, 3) := by decide +kernel
theorem d_F_parse_75 : decode b_F_parse 75 = .ok (.iconst 4, 1) := by decide +kernel
theorem d_F_parse_76 : decode b_F_parse 76 = .ok (.iload 4, 2) := by decide +kernel
theorem d_F_parse_78 : decode b_F_parse 78 = .ok (.i2l, 1) := by decide +kernel
theorem d_F_parse_79 : decode b_F_parse 79 = .ok (.lastore, 1) := by decide +kernel
theorem d_F_parse_80 : decode b_F_parse 80 = .ok (.aload_n 0, 1) := by decide +kernel
theorem d_F_parse_81 : decode b_F_parse 81 = .ok (.aload_n 1, 1) := by decide +kernel
theorem d_F_parse_82 : decode b_F_parse 82 = .ok (.getstatic 29, 3) := by decide +kernel
theorem d_F_parse_85 : decode b_F_parse 85 = .ok (.iload_n 3, 1) := by decide +kernel
theorem d_F_parse_86 : decode b_F_parse 86 = .ok (.iaload, 1) := by decide +kernel
theorem d_F_parse_87 : decode b_F_parse 87 = .ok (.invokevirtual 33, 3) := by decide +kernel
theorem d_F_parse_90 : decode b_F_parse 90 = .ok (.aload_n 0, 1) := by decide +kernel
theorem d_F_parse_91 : decode b_F_parse 91 = .ok (.aload_n 1, 1) := by decide +kernel
theorem d_F_parse_92 : decode b_F_parse 92 = .ok (.iload 4, 2) := by decide +kernel
theorem d_F_parse_94 : decode b_F_parse 94 = .ok (.iload_n 3, 1) := by decide +kernel
theorem d_F_parse_95 : decode b_F_parse 95 = .ok (.invokevirtual 37, 3) := by decide +kernel
theorem d_F_parse_98 : decode b_F_parse 98 = .ok (.aload_n 1, 1) := by decide +kernel
theorem d_F_parse_99 : decode b_F_parse 99 = .ok (.getfield 41, 3) := by decide +kernel
theorem d_F_parse_102 : decode b_F_parse 102 = .ok (.ifCond .eq 5, 3) := by decide +kernel
theorem d_F_parse_105 : decode b_F_parse 105 = .ok (.iconst 1, 1) := by decide +kernel
theorem d_F_parse_106 : decode b_F_parse 106 = .ok (.ireturn, 1) := by decide +kernel
theorem d_F_parse_107 : decode b_F_parse 107 = .ok (.aload_n 0, 1) := by decide +kernel
theorem d_F_parse_108 : decode b_F_parse 108 = .ok (.getfield 9, 3) := by decide +kernel
theorem d_F_parse_111 : decode b_F_parse 111 = .ok (.bipush 8, 2) := by decide +kernel
theorem d_F_parse_113 : decode b_F_parse 113 = .ok (.aload_n 1, 1) := by decide +kernel
theorem d_F_parse_114 : decode b_F_parse 114 = .ok (.getfield 18, 3) := by decide +kernel
theorem d_F_parse_117 : decode b_F_parse 117 = .ok (.i2l, 1) := by decide +kernel
theorem d_F_parse_118 : decode b_F_parse 118 = .ok (.lastore, 1) := by decide +kernel
theorem d_F_parse_119 : decode b_F_parse 119 = .ok (.aload_n 0, 1) := by decide +kernel
theorem d_F_parse_120 : decode b_F_parse 120 = .ok (.getfield 45, 3) := by decide +kernel
theorem d_F_parse_123 : decode b_F_parse 123 = .ok (.lconst 0, 1) := by decide +kernel
theorem d_F_parse_124 : decode b_F_parse 124 = .ok (.lcmp, 1) := by decide +kernel
theorem d_F_parse_125 : decode b_F_parse 125 = .ok (.ifCond .lt 33, 3) := by decide +kernel
theorem d_F_parse_128 : decode b_F_parse 128 = .ok (.iload 4, 2) := by decide +kernel
theorem d_F_parse_130 : decode b_F_parse 130 = .ok (.aload_n 0, 1) := by decide +kernel
theorem d_F_parse_131 : decode b_F_parse 131 = .ok (.getfield 9, 3) := by decide +kernel
theorem d_F_parse_134 : decode b_F_parse 134 = .ok (.iconst 0, 1) := by decide +kernel
theorem d_F_parse_135 : decode b_F_parse 135 = .ok (.laload, 1) := by decide +kernel
theorem d_F_parse_136 : decode b_F_parse 136 = .ok (.aload_n 0, 1) := by decide +kernel
theorem d_F_parse_137 : decode b_F_parse 137 = .ok (.getfield 9, 3) := by decide +kernel
theorem d_F_parse_140 : decode b_F_parse 140 = .ok (.iconst 1, 1) := by decide +kernel
theorem d_F_parse_141 : decode b_F_parse 141 = .ok (.laload, 1) := by decide +kernel
theorem d_F_parse_142 : decode b_F_parse 142 = .ok (.aload_n 0, 1) := by decide +kernel
theorem d_F_parse_143 : decode b_F_parse 143 = .ok (.getfield 9, 3) := by decide +kernel
theorem d_F_parse_146 : decode b_F_parse 146 = .ok (.iconst 5, 1) := by decide +kernel
theorem d_F_parse_147 : decode b_F_parse 147 = .ok (.laload, 1) := by decide +kernel
theorem d_F_parse_148 : decode b_F_parse 148 = .ok (.invokestatic 49, 3) := by decide +kernel
theorem d_F_parse_151 : decode b_F_parse 151 = .ok (.ifCond .eq 7, 3) := by decide +kernel
theorem d_F_parse_154 : decode b_F_parse 154 = .ok (.iconst 1, 1) := by decide +kernel
theorem d_F_parse_155 : decode b_F_parse 155 = .ok (.goto 4, 3) := by decide +kernel
theorem d_F_parse_158 : decode b_F_parse 158 = .ok (.iconst 0, 1) := by decide +kernel
theorem d_F_parse_159 : decode b_F_parse 159 = .ok (.istore 5, 2) := by decide +kernel
theorem d_F_parse_161 : decode b_F_parse 161 = .ok (.iload 5, 2) := by decide +kernel
theorem d_F_parse_163 : decode b_F_parse 163 = .ok (.ifCond .eq 7, 3) := by decide +kernel
theorem d_F_parse_166 : decode b_F_parse 166 = .ok (.iconst 0, 1) := by decide +kernel
theorem d_F_parse_167 : decode b_F_parse 167 = .ok (.goto 4, 3) := by decide +kernel
theorem d_F_parse_170 : decode b_F_parse 170 = .ok (.iconst 3, 1) := by decide +kernel
theorem d_F_parse_171 : decode b_F_parse 171 = .ok (.ireturn, 1) := by decide +kernel
theorem zy_H_parse : zy y_H_parse b_H_parse 4 (some .int) 2 := ⟨zmem 788 (by decide +kernel) (by decide +kernel), zmem 67 (by decide +kernel) (by decide +kernel), by decide +kernel⟩
theorem zv_H_parse : Cond.instanceMethod y_H_parse ∈ ztb ∧ Cond.selects y_H_parse.cls y_H_parse y_H_parse ∈ ztb := ⟨zmem 786 (by decide +kernel) (by decide +kernel), zmem 787 (by decide +kernel) (by decide +kernel)⟩
theorem d_H_parse_0 : decode b_H_parse 0 = .ok (.aload_n 0, 1) := by decide +kernel
theorem d_H_parse_1 : decode b_H_parse 1 = .ok (.getfield 9, 3) := by decide +kernel
theorem d_H_parse_4 : decode b_H_parse 4 = .ok (.iconst 0, 1) := by decide +kernel
theorem d_H_parse_5 : decode b_H_parse 5 = .ok (.invokestatic 15, 3) := by decide +kernel
theorem d_H_parse_8 : decode b_H_parse 8 = .ok (.aload_n 0, 1) := by decide +kernel
theorem d_H_parse_9 : decode b_H_parse 9 = .ok (.getfield 9, 3) := by decide +kernel
theorem d_H_parse_12 : decode b_H_parse 12 = .ok (.iconst 3, 1) := by decide +kernel
theorem d_H_parse_13 : decode b_H_parse 13 = .ok (.aload_n 1, 1) := by decide +kernel
theorem d_H_parse_14 : decode b_H_parse 14 = .ok (.getfield 21, 3) := by decide +kernel
theorem d_H_parse_17 : decode b_H_parse 17 = .ok (.iastore, 1) := by decide +kernel
theorem d_H_parse_18 : decode b_H_parse 18 = .ok (.aload_n 1, 1) := by decide +kernel
theorem d_H_parse_19 : decode b_H_parse 19 = .ok (.iconst 1, 1) := by decide +kernel
theorem d_H_parse_20 : decode b_H_parse 20 = .ok (.invokevirtual 27, 3) := by decide +kernel
theorem d_H_parse_23 : decode b_H_parse 23 = .ok (.l2i, 1) := by decide +kernel
theorem d_H_parse_24 : decode b_H_parse 24 = .ok (.istore_n 3, 1) := by decide +kernel
theorem d_H_parse_25 : decode b_H_parse 25 = .ok (.aload_n 1, 1) := by decide +kernel
theorem d_H_parse_26 : decode b_H_parse 26 = .ok (.getfield 31, 3) := by decide +kernel
theorem d_H_parse_29 : decode b_H_parse 29 = .ok (.ifCond .eq 5, 3) := by decide +kernel
theorem d_H_parse_32 : decode b_H_parse 32 = .ok (.iconst 1, 1) := by decide +kernel
theorem d_H_parse_33 : decode b_H_parse 33 = .ok (.ireturn, 1) := by decide +kernel
theorem d_H_parse_34 : decode b_H_parse 34 = .ok (.iload_n 3, 1) := by decide +kernel
theorem d_H_parse_35 : decode b_H_parse 35 = .ok (.bipush 64, 2) := by decide +kernel
theorem d_H_parse_37 : decode b_H_parse 37 = .ok (.iand, 1) := by decide +kernel
theorem d_H_parse_38 : decode b_H_parse 38 = .ok (.ifCond .ne 5, 3) := by decide +kernel
theorem d_H_parse_41 : decode b_H_parse 41 = .ok (.iconst 2, 1) := by decide +kernel
theorem d_H_parse_42 : decode b_H_parse 42 = .ok (.ireturn, 1) := by decide +kernel
theorem d_H_parse_43 : decode b_H_parse 43 = .ok (.iload_n 3, 1) := by decide +kernel
theorem d_H_parse_44 : decode b_H_parse 44 = .ok (.sipush 128, 3) := by decide +kernel
theorem d_H_parse_47 : decode b_H_parse 47 = .ok (.iand, 1) := by decide +kernel
theorem d_H_parse_48 : decode b_H_parse 48 = .ok (.ifCond .eq 12, 3) := by decide +kernel
theorem d_H_parse_51 : decode b_H_parse 51 = .ok (.aload_n 0, 1) := by decide +kernel
theorem d_H_parse_52 : decode b_H_parse 52 = .ok (.aload_n 1, 1) := by decide +kernel
theorem d_H_parse_53 : decode b_H_parse 53 = .ok (.iload_n 3, 1) := by decide +kernel
theorem d_H_parse_54 : decode b_H_parse 54 = .ok (.invokevirtual 35, 3) := by decide +kernel
theorem d_H_parse_57 : decode b_H_parse 57 = .ok (.goto 10, 3) := by decide +kernel
theorem d_H_parse_60 : decode b_H_parse 60 = .ok (.aload_n 0, 1) := by decide +kernel
theorem d_H_parse_61 : decode b_H_parse 61 = .ok (.aload_n 1, 1) := by decide +kernel
theorem d_H_parse_62 : decode b_H_parse 62 = .ok (.iload_n 3, 1) := by decide +kernel
theorem d_H_parse_63 : decode b_H_parse 63 = .ok (.iload_n 2, 1) := by decide +kernel
theorem d_H_parse_64 : decode b_H_parse 64 = .ok (.invokevirtual 39, 3) := by decide +kernel
theorem d_H_parse_67 : decode b_H_parse 67 = .ok (.ireturn, 1) := by decide +kernel
theorem zy_W_frames : zy y_W_frames b_W_frames 6 (some .int) 2 := ⟨zmem 547 (by decide +kernel) (by decide +kernel), zmem 62 (by decide +kernel) (by decide +kernel), by decide +kernel⟩
theorem zv_W_frames : Cond.instanceMethod y_W_frames ∈ ztb ∧ Cond.selects y_W_frames.cls y_W_frames y_W_frames ∈ ztb := ⟨zmem 545 (by decide +kernel) (by decide +kernel), zmem 546 (by decide +kernel) (by decide +kernel)⟩
theorem d_W_frames_0 : decode b_W_frames 0 = .ok (.aload_n 0, 1) := by decide +kernel
theorem d_W_frames_1 : decode b_W_frames 1 = .ok (.iload_n 1, 1) := by decide +kernel
theorem d_W_frames_2 : decode b_W_frames 2 = .ok (.invokevirtual 127, 3) := by decide +kernel
theorem d_W_frames_5 : decode b_W_frames 5 = .ok (.iload_n 2, 1) := by decide +kernel
theorem d_W_frames_6 : decode b_W_frames 6 = .ok (.ifCond .lt 8, 3) := by decide +kernel
theorem d_W_frames_9 : decode b_W_frames 9 = .ok (.iload_n 2, 1) := by decide +kernel
theorem d_W_frames_10 : decode b_W_frames 10 = .ok (.iconst 2, 1) := by decide +kernel
theorem d_W_frames_11 : decode b_W_frames 11 = .ok (.if_icmp .le 13, 3) := by decide +kernel
theorem d_W_frames_14 : decode b_W_frames 14 = .ok (.new 60, 3) := by decide +kernel
theorem d_W_frames_17 : decode b_W_frames 17 = .ok (.dup, 1) := by decide +kernel
theorem d_W_frames_18 : decode b_W_frames 18 = .ok (.ldc 130, 2) := by decide +kernel
theorem d_W_frames_20 : decode b_W_frames 20 = .ok (.invokespecial 64, 3) := by decide +kernel
theorem d_W_frames_23 : decode b_W_frames 23 = .ok (.athrow, 1) := by decide +kernel
theorem d_W_frames_24 : decode b_W_frames 24 = .ok (.aload_n 0, 1) := by decide +kernel
theorem d_W_frames_25 : decode b_W_frames 25 = .ok (.getfield 28, 3) := by decide +kernel
theorem d_W_frames_28 : decode b_W_frames 28 = .ok (.aload_n 0, 1) := by decide +kernel
theorem d_W_frames_29 : decode b_W_frames 29 = .ok (.getfield 12, 3) := by decide +kernel
theorem d_W_frames_32 : decode b_W_frames 32 = .ok (.getfield 95, 3) := by decide +kernel
theorem d_W_frames_35 : decode b_W_frames 35 = .ok (.iconst 0, 1) := by decide +kernel
theorem d_W_frames_36 : decode b_W_frames 36 = .ok (.invokevirtual 99, 3) := by decide +kernel
theorem d_W_frames_39 : decode b_W_frames 39 = .ok (.aload_n 0, 1) := by decide +kernel
theorem d_W_frames_40 : decode b_W_frames 40 = .ok (.getfield 21, 3) := by decide +kernel
theorem d_W_frames_43 : decode b_W_frames 43 = .ok (.iload_n 1, 1) := by decide +kernel
theorem d_W_frames_44 : decode b_W_frames 44 = .ok (.aload_n 0, 1) := by decide +kernel
theorem d_W_frames_45 : decode b_W_frames 45 = .ok (.getfield 28, 3) := by decide +kernel
theorem d_W_frames_48 : decode b_W_frames 48 = .ok (.getfield 132, 3) := by decide +kernel
theorem d_W_frames_51 : decode b_W_frames 51 = .ok (.invokevirtual 114, 3) := by decide +kernel
theorem d_W_frames_54 : decode b_W_frames 54 = .ok (.iconst 0, 1) := by decide +kernel
theorem d_W_frames_55 : decode b_W_frames 55 = .ok (.istore_n 3, 1) := by decide +kernel
theorem d_W_frames_56 : decode b_W_frames 56 = .ok (.iload_n 3, 1) := by decide +kernel
theorem d_W_frames_57 : decode b_W_frames 57 = .ok (.ldc 135, 2) := by decide +kernel
theorem d_W_frames_59 : decode b_W_frames 59 = .ok (.if_icmp .ge 70, 3) := by decide +kernel
theorem d_W_frames_62 : decode b_W_frames 62 = .ok (.aload_n 0, 1) := by decide +kernel
theorem d_W_frames_63 : decode b_W_frames 63 = .ok (.getfield 21, 3) := by decide +kernel
theorem d_W_frames_66 : decode b_W_frames 66 = .ok (.invokevirtual 136, 3) := by decide +kernel
theorem d_W_frames_69 : decode b_W_frames 69 = .ok (.ifCond .le 60, 3) := by decide +kernel
theorem d_W_frames_72 : decode b_W_frames 72 = .ok (.aload_n 0, 1) := by decide +kernel
theorem d_W_frames_73 : decode b_W_frames 73 = .ok (.getfield 21, 3) := by decide +kernel
theorem d_W_frames_76 : decode b_W_frames 76 = .ok (.getfield 139, 3) := by decide +kernel
theorem d_W_frames_79 : decode b_W_frames 79 = .ok (.istore 4, 2) := by decide +kernel
theorem d_W_frames_81 : decode b_W_frames 81 = .ok (.aload_n 0, 1) := by decide +kernel
theorem d_W_frames_82 : decode b_W_frames 82 = .ok (.getfield 35, 3) := by decide +kernel
theorem d_W_frames_85 : decode b_W_frames 85 = .ok (.aload_n 0, 1) := by decide +kernel
theorem d_W_frames_86 : decode b_W_frames 86 = .ok (.getfield 21, 3) := by decide +kernel
theorem d_W_frames_89 : decode b_W_frames 89 = .ok (.iload_n 2, 1) := by decide +kernel
theorem d_W_frames_90 : decode b_W_frames 90 = .ok (.invokevirtual 142, 3) := by decide +kernel
theorem d_W_frames_93 : decode b_W_frames 93 = .ok (.istore 5, 2) := by decide +kernel
theorem d_W_frames_95 : decode b_W_frames 95 = .ok (.iload 5, 2) := by decide +kernel
theorem d_W_frames_97 : decode b_W_frames 97 = .ok (.ifCond .eq 17, 3) := by decide +kernel
theorem d_W_frames_100 : decode b_W_frames 100 = .ok (.aload_n 0, 1) := by decide +kernel
theorem d_W_frames_101 : decode b_W_frames 101 = .ok (.getfield 28, 3) := by decide +kernel
theorem d_W_frames_104 : decode b_W_frames 104 = .ok (.iload 5, 2) := by decide +kernel
theorem d_W_frames_106 : decode b_W_frames 106 = .ok (.iload 4, 2) := by decide +kernel
theorem d_W_frames_108 : decode b_W_frames 108 = .ok (.invokevirtual 146, 3) := by decide +kernel
theorem d_W_frames_111 : decode b_W_frames 111 = .ok (.goto 18, 3) := by decide +kernel
theorem d_W_frames_114 : decode b_W_frames 114 = .ok (.aload_n 0, 1) := by decide +kernel
theorem d_W_frames_115 : decode b_W_frames 115 = .ok (.getfield 28, 3) := by decide +kernel
theorem d_W_frames_118 : decode b_W_frames 118 = .ok (.iload 4, 2) := by decide +kernel
theorem d_W_frames_120 : decode b_W_frames 120 = .ok (.invokevirtual 149, 3) := by decide +kernel
theorem d_W_frames_123 : decode b_W_frames 123 = .ok (.iinc 3 1, 3) := by decide +kernel
theorem d_W_frames_126 : decode b_W_frames 126 = .ok (.goto (-70), 3) := by decide +kernel
theorem d_W_frames_129 : decode b_W_frames 129 = .ok (.aload_n 0, 1) := by decide +kernel
theorem d_W_frames_130 : decode b_W_frames 130 = .ok (.getfield 28, 3) := by decide +kernel
theorem d_W_frames_133 : decode b_W_frames 133 = .ok (.getfield 152, 3) := by decide +kernel
theorem d_W_frames_136 : decode b_W_frames 136 = .ok (.ireturn, 1) := by decide +kernel
theorem zin_W_263 : Cond.methodLink R_W 263 y_D_isHeader ∈ ztb := zmem 844 (by decide +kernel) (by decide +kernel)
theorem zin_W_269 : Cond.methodLink R_W 269 y_D_writeHeader ∈ ztb := zmem 849 (by decide +kernel) (by decide +kernel)
theorem zin_D_67 : Cond.methodLink R_D 67 y_D_writeAck ∈ ztb := zmem 760 (by decide +kernel) (by decide +kernel)
theorem zin_D_74 : Cond.methodLink R_D 74 y_D_writeShape ∈ ztb := zmem 765 (by decide +kernel) (by decide +kernel)
theorem zin_F_53 : Cond.fieldLink R_F 53 "WireCodec$Frame" "high" "J" ∈ ztb := zmem 187 (by decide +kernel) (by decide +kernel)
theorem zin_F_56 : Cond.methodLink R_F 56 y_R_takeNumber ∈ ztb := zmem 585 (by decide +kernel) (by decide +kernel)
theorem zin_F_60 : Cond.constantLong R_F 60 (2 : Int64) ∈ ztb := zmem 609 (by decide +kernel) (by decide +kernel)
theorem zin_F_18 : Cond.fieldLink R_F 18 "WireCodec$Reader" "place" "I" ∈ ztb := zmem 115 (by decide +kernel) (by decide +kernel)
theorem zin_F_107 : Cond.fieldLink R_F 107 "WireCodec$Frame" "rangesPlace" "I" ∈ ztb := zmem 183 (by decide +kernel) (by decide +kernel)
theorem zin_F_41 : Cond.fieldLink R_F 41 "WireCodec$Reader" "over" "Z" ∈ ztb := zmem 122 (by decide +kernel) (by decide +kernel)
theorem zin_H_67 : Cond.methodLink R_H 67 y_R_takeNumber ∈ ztb := zmem 806 (by decide +kernel) (by decide +kernel)
theorem zin_H_71 : Cond.constantLong R_H 71 (20 : Int64) ∈ ztb := zmem 807 (by decide +kernel) (by decide +kernel)
theorem zin_P_34 : Cond.methodLink R_P 34 y_R_takeNumber ∈ ztb := zmem 886 (by decide +kernel) (by decide +kernel)
theorem zin_P_40 : Cond.methodLink R_P 40 y_R_takeBytes ∈ ztb := zmem 887 (by decide +kernel) (by decide +kernel)
theorem zin_P_44 : Cond.fieldLink R_P 44 "WireCodec$Reader" "over" "Z" ∈ ztb := zmem 123 (by decide +kernel) (by decide +kernel)
theorem zin_P_48 : Cond.constantLong R_P 48 (16 : Int64) ∈ ztb := zmem 888 (by decide +kernel) (by decide +kernel)
theorem zin_P_51 : Cond.constant R_P 51 (110597 : Int32) ∈ ztb := zmem 890 (by decide +kernel) (by decide +kernel)
theorem zin_P_52 : Cond.methodLink R_P 52 y_R_numberOfAll ∈ ztb := zmem 891 (by decide +kernel) (by decide +kernel)
theorem zin_P_56 : Cond.fieldLink R_P 56 "WireCodec$Parameters" "LEAST" "[J" ∈ ztb := zmem 896 (by decide +kernel) (by decide +kernel)
theorem zin_P_59 : Cond.fieldLink R_P 59 "WireCodec$Parameters" "MOST" "[J" ∈ ztb := zmem 898 (by decide +kernel) (by decide +kernel)
theorem zin_P_50 : Cond.constant R_P 50 (73733 : Int32) ∈ ztb := zmem 889 (by decide +kernel) (by decide +kernel)
theorem zin_W_229 : Cond.methodLink R_W 229 y_D_isFrame ∈ ztb := zmem 724 (by decide +kernel) (by decide +kernel)
theorem zin_W_234 : Cond.methodLink R_W 234 y_D_writeFrame ∈ ztb := zmem 755 (by decide +kernel) (by decide +kernel)
theorem zin_W_127 : Cond.methodLink R_W 127 y_W_requirePlace ∈ ztb := zmem 548 (by decide +kernel) (by decide +kernel)
theorem zin_W_135 : Cond.constant R_W 135 (65536 : Int32) ∈ ztb := zmem 554 (by decide +kernel) (by decide +kernel)
theorem zin_W_290 : Cond.fieldLink R_W 290 "WireCodec$Parameters" "seen" "I" ∈ ztb := zmem 271 (by decide +kernel) (by decide +kernel)
theorem zin_W_293 : Cond.methodLink R_W 293 y_In_bitCount ∈ ztb := zmem 900 (by decide +kernel) (by decide +kernel)
theorem zin_W_136 : Cond.methodLink R_W 136 y_R_left ∈ ztb := zmem 555 (by decide +kernel) (by decide +kernel)
theorem zin_W_139 : Cond.fieldLink R_W 139 "WireCodec$Reader" "place" "I" ∈ ztb := zmem 117 (by decide +kernel) (by decide +kernel)
theorem zin_W_286 : Cond.methodLink R_W 286 y_P_parseNext ∈ ztb := zmem 882 (by decide +kernel) (by decide +kernel)
theorem zin_W_146 : Cond.methodLink R_W 146 y_G_fail ∈ ztb := zmem 624 (by decide +kernel) (by decide +kernel)
theorem zin_F_75 : Cond.methodLink R_F 75 y_R_takeZeros ∈ ztb := zmem 595 (by decide +kernel) (by decide +kernel)
theorem zin_F_79 : Cond.methodLink R_F 79 y_F_takeRangeCount ∈ ztb := zmem 600 (by decide +kernel) (by decide +kernel)
theorem zin_F_83 : Cond.methodLink R_F 83 y_F_walkRanges ∈ ztb := zmem 605 (by decide +kernel) (by decide +kernel)
theorem zin_F_86 : Cond.methodLink R_F 86 y_F_takeCounts ∈ ztb := zmem 610 (by decide +kernel) (by decide +kernel)
theorem zin_F_89 : Cond.methodLink R_F 89 y_F_takeStream ∈ ztb := zmem 614 (by decide +kernel) (by decide +kernel)
theorem zin_F_24 : Cond.methodLink R_F 24 y_R_takeWord ∈ ztb := zmem 568 (by decide +kernel) (by decide +kernel)
theorem zin_F_92 : Cond.constantLong R_F 92 (16 : Int64) ∈ ztb := zmem 618 (by decide +kernel) (by decide +kernel)
theorem zin_F_98 : Cond.fieldLink R_F 98 "WireCodec$Frame" "secretPlace" "I" ∈ ztb := zmem 179 (by decide +kernel) (by decide +kernel)
theorem zin_H_60 : Cond.methodLink R_H 60 y_H_sizeOfName ∈ ztb := zmem 797 (by decide +kernel) (by decide +kernel)
theorem zin_H_63 : Cond.methodLink R_H 63 y_H_parseTokenAndLength ∈ ztb := zmem 802 (by decide +kernel) (by decide +kernel)
theorem zin_F_15 : Cond.methodLink R_F 15 y_F_forget ∈ ztb := zmem 563 (by decide +kernel) (by decide +kernel)
theorem zin_F_33 : Cond.methodLink R_F 33 y_F_takeShape ∈ ztb := zmem 581 (by decide +kernel) (by decide +kernel)
theorem zin_F_37 : Cond.methodLink R_F 37 y_F_takeRest ∈ ztb := zmem 591 (by decide +kernel) (by decide +kernel)
theorem zin_F_28 : Cond.constant R_F 28 (268435535 : Int32) ∈ ztb := zmem 578 (by decide +kernel) (by decide +kernel)
theorem zin_H_15 : Cond.methodLink R_H 15 y_Ar_fill_aII ∈ ztb := zmem 789 (by decide +kernel) (by decide +kernel)
theorem zin_H_39 : Cond.methodLink R_H 39 y_H_parseShort ∈ ztb := zmem 808 (by decide +kernel) (by decide +kernel)
theorem zin_H_35 : Cond.methodLink R_H 35 y_H_parseLong ∈ ztb := zmem 793 (by decide +kernel) (by decide +kernel)
theorem zin_W_35 : Cond.fieldLink R_W 35 "WireCodec" "loadedFrame" "LWireCodec$Frame;" ∈ ztb := zmem 280 (by decide +kernel) (by decide +kernel)
theorem zin_W_142 : Cond.methodLink R_W 142 y_F_parse ∈ ztb := zmem 559 (by decide +kernel) (by decide +kernel)
theorem zin_W_149 : Cond.methodLink R_W 149 y_G_keepFrame ∈ ztb := zmem 628 (by decide +kernel) (by decide +kernel)
noncomputable def g_W_lead_c54 (sT_54 : zT) (r_54 : Int32) : Option (((Int32 ⊕ Nat) × zT) × Nat × Nat) := some ((.inl r_54, sT_54), 0, 0)
noncomputable def g_W_lead_c50 (sT_50 : zT) : Option (((Int32 ⊕ Nat) × zT) × Nat × Nat) := (g_W_keepWritten sT_50).bind (fun a => zca 1 6 (zmx (a.1) (fun r9 => g_W_lead_c54 a.2 r9) (fun k9 => some ((.inr k9, a.2), 0, 0))))
noncomputable def g_W_lead_c32 (N : Nat) (sD : zD) (v1 : Int32) (v2 : Int32) (v3 : Int32) (v4 : Int32) (v5 : Int32) (sT_32 : zT) : Option (((Int32 ⊕ Nat) × zT) × Nat × Nat) := zcbd (g_D_writeHeader N sT_32 sD v1 v2 v3 v4 v5) (fun a => g_W_lead_c50 a)
noncomputable def g_W_lead_c11 (N : Nat) (sT : zT) (sD : zD) (v1 : Int32) (v2 : Int32) (v3 : Int32) (v4 : Int32) (v5 : Int32) (r_11 : Int32) : Option (((Int32 ⊕ Nat) × zT) × Nat × Nat) := if r_11 = (0 : Int32) then (some ((.inr 1, sT), 1, 6)) else ((g_T_startWriting sT).bind (fun a => g_W_lead_c32 N sD v1 v2 v3 v4 v5 a))
noncomputable def g_W_lead (N : Nat) (sT : zT) (sD : zD) (v1 : Int32) (v2 : Int32) (v3 : Int32) (v4 : Int32) (v5 : Int32) : Option (((Int32 ⊕ Nat) × zT) × Nat × Nat) := (g_D_isHeader sD v1 v2 v3 v4 v5).bind (fun a => g_W_lead_c11 N sT sD v1 v2 v3 v4 v5 a)
def q_W_lead (dC : Nat → ClassId) (dI : Nat → Nat → Nat) (cB cI cL : ClassId) (A : Nat → Prop) (adW : Nat) (adT : Nat) (adD : Nat) (adD_parts : Nat) (adD_bytes : Nat) (adD_lows : Nat) (adD_highs : Nat) (adR : Nat) (adG : Nat) (adF : Nat) (adH : Nat) (adP : Nat) (sD : zD) (a : (Int32 ⊕ Nat) × zT) : Array Value → State → Outcome → State → Prop := zQx (α := Int32) (fun r => some (.int r)) (fun r (u : zT × Nat) => (r, u.1) = a) (dC, dI) (fun u => (zwW adW adT adR adG adF adH adD adP ++ zwT adT u.2 cB cI cL u.1 ++ zwD adD adD_parts adD_bytes adD_lows adD_highs cB cI cL sD)) A
set_option maxRecDepth 100000 in
set_option maxHeartbeats 4000000 in
theorem k_W_lead_0 {p : Program} {l : Launch} {e : Env} {R : Room} {s : State} {m : MethodId} {args : Array Value} {below : List Frame} {meth : Method} {c : Code} {dC : Nat → ClassId} {dI : Nat → Nat → Nat} {cB cI cL : ClassId} {A : Nat → Prop} {adR adG adF adH adP : Nat} (X : zx p s m args meth c R R_W b_W_lead (some .int) 6 7 179) (hA : ∀ q, s.heap.size ≤ q → A q) (zz : zk dC dI cB cI cL A s) (htr : l.stackTraces = false) (hnh : c.exceptionTable.isEmpty = true) (hAs : ∀ q, A q → ∀ cell, s.heap[q]? = some cell → cell.vm.isStatics = false)  (N : Nat) (sT : zT) (sD : zD) (v1 : Int32) (v2 : Int32) (v3 : Int32) (v4 : Int32) (v5 : Int32) (a : (Int32 ⊕ Nat) × zT) (c9 z9 cells slots tc tz : Nat) (hG : g_W_lead N sT sD v1 v2 v3 v4 v5 = some (a, c9, z9)) (kc : cells + c9 = tc) (kz : slots + z9 = tz) (hRc : tc ≤ R.cells) (hRz : tz ≤ R.slots) (adW adT adT_bytes adD adD_parts adD_bytes adD_lows adD_highs : Nat) (H : Heap) (locs : List Loc) (hP : va_P (dC, dI) zcl (zwW adW adT adR adG adF adH adD adP ++ zwT adT adT_bytes cB cI cL sT ++ zwD adD adD_parts adD_bytes adD_lows adD_highs cB cI cL sD) H) (hD : va_D A (zwW adW adT adR adG adF adH adD adP ++ zwT adT adT_bytes cB cI cL sT ++ zwD adD adD_parts adD_bytes adD_lows adD_highs cB cI cL sD)) (hS : va_S A s.heap H locs) (ls : Array Slot) (hl : lv_has ls 6 [(0, .ref adW), (1, .int v1), (2, .int v2), (3, .int v3), (4, .int v4), (5, .int v5)]) : W p l e R s m args below meth c H locs cells slots (zMQ below (q_W_lead dC dI cB cI cL A adW adT adD adD_parts adD_bytes adD_lows adD_highs adR adG adF adH adP sD a) args s tc tz A) (F0 m 0 ls []) := by
  obtain ⟨hx, hb, hr, hml, hown, hts, hlocks, hRf, hRl⟩ := id X
  unfold g_W_lead at hG
  refine lv_aload_n hx hb d_W_lead_0 rfl (lv_at hl 0 rfl) ?_
  refine va_get (D := (dC, dI)) (ci := 0) (v := .ref adD) (C := R_W) (T := F_W) (N := 7) hx hb hts zi_W hown zz.1 hP 0 rfl rfl 5 (by decide) (hts (.fieldLink R_W 49 "WireCodec" "drafted" "LWireCodec$Draft;") zin_W_49) (fun _ h9 => h9) rfl d_W_lead_1 ?_
  refine lv_iload_n hx hb d_W_lead_4 rfl (lv_at hl 1 rfl) ?_
  refine lv_iload_n hx hb d_W_lead_5 rfl (lv_at hl 2 rfl) ?_
  refine lv_iload_n hx hb d_W_lead_6 rfl (lv_at hl 3 rfl) ?_
  refine lv_iload hx hb d_W_lead_7 (lv_at hl 4 rfl) ?_
  refine lv_iload hx hb d_W_lead_9 (lv_at hl 5 rfl) ?_
  obtain ⟨a_11, hx_11, hG⟩ := zb hG
  have hr_11 := zrunV (p := p) (e := e) (below := below) (meth := meth) (As := [.int v1, .int v2, .int v3, .int v4, .int v5]) (rest := []) (st0 := [.int v5, .int v4, .int v3, .int v2, .int v1, .ref adD]) (cells := cells) (slots := slots) X zz hP hD hS hA [3, 4, 5, 6, 7] (by decide) rfl (c_D_isHeader l dC dI cB cI cL H.size adD adD_parts adD_bytes adD_lows adD_highs sD v1 v2 v3 v4 v5 _ hx_11) zy_D_isHeader zv_D_isHeader (hts (.methodLink R_W 263 y_D_isHeader) zin_W_263) hl rfl rfl d_W_lead_11 (lv_room (Nat.le_of_ble_eq_true rfl)) rfl rfl ⟨Nat.le_trans (Nat.le_of_ble_eq_true rfl) hRf, Nat.le_trans (Nat.le_of_ble_eq_true rfl) hRl⟩ ⟨zle kc hRc, zle kz hRz⟩ 0 6 rfl rfl
  refine zcalli (wr := (zwW adW adT adR adG adF adH adD adP ++ zwT adT adT_bytes cB cI cL sT)) hr_11 hP hD hS hA [3, 4, 5, 6, 7] [0, 1, 2] rfl rfl (by decide) (by decide) (fun r_11 u_11 H locs hw_11 hP hD hS => ?_)
  subst hw_11
  have hP : va_P (dC, dI) zcl (zwW adW adT adR adG adF adH adD adP ++ zwT adT adT_bytes cB cI cL sT ++ zwD adD adD_parts adD_bytes adD_lows adD_highs cB cI cL sD) H := hP
  have hD : va_D A (zwW adW adT adR adG adF adH adD adP ++ zwT adT adT_bytes cB cI cL sT ++ zwD adD adD_parts adD_bytes adD_lows adD_highs cB cI cL sD) := hD
  have hG : g_W_lead_c11 N sT sD v1 v2 v3 v4 v5 r_11 = some (a, c9, z9) := hG
  unfold g_W_lead_c11 at hG
  refine lv_if_ne (tgt := 28) hx hb d_W_lead_14 (by decide) (fun hc => ?_) (fun hc => ?_)
  · have hG := zf hG hc
    refine lv_aload_n hx hb d_W_lead_28 rfl (lv_at hl 0 rfl) ?_
    refine va_get (D := (dC, dI)) (ci := 0) (v := .ref adT) (C := R_W) (T := F_W) (N := 7) hx hb hts zi_W hown zz.1 hP 0 rfl rfl 0 (by decide) (hts (.fieldLink R_W 12 "WireCodec" "tape" "LWireCodec$Tape;") zin_W_12) (fun _ h9 => h9) rfl d_W_lead_29 ?_
    obtain ⟨a_32, hx_32, hG⟩ := zb hG
    have hr_32 := zrunV (p := p) (e := e) (below := below) (meth := meth) (As := []) (rest := []) (st0 := [.ref adT]) (cells := cells) (slots := slots) X zz hP hD hS hA [1, 2] (by decide) rfl (c_T_startWriting l dC dI cB cI cL H.size adT adT_bytes sT _ hx_32) zy_T_startWriting zv_T_startWriting (hts (.methodLink R_W 67 y_T_startWriting) zin_W_67) hl rfl rfl d_W_lead_32 (lv_room (Nat.le_of_ble_eq_true rfl)) rfl rfl ⟨Nat.le_trans (Nat.le_of_ble_eq_true rfl) hRf, Nat.le_trans (Nat.le_of_ble_eq_true rfl) hRl⟩ ⟨zle kc hRc, zle kz hRz⟩ 0 1 rfl rfl
    refine zcallv (wr := (zwW adW adT adR adG adF adH adD adP ++ zwD adD adD_parts adD_bytes adD_lows adD_highs cB cI cL sD)) hr_32 hP hD hS hA [1, 2] [0, 3, 4, 5, 6, 7] rfl rfl (by decide) (by decide) (fun u_32 H locs hw_32 hP hD hS => ?_)
    obtain ⟨sT_32, rfl⟩ : ∃ z, z = u_32 := ⟨_, rfl⟩
    subst hw_32
    have hP : va_P (dC, dI) zcl (zwW adW adT adR adG adF adH adD adP ++ zwD adD adD_parts adD_bytes adD_lows adD_highs cB cI cL sD ++ zwT adT adT_bytes cB cI cL sT_32) H := hP
    have hD : va_D A (zwW adW adT adR adG adF adH adD adP ++ zwD adD adD_parts adD_bytes adD_lows adD_highs cB cI cL sD ++ zwT adT adT_bytes cB cI cL sT_32) := hD
    have hG : g_W_lead_c32 N sD v1 v2 v3 v4 v5 sT_32 = some (a, c9, z9) := hG
    unfold g_W_lead_c32 at hG
    refine lv_aload_n hx hb d_W_lead_35 rfl (lv_at hl 0 rfl) ?_
    refine va_get (D := (dC, dI)) (ci := 0) (v := .ref adD) (C := R_W) (T := F_W) (N := 7) hx hb hts zi_W hown zz.1 hP 0 rfl rfl 5 (by decide) (hts (.fieldLink R_W 49 "WireCodec" "drafted" "LWireCodec$Draft;") zin_W_49) (fun _ h9 => h9) rfl d_W_lead_36 ?_
    refine lv_aload_n hx hb d_W_lead_39 rfl (lv_at hl 0 rfl) ?_
    refine va_get (D := (dC, dI)) (ci := 0) (v := .ref adT) (C := R_W) (T := F_W) (N := 7) hx hb hts zi_W hown zz.1 hP 0 rfl rfl 0 (by decide) (hts (.fieldLink R_W 12 "WireCodec" "tape" "LWireCodec$Tape;") zin_W_12) (fun _ h9 => h9) rfl d_W_lead_40 ?_
    refine lv_iload_n hx hb d_W_lead_43 rfl (lv_at hl 1 rfl) ?_
    refine lv_iload_n hx hb d_W_lead_44 rfl (lv_at hl 2 rfl) ?_
    refine lv_iload_n hx hb d_W_lead_45 rfl (lv_at hl 3 rfl) ?_
    refine lv_iload hx hb d_W_lead_46 (lv_at hl 4 rfl) ?_
    refine lv_iload hx hb d_W_lead_48 (lv_at hl 5 rfl) ?_
    obtain ⟨a_50, c_50, z_50, c9, z9, hx_50, hG, kc, kz⟩ := zcbde hG kc kz
    have hr_50 := zrunV (p := p) (e := e) (below := below) (meth := meth) (As := [.ref adT, .int v1, .int v2, .int v3, .int v4, .int v5]) (rest := []) (st0 := [.int v5, .int v4, .int v3, .int v2, .int v1, .ref adT, .ref adD]) (cells := cells) (slots := slots) X zz hP hD hS hA [6, 7, 1, 2, 3, 4, 5] (by decide) rfl (c_D_writeHeader l dC dI cB cI cL H.size adT adT_bytes adD adD_parts adD_bytes adD_lows adD_highs N sT_32 sD v1 v2 v3 v4 v5 _ _ _ hx_50) zy_D_writeHeader zv_D_writeHeader (hts (.methodLink R_W 269 y_D_writeHeader) zin_W_269) hl rfl rfl d_W_lead_50 (lv_room (Nat.le_of_ble_eq_true rfl)) rfl rfl ⟨Nat.le_trans (Nat.le_of_ble_eq_true rfl) hRf, Nat.le_trans (Nat.le_of_ble_eq_true rfl) hRl⟩ ⟨zle kc hRc, zle kz hRz⟩ 2 6 rfl rfl
    refine zcallv (wr := (zwW adW adT adR adG adF adH adD adP)) hr_50 hP hD hS hA [6, 7, 1, 2, 3, 4, 5] [0] rfl rfl (by decide) (by decide) (fun u_50 H locs hw_50 hP hD hS => ?_)
    obtain ⟨sT_50, qT_bytes_50⟩ := u_50
    subst hw_50
    have hP : va_P (dC, dI) zcl (zwW adW adT adR adG adF adH adD adP ++ zwT adT qT_bytes_50 cB cI cL sT_50 ++ zwD adD adD_parts adD_bytes adD_lows adD_highs cB cI cL sD) H := hP
    have hD : va_D A (zwW adW adT adR adG adF adH adD adP ++ zwT adT qT_bytes_50 cB cI cL sT_50 ++ zwD adD adD_parts adD_bytes adD_lows adD_highs cB cI cL sD) := hD
    have hG : g_W_lead_c50 sT_50 = some (a, c9, z9) := hG
    unfold g_W_lead_c50 at hG
    generalize cells + c_50 = cells at kc ⊢
    generalize slots + z_50 = slots at kz ⊢
    refine lv_aload_n hx hb d_W_lead_53 rfl (lv_at hl 0 rfl) ?_
    obtain ⟨a_54, hx_54, hG⟩ := zb hG
    obtain ⟨c9, z9, hG, kc, kz⟩ := zcae hG kc kz
    have hr_54 := zrunXV (p := p) (e := e) (below := below) (meth := meth) (As := []) (rest := []) (st0 := [.ref adW]) (cells := cells) (slots := slots) X zz hP hD hS hA [0, 1, 2] (by decide) rfl (c_W_keepWritten l dC dI cB cI cL H.size adW adT qT_bytes_50 adR adG adF adH adD adP sT_50 _ hx_54 htr) zy_W_keepWritten zv_W_keepWritten (hts (.methodLink R_W 74 y_W_keepWritten) zin_W_74) hl rfl rfl d_W_lead_54 (lv_room (Nat.le_of_ble_eq_true rfl)) rfl rfl ⟨Nat.le_trans (Nat.le_of_ble_eq_true rfl) hRf, Nat.le_trans (Nat.le_of_ble_eq_true rfl) hRl⟩ ⟨zle kc hRc, zle kz hRz⟩ 0 0 rfl rfl
    refine zcallX (wr := (zwD adD adD_parts adD_bytes adD_lows adD_highs cB cI cL sD)) hr_54 hP hD hS hA [0, 1, 2] [3, 4, 5, 6, 7] rfl rfl (by decide) (by decide) hnh hlocks (Nat.le.intro kc) (Nat.le.intro kz) (fun k_54 u_54 t9 q9 hw_54 hP hD hF9 ht9 => ?_) (fun r_54 u_54 H locs hw_54 hP hD hS => ?_)
    · obtain ⟨sT_54, rfl⟩ : ∃ z, z = u_54 := ⟨_, rfl⟩
      subst hw_54
      have hP : va_P (dC, dI) zcl (zwD adD adD_parts adD_bytes adD_lows adD_highs cB cI cL sD ++ zwW adW adT adR adG adF adH adD adP ++ zwT adT qT_bytes_50 cB cI cL sT_54) t9.heap := hP
      have hD : va_D A (zwD adD adD_parts adD_bytes adD_lows adD_highs cB cI cL sD ++ zwW adW adT adR adG adF adH adD adP ++ zwT adT qT_bytes_50 cB cI cL sT_54) := hD
      obtain ⟨hG, e91, e92⟩ := zc0 (show some _ = some _ from hG)
      exact ⟨(sT_54, qT_bytes_50), (hP.sub [5, 6, 7, 0, 1, 2, 3, 4] rfl), (hD.sub [5, 6, 7, 0, 1, 2, 3, 4] (by decide) rfl), hF9, Or.inr ⟨k_54, q9, rfl, hG, ht9⟩⟩
    obtain ⟨sT_54, rfl⟩ : ∃ z, z = u_54 := ⟨_, rfl⟩
    subst hw_54
    have hP : va_P (dC, dI) zcl (zwD adD adD_parts adD_bytes adD_lows adD_highs cB cI cL sD ++ zwW adW adT adR adG adF adH adD adP ++ zwT adT qT_bytes_50 cB cI cL sT_54) H := hP
    have hD : va_D A (zwD adD adD_parts adD_bytes adD_lows adD_highs cB cI cL sD ++ zwW adW adT adR adG adF adH adD adP ++ zwT adT qT_bytes_50 cB cI cL sT_54) := hD
    have hG : g_W_lead_c54 sT_54 r_54 = some (a, c9, z9) := hG
    unfold g_W_lead_c54 at hG
    generalize cells + 1 = cells at kc ⊢
    generalize slots + 6 = slots at kz ⊢
    obtain ⟨hG, e91, e92⟩ := zc0 hG
    refine W.widen (k := tc) (n := tz) (Nat.le.intro kc) (Nat.le.intro kz) ?_
    exact zxreti (u := (sT_54, qT_bytes_50)) (v := r_54) X hlocks (hG) (hP.sub [5, 6, 7, 0, 1, 2, 3, 4] rfl) (hD.sub [5, 6, 7, 0, 1, 2, 3, 4] (by decide) rfl) hS d_W_lead_57
  · have hG := zt hG hc
    obtain ⟨hG, e91, e92⟩ := zc0 hG
    exact zthrowW htr X zz hnh hAs hA hS 1 (text := "the draft is no such header") zin_W_60 zini_1 (by decide +kernel) zat_W_64 zfit_1 hl d_W_lead_17 d_W_lead_20 d_W_lead_21 d_W_lead_24 d_W_lead_27 (Nat.le_trans (Nat.le_of_ble_eq_true rfl) hRf) (Nat.le_trans (Nat.le_of_ble_eq_true rfl) hRl) hRc hRz (by omega) (by omega) (fun t9 q9 hz9 ho9 ht9 => ⟨(sT, adT_bytes), va_P.kept hP (zold hP ho9), hD, zFr hS hz9 ho9, Or.inr ⟨1, q9, rfl, hG, ht9⟩⟩)
set_option maxRecDepth 100000 in
set_option maxHeartbeats 4000000 in
theorem c_W_lead (l : Launch) (dC : Nat → ClassId) (dI : Nat → Nat → Nat) (cB cI cL : ClassId) (sz : Nat) (adW adT adT_bytes adD adD_parts adD_bytes adD_lows adD_highs adR adG adF adH adP : Nat) (N : Nat) (sT : zT) (sD : zD) (v1 : Int32) (v2 : Int32) (v3 : Int32) (v4 : Int32) (v5 : Int32) (a : (Int32 ⊕ Nat) × zT) (c9 z9 : Nat) (hG : g_W_lead N sT sD v1 v2 v3 v4 v5 = some (a, c9, z9)) (htr : l.stackTraces = false) : zMet l y_W_lead (zw y_W_lead b_W_lead 6 (some .int)) ({ frames := 7, cells := c9, slots := z9, locals := 179 }) (va_Pc [.ref adW, .int v1, .int v2, .int v3, .int v4, .int v5] (zpre dC dI cB cI cL sz (zwW adW adT adR adG adF adH adD adP ++ zwT adT adT_bytes cB cI cL sT ++ zwD adD adD_parts adD_bytes adD_lows adD_highs cB cI cL sD))) (q_W_lead dC dI cB cI cL (va_A (zwW adW adT adR adG adF adH adD adP ++ zwT adT adT_bytes cB cI cL sT ++ zwD adD adD_parts adD_bytes adD_lows adD_highs cB cI cL sD) sz) adW adT adD adD_parts adD_bytes adD_lows adD_highs adR adG adF adH adP sD a) c9 z9 (va_A (zwW adW adT adR adG adF adH adD adP ++ zwT adT adT_bytes cB cI cL sT ++ zwD adD adD_parts adD_bytes adD_lows adD_highs cB cI cL sD) sz) := by
  refine zMet.ofW (cc := b_W_lead) (maxL := 6) (ret := (some .int)) (by decide) rfl ?_
  intro p e s m args below meth c s₁ B hml hv
  obtain ⟨rfl, hsz, hP, zz, hD0⟩ := hv
  subst hsz
  have X := zx_of (F := 7) (L := 179) B hml (Nat.le_refl _) (Nat.le_refl _)
  have hD := hD0.self (sz := s.heap.size)
  have hA : ∀ q : Nat, s.heap.size ≤ q → va_A (zwW adW adT adR adG adF adH adD adP ++ zwT adT adT_bytes cB cI cL sT ++ zwD adD adD_parts adD_bytes adD_lows adD_highs cB cI cL sD) s.heap.size q := fun q h => Or.inr h
  have hl := lv_entry ([.ref adW, .int v1, .int v2, .int v3, .int v4, .int v5]) (n := 6) (Nat.le_of_ble_eq_true rfl)
  rw [lg_entry_eq]
  generalize (lg_sl ([.ref adW, .int v1, .int v2, .int v3, .int v4, .int v5]) ++ List.replicate (6 - (lg_sl ([.ref adW, .int v1, .int v2, .int v3, .int v4, .int v5])).length) Slot.unset).toArray = ls at hl ⊢
  have hnh := BodyLoose.noHandlers B (atoms_spec (ws := zw y_W_lead b_W_lead 6 (some .int)) B.pre _ List.mem_cons_self)
  have hAs := zstatics hP
  exact k_W_lead_0 X hA zz htr hnh hAs N sT sD v1 v2 v3 v4 v5 a c9 z9 0 0 c9 z9 hG (Nat.zero_add _) (Nat.zero_add _) (Nat.le_refl _) (Nat.le_refl _) adW adT adT_bytes adD adD_parts adD_bytes adD_lows adD_highs _ _ hP hD va_S.rf ls hl
noncomputable def g_D_writeFrame_c61 (sT_61 : zT) : Option ((zT) × Nat × Nat) := some ((sT_61), 0, 0)
noncomputable def g_D_writeFrame_58 (N : Nat) (sT : zT) (sD : zD) (v2 : Int32) : Option ((zT) × Nat × Nat) := zcbd (g_D_writeAck N sT sD v2) (fun a => g_D_writeFrame_c61 a)
noncomputable def g_D_writeFrame_152 (N : Nat) (sT : zT) (sD : zD) : Option ((zT) × Nat × Nat) := some ((sT), 0, 0)
noncomputable def g_D_writeFrame_c149 (N : Nat) (sD : zD) (sT_149 : zT) : Option ((zT) × Nat × Nat) := g_D_writeFrame_152 N sT_149 sD
noncomputable def g_D_writeFrame_139 (N : Nat) (sT : zT) (sD : zD) : Option ((zT) × Nat × Nat) := zcbd (g_T_writeBytes N sT (zD_bytes sD) 2000 (0 : Int32) (zD_length sD)) (fun a => g_D_writeFrame_c149 N sD a)
noncomputable def g_D_writeFrame_119 (N : Nat) (sT : zT) (sD : zD) (v2 : Int32) (v4 : Int32) : Option ((zT) × Nat × Nat) := if (v4 &&& (8 : Int32)) = (0 : Int32) then (if v2 = (8 : Int32) then (g_D_writeFrame_139 N sT sD) else (if v2 = (24 : Int32) then (g_D_writeFrame_139 N sT sD) else (g_D_writeFrame_152 N sT sD))) else (g_D_writeFrame_139 N sT sD)
noncomputable def g_D_writeFrame_c116 (N : Nat) (sD : zD) (v2 : Int32) (v4 : Int32) (sT_116 : zT) : Option ((zT) × Nat × Nat) := g_D_writeFrame_119 N sT_116 sD v2 v4
noncomputable def g_D_writeFrame_107 (N : Nat) (sT : zT) (sD : zD) (v2 : Int32) (v4 : Int32) : Option ((zT) × Nat × Nat) := zg (vp_in (0 : Int32) 12) (zcbd (g_T_writeWord N sT ((zD_parts sD) (0 : Int32).toNatClampNeg) (8 : Int32)) (fun a => g_D_writeFrame_c116 N sD v2 v4 a))
noncomputable def g_D_writeFrame_95 (N : Nat) (sT : zT) (sD : zD) (v2 : Int32) (v4 : Int32) : Option ((zT) × Nat × Nat) := if v2 = (26 : Int32) then (g_D_writeFrame_107 N sT sD v2 v4) else (if v2 = (27 : Int32) then (g_D_writeFrame_107 N sT sD v2 v4) else (g_D_writeFrame_119 N sT sD v2 v4))
noncomputable def g_D_writeFrame_c92 (N : Nat) (sD : zD) (v2 : Int32) (r_66 : Int32) (sT_92 : zT) : Option ((zT) × Nat × Nat) := g_D_writeFrame_95 N sT_92 sD v2 r_66
noncomputable def g_D_writeFrame_c75 (N : Nat) (sD : zD) (v2 : Int32) (r_66 : Int32) (sT_75 : zT) : Option ((zT) × Nat × Nat) := if v2 = (24 : Int32) then (zcbd (g_T_writeByte sT_75 ((zD_length sD) - (16 : Int32))) (fun a => g_D_writeFrame_c92 N sD v2 r_66 a)) else (g_D_writeFrame_95 N sT_75 sD v2 r_66)
noncomputable def g_D_writeFrame_c66 (N : Nat) (sD : zD) (v2 : Int32) (sT_45 : zT) (r_66 : Int32) : Option ((zT) × Nat × Nat) := zcbd (g_D_writeShape N sT_45 sD r_66) (fun a => g_D_writeFrame_c75 N sD v2 r_66 a)
noncomputable def g_D_writeFrame_c45 (N : Nat) (sD : zD) (v2 : Int32) (r_39 : Int32) (sT_45 : zT) : Option ((zT) × Nat × Nat) := if v2 = (2 : Int32) then (g_D_writeFrame_58 N sT_45 sD v2) else (if v2 = (3 : Int32) then (g_D_writeFrame_58 N sT_45 sD v2) else ((g_D_shapeOf r_39).bind (fun a => g_D_writeFrame_c66 N sD v2 sT_45 a)))
noncomputable def g_D_writeFrame_c39 (N : Nat) (sT : zT) (sD : zD) (v2 : Int32) (r_39 : Int32) : Option ((zT) × Nat × Nat) := zcbd (g_T_writeByte sT r_39) (fun a => g_D_writeFrame_c45 N sD v2 r_39 a)
noncomputable def g_D_writeFrame_36 (N : Nat) (sT : zT) (sD : zD) : Option ((zT) × Nat × Nat) := some ((sT), 0, 0)
noncomputable def g_D_writeFrame_c27 (kr : zT → zD → Int32 → Option ((zT) × Nat × Nat)) (sD : zD) (v3 : Int32) (sT_27 : zT) : Option ((zT) × Nat × Nat) := kr sT_27 sD (v3 + 1)
noncomputable def g_D_writeFrame_6_b (N : Nat) (kr : zT → zD → Int32 → Option ((zT) × Nat × Nat)) (sT : zT) (sD : zD) (v3 : Int32) : Option ((zT) × Nat × Nat) := if (2000 : Int32) ≤ v3 then (g_D_writeFrame_36 N sT sD) else (zg (vp_in (0 : Int32) 12) (if (0 : Int32) ≤ (lg_cmp v3.toInt64 ((zD_parts sD) (0 : Int32).toNatClampNeg)) then (g_D_writeFrame_36 N sT sD) else (zcbd (g_T_writeByte sT (0 : Int32)) (fun a => g_D_writeFrame_c27 kr sD v3 a))))
noncomputable def g_D_writeFrame_6 (N : Nat) : Nat → zT → zD → Int32 → Option ((zT) × Nat × Nat)
  | 0 => fun _ _ _ => none
  | k + 1 => fun sT sD v3 => g_D_writeFrame_6_b N (g_D_writeFrame_6 N k) sT sD v3
noncomputable def g_D_writeFrame (N : Nat) (sT : zT) (sD : zD) (v2 : Int32) : Option ((zT) × Nat × Nat) := if v2 = (0 : Int32) then (g_D_writeFrame_6 N N sT sD (0 : Int32)) else ((g_D_firstByte sD v2).bind (fun a => g_D_writeFrame_c39 N sT sD v2 a))
def q_D_writeFrame (dC : Nat → ClassId) (dI : Nat → Nat → Nat) (cB cI cL : ClassId) (A : Nat → Prop) (adT : Nat) (adD : Nat) (adD_parts : Nat) (adD_bytes : Nat) (adD_lows : Nat) (adD_highs : Nat) (sD : zD) (a : zT) : Array Value → State → Outcome → State → Prop := va_Qv (fun (u : zT × Nat) => (u.1) = a) (fun u U => va_P (dC, dI) zcl (zwT adT u.2 cB cI cL u.1 ++ zwD adD adD_parts adD_bytes adD_lows adD_highs cB cI cL sD) U.heap ∧ va_D A (zwT adT u.2 cB cI cL u.1 ++ zwD adD adD_parts adD_bytes adD_lows adD_highs cB cI cL sD)) A
set_option maxRecDepth 100000 in
set_option maxHeartbeats 4000000 in
theorem k_D_writeFrame_58 {p : Program} {l : Launch} {e : Env} {R : Room} {s : State} {m : MethodId} {args : Array Value} {below : List Frame} {meth : Method} {c : Code} {dC : Nat → ClassId} {dI : Nat → Nat → Nat} {cB cI cL : ClassId} {A : Nat → Prop} (X : zx p s m args meth c R R_D b_D_writeFrame none 5 6 176) (hA : ∀ q, s.heap.size ≤ q → A q) (zz : zk dC dI cB cI cL A s)  (N : Nat) (sT : zT) (sD : zD) (v2 : Int32) (a : zT) (c9 z9 cells slots tc tz : Nat) (hG : g_D_writeFrame_58 N sT sD v2 = some (a, c9, z9)) (kc : cells + c9 = tc) (kz : slots + z9 = tz) (hRc : tc ≤ R.cells) (hRz : tz ≤ R.slots) (adT adT_bytes adD adD_parts adD_bytes adD_lows adD_highs : Nat) (H : Heap) (locs : List Loc) (hP : va_P (dC, dI) zcl (zwT adT adT_bytes cB cI cL sT ++ zwD adD adD_parts adD_bytes adD_lows adD_highs cB cI cL sD) H) (hD : va_D A (zwT adT adT_bytes cB cI cL sT ++ zwD adD adD_parts adD_bytes adD_lows adD_highs cB cI cL sD)) (hS : va_S A s.heap H locs) (ls : Array Slot) (hl : lv_has ls 5 [(0, .ref adD), (1, .ref adT), (2, .int v2)]) : W p l e R s m args below meth c H locs cells slots (MQ below (q_D_writeFrame dC dI cB cI cL A adT adD adD_parts adD_bytes adD_lows adD_highs sD a) args s tc tz A) (F0 m 58 ls []) := by
  obtain ⟨hx, hb, hr, hml, hown, hts, hlocks, hRf, hRl⟩ := id X
  unfold g_D_writeFrame_58 at hG
  refine lv_aload_n hx hb d_D_writeFrame_58 rfl (lv_at hl 0 rfl) ?_
  refine lv_aload_n hx hb d_D_writeFrame_59 rfl (lv_at hl 1 rfl) ?_
  refine lv_iload_n hx hb d_D_writeFrame_60 rfl (lv_at hl 2 rfl) ?_
  obtain ⟨a_61, c_61, z_61, c9, z9, hx_61, hG, kc, kz⟩ := zcbde hG kc kz
  have hr_61 := zrunV (p := p) (e := e) (below := below) (meth := meth) (As := [.ref adT, .int v2]) (rest := []) (st0 := [.int v2, .ref adT, .ref adD]) (cells := cells) (slots := slots) X zz hP hD hS hA [0, 1, 2, 3, 4, 5, 6] (by decide) rfl (c_D_writeAck l dC dI cB cI cL H.size adT adT_bytes adD adD_parts adD_bytes adD_lows adD_highs N sT sD v2 _ _ _ hx_61) zy_D_writeAck zv_D_writeAck (hts (.methodLink R_D 67 y_D_writeAck) zin_D_67) hl rfl rfl d_D_writeFrame_61 (lv_room (Nat.le_of_ble_eq_true rfl)) rfl rfl ⟨Nat.le_trans (Nat.le_of_ble_eq_true rfl) hRf, Nat.le_trans (Nat.le_of_ble_eq_true rfl) hRl⟩ ⟨zle kc hRc, zle kz hRz⟩ 2 6 rfl rfl
  refine zcallv (wr := ([] : va_W)) hr_61 hP hD hS hA [0, 1, 2, 3, 4, 5, 6] [] rfl rfl (by decide) (by decide) (fun u_61 H locs hw_61 hP hD hS => ?_)
  obtain ⟨sT_61, qT_bytes_61⟩ := u_61
  subst hw_61
  have hP : va_P (dC, dI) zcl (zwT adT qT_bytes_61 cB cI cL sT_61 ++ zwD adD adD_parts adD_bytes adD_lows adD_highs cB cI cL sD) H := hP
  have hD : va_D A (zwT adT qT_bytes_61 cB cI cL sT_61 ++ zwD adD adD_parts adD_bytes adD_lows adD_highs cB cI cL sD) := hD
  have hG : g_D_writeFrame_c61 sT_61 = some (a, c9, z9) := hG
  unfold g_D_writeFrame_c61 at hG
  generalize cells + c_61 = cells at kc ⊢
  generalize slots + z_61 = slots at kz ⊢
  obtain ⟨hG, e91, e92⟩ := zc0 hG
  refine W.widen (k := tc) (n := tz) (Nat.le.intro kc) (Nat.le.intro kz) ?_
  exact W.vret hx hb hr (fun t9 ht9 hW9 => ⟨⟨(sT_61, qT_bytes_61), rfl, hG, by rw [ht9]; exact hP, hD⟩, hS.F ht9⟩) hS.2.2 d_D_writeFrame_64
set_option maxRecDepth 100000 in
set_option maxHeartbeats 4000000 in
theorem k_D_writeFrame_152 {p : Program} {l : Launch} {e : Env} {R : Room} {s : State} {m : MethodId} {args : Array Value} {below : List Frame} {meth : Method} {c : Code} {dC : Nat → ClassId} {dI : Nat → Nat → Nat} {cB cI cL : ClassId} {A : Nat → Prop} (X : zx p s m args meth c R R_D b_D_writeFrame none 5 6 176) (hA : ∀ q, s.heap.size ≤ q → A q) (zz : zk dC dI cB cI cL A s)  (N : Nat) (sT : zT) (sD : zD) (a : zT) (c9 z9 cells slots tc tz : Nat) (hG : g_D_writeFrame_152 N sT sD = some (a, c9, z9)) (kc : cells + c9 = tc) (kz : slots + z9 = tz) (hRc : tc ≤ R.cells) (hRz : tz ≤ R.slots) (adT adT_bytes adD adD_parts adD_bytes adD_lows adD_highs : Nat) (H : Heap) (locs : List Loc) (hP : va_P (dC, dI) zcl (zwT adT adT_bytes cB cI cL sT ++ zwD adD adD_parts adD_bytes adD_lows adD_highs cB cI cL sD) H) (hD : va_D A (zwT adT adT_bytes cB cI cL sT ++ zwD adD adD_parts adD_bytes adD_lows adD_highs cB cI cL sD)) (hS : va_S A s.heap H locs) (ls : Array Slot) (hl : lv_has ls 5 []) : W p l e R s m args below meth c H locs cells slots (MQ below (q_D_writeFrame dC dI cB cI cL A adT adD adD_parts adD_bytes adD_lows adD_highs sD a) args s tc tz A) (F0 m 152 ls []) := by
  obtain ⟨hx, hb, hr, hml, hown, hts, hlocks, hRf, hRl⟩ := id X
  unfold g_D_writeFrame_152 at hG
  obtain ⟨hG, e91, e92⟩ := zc0 hG
  refine W.widen (k := tc) (n := tz) (Nat.le.intro kc) (Nat.le.intro kz) ?_
  exact W.vret hx hb hr (fun t9 ht9 hW9 => ⟨⟨(sT, adT_bytes), rfl, hG, by rw [ht9]; exact hP, hD⟩, hS.F ht9⟩) hS.2.2 d_D_writeFrame_152
set_option maxRecDepth 100000 in
set_option maxHeartbeats 4000000 in
theorem k_D_writeFrame_139 {p : Program} {l : Launch} {e : Env} {R : Room} {s : State} {m : MethodId} {args : Array Value} {below : List Frame} {meth : Method} {c : Code} {dC : Nat → ClassId} {dI : Nat → Nat → Nat} {cB cI cL : ClassId} {A : Nat → Prop} (X : zx p s m args meth c R R_D b_D_writeFrame none 5 6 176) (hA : ∀ q, s.heap.size ≤ q → A q) (zz : zk dC dI cB cI cL A s)  (N : Nat) (sT : zT) (sD : zD) (a : zT) (c9 z9 cells slots tc tz : Nat) (hG : g_D_writeFrame_139 N sT sD = some (a, c9, z9)) (kc : cells + c9 = tc) (kz : slots + z9 = tz) (hRc : tc ≤ R.cells) (hRz : tz ≤ R.slots) (adT adT_bytes adD adD_parts adD_bytes adD_lows adD_highs : Nat) (H : Heap) (locs : List Loc) (hP : va_P (dC, dI) zcl (zwT adT adT_bytes cB cI cL sT ++ zwD adD adD_parts adD_bytes adD_lows adD_highs cB cI cL sD) H) (hD : va_D A (zwT adT adT_bytes cB cI cL sT ++ zwD adD adD_parts adD_bytes adD_lows adD_highs cB cI cL sD)) (hS : va_S A s.heap H locs) (ls : Array Slot) (hl : lv_has ls 5 [(0, .ref adD), (1, .ref adT)]) : W p l e R s m args below meth c H locs cells slots (MQ below (q_D_writeFrame dC dI cB cI cL A adT adD adD_parts adD_bytes adD_lows adD_highs sD a) args s tc tz A) (F0 m 139 ls []) := by
  obtain ⟨hx, hb, hr, hml, hown, hts, hlocks, hRf, hRl⟩ := id X
  unfold g_D_writeFrame_139 at hG
  refine lv_aload_n hx hb d_D_writeFrame_139 rfl (lv_at hl 1 rfl) ?_
  refine lv_aload_n hx hb d_D_writeFrame_140 rfl (lv_at hl 0 rfl) ?_
  refine va_get (D := (dC, dI)) (ci := 6) (v := .ref adD_bytes) (C := R_D) (T := F_D) (N := 6) hx hb hts zi_D hown zz.1 hP 2 rfl rfl 1 (by decide) (hts (.fieldLink R_D 15 "WireCodec$Draft" "bytes" "[B") zin_D_15) (fun _ h9 => h9) rfl d_D_writeFrame_141 ?_
  refine lv_iconst (v := (0 : Int32)) hx hb d_D_writeFrame_144 (by decide) ?_
  refine lv_aload_n hx hb d_D_writeFrame_145 rfl (lv_at hl 0 rfl) ?_
  refine va_get (D := (dC, dI)) (ci := 6) (v := .int (zD_length sD)) (C := R_D) (T := F_D) (N := 6) hx hb hts zi_D hown zz.1 hP 2 rfl rfl 4 (by decide) (hts (.fieldLink R_D 31 "WireCodec$Draft" "length" "I") zin_D_31) (fun _ h9 => h9) rfl d_D_writeFrame_146 ?_
  obtain ⟨a_149, c_149, z_149, c9, z9, hx_149, hG, kc, kz⟩ := zcbde hG kc kz
  have hr_149 := zrunV (p := p) (e := e) (below := below) (meth := meth) (As := [.ref adD_bytes, .int (0 : Int32), .int (zD_length sD)]) (rest := []) (st0 := [.int (zD_length sD), .int (0 : Int32), .ref adD_bytes, .ref adT]) (cells := cells) (slots := slots) X zz hP hD hS hA [0, 1, 4] (by decide) rfl (c_T_writeBytes l dC dI cB cI cL H.size adT adT_bytes adD_bytes N sT (zD_bytes sD) 2000 (0 : Int32) (zD_length sD) _ _ _ hx_149) zy_T_writeBytes zv_T_writeBytes (hts (.methodLink R_D 81 y_T_writeBytes) zin_D_81) hl rfl rfl d_D_writeFrame_149 (lv_room (Nat.le_of_ble_eq_true rfl)) rfl rfl ⟨Nat.le_trans (Nat.le_of_ble_eq_true rfl) hRf, Nat.le_trans (Nat.le_of_ble_eq_true rfl) hRl⟩ ⟨zle kc hRc, zle kz hRz⟩ 0 1 rfl rfl
  refine zcallv (wr := ([(adD, .inr (6, [.ref adD_parts, .ref adD_bytes, .ref adD_lows, .ref adD_highs, .int (zD_length sD), .int (zD_ranges sD)])), (adD_parts, .inl (cL, 12, .inr (.inl (zD_parts sD)))), (adD_lows, .inl (cL, 500, .inr (.inl (zD_lows sD)))), (adD_highs, .inl (cL, 500, .inr (.inl (zD_highs sD))))])) hr_149 hP hD hS hA [0, 1, 4] [2, 3, 5, 6] rfl rfl (by decide) (by decide) (fun u_149 H locs hw_149 hP hD hS => ?_)
  obtain ⟨sT_149, qT_bytes_149⟩ := u_149
  subst hw_149
  have hP : va_P (dC, dI) zcl (zwD adD adD_parts adD_bytes adD_lows adD_highs cB cI cL sD ++ zwT adT qT_bytes_149 cB cI cL sT_149) H := hP.sub [0, 1, 6, 2, 3, 4, 5] rfl
  have hD : va_D A (zwD adD adD_parts adD_bytes adD_lows adD_highs cB cI cL sD ++ zwT adT qT_bytes_149 cB cI cL sT_149) := hD.sub [0, 1, 6, 2, 3, 4, 5] (by decide) rfl
  have hG : g_D_writeFrame_c149 N sD sT_149 = some (a, c9, z9) := hG
  unfold g_D_writeFrame_c149 at hG
  generalize cells + c_149 = cells at kc ⊢
  generalize slots + z_149 = slots at kz ⊢
  exact k_D_writeFrame_152 X hA zz N sT_149 sD _ _ _ _ _ _ _ hG kc kz hRc hRz adT qT_bytes_149 adD adD_parts adD_bytes adD_lows adD_highs _ _ (hP.sub [5, 6, 0, 1, 2, 3, 4] rfl) (hD.sub [5, 6, 0, 1, 2, 3, 4] (by decide) rfl) hS _ (lv_sub hl [] rfl)
set_option maxRecDepth 100000 in
set_option maxHeartbeats 4000000 in
theorem k_D_writeFrame_119 {p : Program} {l : Launch} {e : Env} {R : Room} {s : State} {m : MethodId} {args : Array Value} {below : List Frame} {meth : Method} {c : Code} {dC : Nat → ClassId} {dI : Nat → Nat → Nat} {cB cI cL : ClassId} {A : Nat → Prop} (X : zx p s m args meth c R R_D b_D_writeFrame none 5 6 176) (hA : ∀ q, s.heap.size ≤ q → A q) (zz : zk dC dI cB cI cL A s)  (N : Nat) (sT : zT) (sD : zD) (v2 : Int32) (v4 : Int32) (a : zT) (c9 z9 cells slots tc tz : Nat) (hG : g_D_writeFrame_119 N sT sD v2 v4 = some (a, c9, z9)) (kc : cells + c9 = tc) (kz : slots + z9 = tz) (hRc : tc ≤ R.cells) (hRz : tz ≤ R.slots) (adT adT_bytes adD adD_parts adD_bytes adD_lows adD_highs : Nat) (H : Heap) (locs : List Loc) (hP : va_P (dC, dI) zcl (zwT adT adT_bytes cB cI cL sT ++ zwD adD adD_parts adD_bytes adD_lows adD_highs cB cI cL sD) H) (hD : va_D A (zwT adT adT_bytes cB cI cL sT ++ zwD adD adD_parts adD_bytes adD_lows adD_highs cB cI cL sD)) (hS : va_S A s.heap H locs) (ls : Array Slot) (hl : lv_has ls 5 [(0, .ref adD), (1, .ref adT), (2, .int v2), (4, .int v4)]) : W p l e R s m args below meth c H locs cells slots (MQ below (q_D_writeFrame dC dI cB cI cL A adT adD adD_parts adD_bytes adD_lows adD_highs sD a) args s tc tz A) (F0 m 119 ls []) := by
  obtain ⟨hx, hb, hr, hml, hown, hts, hlocks, hRf, hRl⟩ := id X
  unfold g_D_writeFrame_119 at hG
  refine lv_iload hx hb d_D_writeFrame_119 (lv_at hl 3 rfl) ?_
  refine lv_bipush (v := (8 : Int32)) hx hb d_D_writeFrame_121 (by decide) ?_
  refine lv_iand hx hb d_D_writeFrame_123 ?_
  refine lv_if_ne (tgt := 139) hx hb d_D_writeFrame_124 (by decide) (fun hc => ?_) (fun hc => ?_)
  · have hG := zf hG hc
    exact k_D_writeFrame_139 X hA zz N sT sD _ _ _ _ _ _ _ hG kc kz hRc hRz adT adT_bytes adD adD_parts adD_bytes adD_lows adD_highs _ _ hP hD hS _ (lv_sub hl [0, 1] rfl)
  · have hG := zt hG hc
    refine lv_iload_n hx hb d_D_writeFrame_127 rfl (lv_at hl 2 rfl) ?_
    refine lv_bipush (v := (8 : Int32)) hx hb d_D_writeFrame_128 (by decide) ?_
    refine lv_icmp_eq (tgt := 139) hx hb d_D_writeFrame_130 (by decide) (fun hc => ?_) (fun hc => ?_)
    · have hG := zt hG hc
      exact k_D_writeFrame_139 X hA zz N sT sD _ _ _ _ _ _ _ hG kc kz hRc hRz adT adT_bytes adD adD_parts adD_bytes adD_lows adD_highs _ _ hP hD hS _ (lv_sub hl [0, 1] rfl)
    · have hG := zf hG hc
      refine lv_iload_n hx hb d_D_writeFrame_133 rfl (lv_at hl 2 rfl) ?_
      refine lv_bipush (v := (24 : Int32)) hx hb d_D_writeFrame_134 (by decide) ?_
      refine lv_icmp_ne (tgt := 152) hx hb d_D_writeFrame_136 (by decide) (fun hc => ?_) (fun hc => ?_)
      · have hG := zf hG hc
        exact k_D_writeFrame_152 X hA zz N sT sD _ _ _ _ _ _ _ hG kc kz hRc hRz adT adT_bytes adD adD_parts adD_bytes adD_lows adD_highs _ _ hP hD hS _ (lv_sub hl [] rfl)
      · have hG := zt hG hc
        exact k_D_writeFrame_139 X hA zz N sT sD _ _ _ _ _ _ _ hG kc kz hRc hRz adT adT_bytes adD adD_parts adD_bytes adD_lows adD_highs _ _ hP hD hS _ (lv_sub hl [0, 1] rfl)
set_option maxRecDepth 100000 in
set_option maxHeartbeats 4000000 in
theorem k_D_writeFrame_107 {p : Program} {l : Launch} {e : Env} {R : Room} {s : State} {m : MethodId} {args : Array Value} {below : List Frame} {meth : Method} {c : Code} {dC : Nat → ClassId} {dI : Nat → Nat → Nat} {cB cI cL : ClassId} {A : Nat → Prop} (X : zx p s m args meth c R R_D b_D_writeFrame none 5 6 176) (hA : ∀ q, s.heap.size ≤ q → A q) (zz : zk dC dI cB cI cL A s)  (N : Nat) (sT : zT) (sD : zD) (v2 : Int32) (v4 : Int32) (a : zT) (c9 z9 cells slots tc tz : Nat) (hG : g_D_writeFrame_107 N sT sD v2 v4 = some (a, c9, z9)) (kc : cells + c9 = tc) (kz : slots + z9 = tz) (hRc : tc ≤ R.cells) (hRz : tz ≤ R.slots) (adT adT_bytes adD adD_parts adD_bytes adD_lows adD_highs : Nat) (H : Heap) (locs : List Loc) (hP : va_P (dC, dI) zcl (zwT adT adT_bytes cB cI cL sT ++ zwD adD adD_parts adD_bytes adD_lows adD_highs cB cI cL sD) H) (hD : va_D A (zwT adT adT_bytes cB cI cL sT ++ zwD adD adD_parts adD_bytes adD_lows adD_highs cB cI cL sD)) (hS : va_S A s.heap H locs) (ls : Array Slot) (hl : lv_has ls 5 [(0, .ref adD), (1, .ref adT), (2, .int v2), (4, .int v4)]) : W p l e R s m args below meth c H locs cells slots (MQ below (q_D_writeFrame dC dI cB cI cL A adT adD adD_parts adD_bytes adD_lows adD_highs sD a) args s tc tz A) (F0 m 107 ls []) := by
  obtain ⟨hx, hb, hr, hml, hown, hts, hlocks, hRf, hRl⟩ := id X
  unfold g_D_writeFrame_107 at hG
  refine lv_aload_n hx hb d_D_writeFrame_107 rfl (lv_at hl 1 rfl) ?_
  refine lv_aload_n hx hb d_D_writeFrame_108 rfl (lv_at hl 0 rfl) ?_
  refine va_get (D := (dC, dI)) (ci := 6) (v := .ref adD_parts) (C := R_D) (T := F_D) (N := 6) hx hb hts zi_D hown zz.1 hP 2 rfl rfl 0 (by decide) (hts (.fieldLink R_D 9 "WireCodec$Draft" "parts" "[J") zin_D_9) (fun _ h9 => h9) rfl d_D_writeFrame_109 ?_
  refine lv_iconst (v := (0 : Int32)) hx hb d_D_writeFrame_112 (by decide) ?_
  obtain ⟨hin, hG⟩ := zgd hG
  refine va_lald hx hb zz.1 hP 3 2 rfl rfl hin d_D_writeFrame_113 ?_
  refine lv_bipush (v := (8 : Int32)) hx hb d_D_writeFrame_114 (by decide) ?_
  obtain ⟨a_116, c_116, z_116, c9, z9, hx_116, hG, kc, kz⟩ := zcbde hG kc kz
  have hr_116 := zrunV (p := p) (e := e) (below := below) (meth := meth) (As := [.long ((zD_parts sD) (0 : Int32).toNatClampNeg), .int (8 : Int32)]) (rest := []) (st0 := [.int (8 : Int32), .long ((zD_parts sD) (0 : Int32).toNatClampNeg), .ref adT]) (cells := cells) (slots := slots) X zz hP hD hS hA [0, 1] (by decide) rfl (c_T_writeWord l dC dI cB cI cL H.size adT adT_bytes N sT ((zD_parts sD) (0 : Int32).toNatClampNeg) (8 : Int32) _ _ _ hx_116) zy_T_writeWord zv_T_writeWord (hts (.methodLink R_D 77 y_T_writeWord) zin_D_77) hl rfl rfl d_D_writeFrame_116 (lv_room (Nat.le_of_ble_eq_true rfl)) rfl rfl ⟨Nat.le_trans (Nat.le_of_ble_eq_true rfl) hRf, Nat.le_trans (Nat.le_of_ble_eq_true rfl) hRl⟩ ⟨zle kc hRc, zle kz hRz⟩ 0 1 rfl rfl
  refine zcallv (wr := (zwD adD adD_parts adD_bytes adD_lows adD_highs cB cI cL sD)) hr_116 hP hD hS hA [0, 1] [2, 3, 4, 5, 6] rfl rfl (by decide) (by decide) (fun u_116 H locs hw_116 hP hD hS => ?_)
  obtain ⟨sT_116, qT_bytes_116⟩ := u_116
  subst hw_116
  have hP : va_P (dC, dI) zcl (zwD adD adD_parts adD_bytes adD_lows adD_highs cB cI cL sD ++ zwT adT qT_bytes_116 cB cI cL sT_116) H := hP
  have hD : va_D A (zwD adD adD_parts adD_bytes adD_lows adD_highs cB cI cL sD ++ zwT adT qT_bytes_116 cB cI cL sT_116) := hD
  have hG : g_D_writeFrame_c116 N sD v2 v4 sT_116 = some (a, c9, z9) := hG
  unfold g_D_writeFrame_c116 at hG
  generalize cells + c_116 = cells at kc ⊢
  generalize slots + z_116 = slots at kz ⊢
  exact k_D_writeFrame_119 X hA zz N sT_116 sD v2 v4 _ _ _ _ _ _ _ hG kc kz hRc hRz adT qT_bytes_116 adD adD_parts adD_bytes adD_lows adD_highs _ _ (hP.sub [5, 6, 0, 1, 2, 3, 4] rfl) (hD.sub [5, 6, 0, 1, 2, 3, 4] (by decide) rfl) hS _ (lv_sub hl [0, 1, 2, 3] rfl)
set_option maxRecDepth 100000 in
set_option maxHeartbeats 4000000 in
theorem k_D_writeFrame_95 {p : Program} {l : Launch} {e : Env} {R : Room} {s : State} {m : MethodId} {args : Array Value} {below : List Frame} {meth : Method} {c : Code} {dC : Nat → ClassId} {dI : Nat → Nat → Nat} {cB cI cL : ClassId} {A : Nat → Prop} (X : zx p s m args meth c R R_D b_D_writeFrame none 5 6 176) (hA : ∀ q, s.heap.size ≤ q → A q) (zz : zk dC dI cB cI cL A s)  (N : Nat) (sT : zT) (sD : zD) (v2 : Int32) (v4 : Int32) (a : zT) (c9 z9 cells slots tc tz : Nat) (hG : g_D_writeFrame_95 N sT sD v2 v4 = some (a, c9, z9)) (kc : cells + c9 = tc) (kz : slots + z9 = tz) (hRc : tc ≤ R.cells) (hRz : tz ≤ R.slots) (adT adT_bytes adD adD_parts adD_bytes adD_lows adD_highs : Nat) (H : Heap) (locs : List Loc) (hP : va_P (dC, dI) zcl (zwT adT adT_bytes cB cI cL sT ++ zwD adD adD_parts adD_bytes adD_lows adD_highs cB cI cL sD) H) (hD : va_D A (zwT adT adT_bytes cB cI cL sT ++ zwD adD adD_parts adD_bytes adD_lows adD_highs cB cI cL sD)) (hS : va_S A s.heap H locs) (ls : Array Slot) (hl : lv_has ls 5 [(0, .ref adD), (1, .ref adT), (2, .int v2), (4, .int v4)]) : W p l e R s m args below meth c H locs cells slots (MQ below (q_D_writeFrame dC dI cB cI cL A adT adD adD_parts adD_bytes adD_lows adD_highs sD a) args s tc tz A) (F0 m 95 ls []) := by
  obtain ⟨hx, hb, hr, hml, hown, hts, hlocks, hRf, hRl⟩ := id X
  unfold g_D_writeFrame_95 at hG
  refine lv_iload_n hx hb d_D_writeFrame_95 rfl (lv_at hl 2 rfl) ?_
  refine lv_bipush (v := (26 : Int32)) hx hb d_D_writeFrame_96 (by decide) ?_
  refine lv_icmp_eq (tgt := 107) hx hb d_D_writeFrame_98 (by decide) (fun hc => ?_) (fun hc => ?_)
  · have hG := zt hG hc
    exact k_D_writeFrame_107 X hA zz N sT sD v2 v4 _ _ _ _ _ _ _ hG kc kz hRc hRz adT adT_bytes adD adD_parts adD_bytes adD_lows adD_highs _ _ hP hD hS _ (lv_sub hl [0, 1, 2, 3] rfl)
  · have hG := zf hG hc
    refine lv_iload_n hx hb d_D_writeFrame_101 rfl (lv_at hl 2 rfl) ?_
    refine lv_bipush (v := (27 : Int32)) hx hb d_D_writeFrame_102 (by decide) ?_
    refine lv_icmp_ne (tgt := 119) hx hb d_D_writeFrame_104 (by decide) (fun hc => ?_) (fun hc => ?_)
    · have hG := zf hG hc
      exact k_D_writeFrame_119 X hA zz N sT sD v2 v4 _ _ _ _ _ _ _ hG kc kz hRc hRz adT adT_bytes adD adD_parts adD_bytes adD_lows adD_highs _ _ hP hD hS _ (lv_sub hl [0, 1, 2, 3] rfl)
    · have hG := zt hG hc
      exact k_D_writeFrame_107 X hA zz N sT sD v2 v4 _ _ _ _ _ _ _ hG kc kz hRc hRz adT adT_bytes adD adD_parts adD_bytes adD_lows adD_highs _ _ hP hD hS _ (lv_sub hl [0, 1, 2, 3] rfl)
set_option maxRecDepth 100000 in
set_option maxHeartbeats 4000000 in
theorem k_D_writeFrame_36 {p : Program} {l : Launch} {e : Env} {R : Room} {s : State} {m : MethodId} {args : Array Value} {below : List Frame} {meth : Method} {c : Code} {dC : Nat → ClassId} {dI : Nat → Nat → Nat} {cB cI cL : ClassId} {A : Nat → Prop} (X : zx p s m args meth c R R_D b_D_writeFrame none 5 6 176) (hA : ∀ q, s.heap.size ≤ q → A q) (zz : zk dC dI cB cI cL A s)  (N : Nat) (sT : zT) (sD : zD) (a : zT) (c9 z9 cells slots tc tz : Nat) (hG : g_D_writeFrame_36 N sT sD = some (a, c9, z9)) (kc : cells + c9 = tc) (kz : slots + z9 = tz) (hRc : tc ≤ R.cells) (hRz : tz ≤ R.slots) (adT adT_bytes adD adD_parts adD_bytes adD_lows adD_highs : Nat) (H : Heap) (locs : List Loc) (hP : va_P (dC, dI) zcl (zwT adT adT_bytes cB cI cL sT ++ zwD adD adD_parts adD_bytes adD_lows adD_highs cB cI cL sD) H) (hD : va_D A (zwT adT adT_bytes cB cI cL sT ++ zwD adD adD_parts adD_bytes adD_lows adD_highs cB cI cL sD)) (hS : va_S A s.heap H locs) (ls : Array Slot) (hl : lv_has ls 5 []) : W p l e R s m args below meth c H locs cells slots (MQ below (q_D_writeFrame dC dI cB cI cL A adT adD adD_parts adD_bytes adD_lows adD_highs sD a) args s tc tz A) (F0 m 36 ls []) := by
  obtain ⟨hx, hb, hr, hml, hown, hts, hlocks, hRf, hRl⟩ := id X
  unfold g_D_writeFrame_36 at hG
  obtain ⟨hG, e91, e92⟩ := zc0 hG
  refine W.widen (k := tc) (n := tz) (Nat.le.intro kc) (Nat.le.intro kz) ?_
  exact W.vret hx hb hr (fun t9 ht9 hW9 => ⟨⟨(sT, adT_bytes), rfl, hG, by rw [ht9]; exact hP, hD⟩, hS.F ht9⟩) hS.2.2 d_D_writeFrame_36
set_option maxRecDepth 100000 in
set_option maxHeartbeats 4000000 in
theorem k_D_writeFrame_6_b {p : Program} {l : Launch} {e : Env} {R : Room} {s : State} {m : MethodId} {args : Array Value} {below : List Frame} {meth : Method} {c : Code} {dC : Nat → ClassId} {dI : Nat → Nat → Nat} {cB cI cL : ClassId} {A : Nat → Prop} (tc tz : Nat) (kr : zT → zD → Int32 → Option ((zT) × Nat × Nat)) (hrec : ∀ (sT : zT) (sD : zD) (v3 : Int32) (a : zT) (c9 z9 cells slots : Nat), kr sT sD v3 = some (a, c9, z9) → cells + c9 = tc → slots + z9 = tz → ∀ (adT adT_bytes adD adD_parts adD_bytes adD_lows adD_highs : Nat) (H : Heap) (locs : List Loc), va_P (dC, dI) zcl (zwT adT adT_bytes cB cI cL sT ++ zwD adD adD_parts adD_bytes adD_lows adD_highs cB cI cL sD) H → va_D A (zwT adT adT_bytes cB cI cL sT ++ zwD adD adD_parts adD_bytes adD_lows adD_highs cB cI cL sD) → va_S A s.heap H locs → ∀ ls : Array Slot, lv_has ls 5 [(0, .ref adD), (1, .ref adT), (3, .int v3)] → W p l e R s m args below meth c H locs cells slots (MQ below (q_D_writeFrame dC dI cB cI cL A adT adD adD_parts adD_bytes adD_lows adD_highs sD a) args s tc tz A) (F0 m 6 ls [])) (X : zx p s m args meth c R R_D b_D_writeFrame none 5 6 176) (hA : ∀ q, s.heap.size ≤ q → A q) (zz : zk dC dI cB cI cL A s)  (N : Nat) (sT : zT) (sD : zD) (v3 : Int32) (a : zT) (c9 z9 cells slots : Nat) (hG : g_D_writeFrame_6_b N kr sT sD v3 = some (a, c9, z9)) (kc : cells + c9 = tc) (kz : slots + z9 = tz) (hRc : tc ≤ R.cells) (hRz : tz ≤ R.slots) (adT adT_bytes adD adD_parts adD_bytes adD_lows adD_highs : Nat) (H : Heap) (locs : List Loc) (hP : va_P (dC, dI) zcl (zwT adT adT_bytes cB cI cL sT ++ zwD adD adD_parts adD_bytes adD_lows adD_highs cB cI cL sD) H) (hD : va_D A (zwT adT adT_bytes cB cI cL sT ++ zwD adD adD_parts adD_bytes adD_lows adD_highs cB cI cL sD)) (hS : va_S A s.heap H locs) (ls : Array Slot) (hl : lv_has ls 5 [(0, .ref adD), (1, .ref adT), (3, .int v3)]) : W p l e R s m args below meth c H locs cells slots (MQ below (q_D_writeFrame dC dI cB cI cL A adT adD adD_parts adD_bytes adD_lows adD_highs sD a) args s tc tz A) (F0 m 6 ls []) := by
  obtain ⟨hx, hb, hr, hml, hown, hts, hlocks, hRf, hRl⟩ := id X
  unfold g_D_writeFrame_6_b at hG
  refine lv_iload_n hx hb d_D_writeFrame_6 rfl (lv_at hl 2 rfl) ?_
  refine lv_sipush (v := (2000 : Int32)) hx hb d_D_writeFrame_7 (by decide) ?_
  refine lv_icmp_ge (tgt := 36) hx hb d_D_writeFrame_10 (by decide) (fun hc => ?_) (fun hc => ?_)
  · have hG := zt hG hc
    exact k_D_writeFrame_36 X hA zz N sT sD _ _ _ _ _ _ _ hG kc kz hRc hRz adT adT_bytes adD adD_parts adD_bytes adD_lows adD_highs _ _ hP hD hS _ (lv_sub hl [] rfl)
  · have hG := zf hG hc
    refine lv_iload_n hx hb d_D_writeFrame_13 rfl (lv_at hl 2 rfl) ?_
    refine lv_i2l hx hb d_D_writeFrame_14 rfl ?_
    refine lv_aload_n hx hb d_D_writeFrame_15 rfl (lv_at hl 0 rfl) ?_
    refine va_get (D := (dC, dI)) (ci := 6) (v := .ref adD_parts) (C := R_D) (T := F_D) (N := 6) hx hb hts zi_D hown zz.1 hP 2 rfl rfl 0 (by decide) (hts (.fieldLink R_D 9 "WireCodec$Draft" "parts" "[J") zin_D_9) (fun _ h9 => h9) rfl d_D_writeFrame_16 ?_
    refine lv_iconst (v := (0 : Int32)) hx hb d_D_writeFrame_19 (by decide) ?_
    obtain ⟨hin, hG⟩ := zgd hG
    refine va_lald hx hb zz.1 hP 3 2 rfl rfl hin d_D_writeFrame_20 ?_
    refine W.lcmp hx hb d_D_writeFrame_21 ?_
    refine lv_if_ge (tgt := 36) hx hb d_D_writeFrame_22 (by decide) (fun hc => ?_) (fun hc => ?_)
    · have hG := zt hG hc
      exact k_D_writeFrame_36 X hA zz N sT sD _ _ _ _ _ _ _ hG kc kz hRc hRz adT adT_bytes adD adD_parts adD_bytes adD_lows adD_highs _ _ hP hD hS _ (lv_sub hl [] rfl)
    · have hG := zf hG hc
      refine lv_aload_n hx hb d_D_writeFrame_25 rfl (lv_at hl 1 rfl) ?_
      refine lv_iconst (v := (0 : Int32)) hx hb d_D_writeFrame_26 (by decide) ?_
      obtain ⟨a_27, c_27, z_27, c9, z9, hx_27, hG, kc, kz⟩ := zcbde hG kc kz
      have hr_27 := zrunV (p := p) (e := e) (below := below) (meth := meth) (As := [.int (0 : Int32)]) (rest := []) (st0 := [.int (0 : Int32), .ref adT]) (cells := cells) (slots := slots) X zz hP hD hS hA [0, 1] (by decide) rfl (c_T_writeByte l dC dI cB cI cL H.size adT adT_bytes sT (0 : Int32) _ _ _ hx_27) zy_T_writeByte zv_T_writeByte (hts (.methodLink R_D 57 y_T_writeByte) zin_D_57) hl rfl rfl d_D_writeFrame_27 (lv_room (Nat.le_of_ble_eq_true rfl)) rfl rfl ⟨Nat.le_trans (Nat.le_of_ble_eq_true rfl) hRf, Nat.le_trans (Nat.le_of_ble_eq_true rfl) hRl⟩ ⟨zle kc hRc, zle kz hRz⟩ 0 1 rfl rfl
      refine zcallv (wr := (zwD adD adD_parts adD_bytes adD_lows adD_highs cB cI cL sD)) hr_27 hP hD hS hA [0, 1] [2, 3, 4, 5, 6] rfl rfl (by decide) (by decide) (fun u_27 H locs hw_27 hP hD hS => ?_)
      obtain ⟨sT_27, qT_bytes_27⟩ := u_27
      subst hw_27
      have hP : va_P (dC, dI) zcl (zwD adD adD_parts adD_bytes adD_lows adD_highs cB cI cL sD ++ zwT adT qT_bytes_27 cB cI cL sT_27) H := hP
      have hD : va_D A (zwD adD adD_parts adD_bytes adD_lows adD_highs cB cI cL sD ++ zwT adT qT_bytes_27 cB cI cL sT_27) := hD
      have hG : g_D_writeFrame_c27 kr sD v3 sT_27 = some (a, c9, z9) := hG
      unfold g_D_writeFrame_c27 at hG
      generalize cells + c_27 = cells at kc ⊢
      generalize slots + z_27 = slots at kz ⊢
      refine lv_iinc (v := v3 + 1) (lv' := [(3, .int (v3 + 1)), (0, .ref adD), (1, .ref adT)]) hx hb d_D_writeFrame_30 hl (k := 2) rfl rfl (by decide) rfl (fun ls hl => ?_)
      refine lv_goto (tgt := 6) hx hb d_D_writeFrame_33 (by decide) ?_
      exact hrec sT_27 sD (v3 + 1) _ _ _ _ _ hG kc kz adT qT_bytes_27 adD adD_parts adD_bytes adD_lows adD_highs _ _ (hP.sub [5, 6, 0, 1, 2, 3, 4] rfl) (hD.sub [5, 6, 0, 1, 2, 3, 4] (by decide) rfl) hS _ (lv_sub hl [1, 2, 0] rfl)
theorem k_D_writeFrame_6 {p : Program} {l : Launch} {e : Env} {R : Room} {s : State} {m : MethodId} {args : Array Value} {below : List Frame} {meth : Method} {c : Code} {dC : Nat → ClassId} {dI : Nat → Nat → Nat} {cB cI cL : ClassId} {A : Nat → Prop} (X : zx p s m args meth c R R_D b_D_writeFrame none 5 6 176) (hA : ∀ q, s.heap.size ≤ q → A q) (zz : zk dC dI cB cI cL A s)  (N : Nat) (tc tz : Nat) (hRc : tc ≤ R.cells) (hRz : tz ≤ R.slots) : ∀ (k : Nat) (sT : zT) (sD : zD) (v3 : Int32) (a : zT) (c9 z9 cells slots : Nat) (hG : g_D_writeFrame_6 N k sT sD v3 = some (a, c9, z9)) (kc : cells + c9 = tc) (kz : slots + z9 = tz) (adT adT_bytes adD adD_parts adD_bytes adD_lows adD_highs : Nat) (H : Heap) (locs : List Loc) (hP : va_P (dC, dI) zcl (zwT adT adT_bytes cB cI cL sT ++ zwD adD adD_parts adD_bytes adD_lows adD_highs cB cI cL sD) H) (hD : va_D A (zwT adT adT_bytes cB cI cL sT ++ zwD adD adD_parts adD_bytes adD_lows adD_highs cB cI cL sD)) (hS : va_S A s.heap H locs) (ls : Array Slot) (hl : lv_has ls 5 [(0, .ref adD), (1, .ref adT), (3, .int v3)]), W p l e R s m args below meth c H locs cells slots (MQ below (q_D_writeFrame dC dI cB cI cL A adT adD adD_parts adD_bytes adD_lows adD_highs sD a) args s tc tz A) (F0 m 6 ls []) := by
  intro k
  induction k with
  | zero => intro sT sD v3 a c9 z9 cells slots hG; exact absurd hG (by unfold g_D_writeFrame_6; simp)
  | succ k ih => intro sT sD v3 a c9 z9 cells slots hG kc kz adT adT_bytes adD adD_parts adD_bytes adD_lows adD_highs H locs hP hD hS ls hl; exact k_D_writeFrame_6_b tc tz _ ih X hA zz N sT sD v3 a c9 z9 cells slots hG kc kz hRc hRz adT adT_bytes adD adD_parts adD_bytes adD_lows adD_highs H locs hP hD hS ls hl
set_option maxRecDepth 100000 in
set_option maxHeartbeats 4000000 in
theorem k_D_writeFrame_0 {p : Program} {l : Launch} {e : Env} {R : Room} {s : State} {m : MethodId} {args : Array Value} {below : List Frame} {meth : Method} {c : Code} {dC : Nat → ClassId} {dI : Nat → Nat → Nat} {cB cI cL : ClassId} {A : Nat → Prop} (X : zx p s m args meth c R R_D b_D_writeFrame none 5 6 176) (hA : ∀ q, s.heap.size ≤ q → A q) (zz : zk dC dI cB cI cL A s)  (N : Nat) (sT : zT) (sD : zD) (v2 : Int32) (a : zT) (c9 z9 cells slots tc tz : Nat) (hG : g_D_writeFrame N sT sD v2 = some (a, c9, z9)) (kc : cells + c9 = tc) (kz : slots + z9 = tz) (hRc : tc ≤ R.cells) (hRz : tz ≤ R.slots) (adT adT_bytes adD adD_parts adD_bytes adD_lows adD_highs : Nat) (H : Heap) (locs : List Loc) (hP : va_P (dC, dI) zcl (zwT adT adT_bytes cB cI cL sT ++ zwD adD adD_parts adD_bytes adD_lows adD_highs cB cI cL sD) H) (hD : va_D A (zwT adT adT_bytes cB cI cL sT ++ zwD adD adD_parts adD_bytes adD_lows adD_highs cB cI cL sD)) (hS : va_S A s.heap H locs) (ls : Array Slot) (hl : lv_has ls 5 [(0, .ref adD), (1, .ref adT), (2, .int v2)]) : W p l e R s m args below meth c H locs cells slots (MQ below (q_D_writeFrame dC dI cB cI cL A adT adD adD_parts adD_bytes adD_lows adD_highs sD a) args s tc tz A) (F0 m 0 ls []) := by
  obtain ⟨hx, hb, hr, hml, hown, hts, hlocks, hRf, hRl⟩ := id X
  unfold g_D_writeFrame at hG
  refine lv_iload_n hx hb d_D_writeFrame_0 rfl (lv_at hl 2 rfl) ?_
  refine lv_if_ne (tgt := 37) hx hb d_D_writeFrame_1 (by decide) (fun hc => ?_) (fun hc => ?_)
  · have hG := zf hG hc
    refine lv_aload_n hx hb d_D_writeFrame_37 rfl (lv_at hl 0 rfl) ?_
    refine lv_iload_n hx hb d_D_writeFrame_38 rfl (lv_at hl 2 rfl) ?_
    obtain ⟨a_39, hx_39, hG⟩ := zb hG
    have hr_39 := zrunV (p := p) (e := e) (below := below) (meth := meth) (As := [.int v2]) (rest := []) (st0 := [.int v2, .ref adD]) (cells := cells) (slots := slots) X zz hP hD hS hA [2, 3, 4, 5, 6] (by decide) rfl (c_D_firstByte l dC dI cB cI cL H.size adD adD_parts adD_bytes adD_lows adD_highs sD v2 _ hx_39) zy_D_firstByte zv_D_firstByte (hts (.methodLink R_D 63 y_D_firstByte) zin_D_63) hl rfl rfl d_D_writeFrame_39 (lv_room (Nat.le_of_ble_eq_true rfl)) rfl rfl ⟨Nat.le_trans (Nat.le_of_ble_eq_true rfl) hRf, Nat.le_trans (Nat.le_of_ble_eq_true rfl) hRl⟩ ⟨zle kc hRc, zle kz hRz⟩ 0 6 rfl rfl
    refine zcalli (wr := (zwT adT adT_bytes cB cI cL sT)) hr_39 hP hD hS hA [2, 3, 4, 5, 6] [0, 1] rfl rfl (by decide) (by decide) (fun r_39 u_39 H locs hw_39 hP hD hS => ?_)
    subst hw_39
    have hP : va_P (dC, dI) zcl (zwT adT adT_bytes cB cI cL sT ++ zwD adD adD_parts adD_bytes adD_lows adD_highs cB cI cL sD) H := hP
    have hD : va_D A (zwT adT adT_bytes cB cI cL sT ++ zwD adD adD_parts adD_bytes adD_lows adD_highs cB cI cL sD) := hD
    have hG : g_D_writeFrame_c39 N sT sD v2 r_39 = some (a, c9, z9) := hG
    unfold g_D_writeFrame_c39 at hG
    refine lv_istore_n (lv' := [(3, .int r_39), (0, .ref adD), (1, .ref adT), (2, .int v2)]) hx hb d_D_writeFrame_42 rfl hl (by decide) rfl (fun ls hl => ?_)
    refine lv_aload_n hx hb d_D_writeFrame_43 rfl (lv_at hl 2 rfl) ?_
    refine lv_iload_n hx hb d_D_writeFrame_44 rfl (lv_at hl 0 rfl) ?_
    obtain ⟨a_45, c_45, z_45, c9, z9, hx_45, hG, kc, kz⟩ := zcbde hG kc kz
    have hr_45 := zrunV (p := p) (e := e) (below := below) (meth := meth) (As := [.int r_39]) (rest := []) (st0 := [.int r_39, .ref adT]) (cells := cells) (slots := slots) X zz hP hD hS hA [0, 1] (by decide) rfl (c_T_writeByte l dC dI cB cI cL H.size adT adT_bytes sT r_39 _ _ _ hx_45) zy_T_writeByte zv_T_writeByte (hts (.methodLink R_D 57 y_T_writeByte) zin_D_57) hl rfl rfl d_D_writeFrame_45 (lv_room (Nat.le_of_ble_eq_true rfl)) rfl rfl ⟨Nat.le_trans (Nat.le_of_ble_eq_true rfl) hRf, Nat.le_trans (Nat.le_of_ble_eq_true rfl) hRl⟩ ⟨zle kc hRc, zle kz hRz⟩ 0 1 rfl rfl
    refine zcallv (wr := (zwD adD adD_parts adD_bytes adD_lows adD_highs cB cI cL sD)) hr_45 hP hD hS hA [0, 1] [2, 3, 4, 5, 6] rfl rfl (by decide) (by decide) (fun u_45 H locs hw_45 hP hD hS => ?_)
    obtain ⟨sT_45, qT_bytes_45⟩ := u_45
    subst hw_45
    have hP : va_P (dC, dI) zcl (zwD adD adD_parts adD_bytes adD_lows adD_highs cB cI cL sD ++ zwT adT qT_bytes_45 cB cI cL sT_45) H := hP
    have hD : va_D A (zwD adD adD_parts adD_bytes adD_lows adD_highs cB cI cL sD ++ zwT adT qT_bytes_45 cB cI cL sT_45) := hD
    have hG : g_D_writeFrame_c45 N sD v2 r_39 sT_45 = some (a, c9, z9) := hG
    unfold g_D_writeFrame_c45 at hG
    generalize cells + c_45 = cells at kc ⊢
    generalize slots + z_45 = slots at kz ⊢
    refine lv_iload_n hx hb d_D_writeFrame_48 rfl (lv_at hl 3 rfl) ?_
    refine lv_iconst (v := (2 : Int32)) hx hb d_D_writeFrame_49 (by decide) ?_
    refine lv_icmp_eq (tgt := 58) hx hb d_D_writeFrame_50 (by decide) (fun hc => ?_) (fun hc => ?_)
    · have hG := zt hG hc
      exact k_D_writeFrame_58 X hA zz N sT_45 sD v2 _ _ _ _ _ _ _ hG kc kz hRc hRz adT qT_bytes_45 adD adD_parts adD_bytes adD_lows adD_highs _ _ (hP.sub [5, 6, 0, 1, 2, 3, 4] rfl) (hD.sub [5, 6, 0, 1, 2, 3, 4] (by decide) rfl) hS _ (lv_sub hl [1, 2, 3] rfl)
    · have hG := zf hG hc
      refine lv_iload_n hx hb d_D_writeFrame_53 rfl (lv_at hl 3 rfl) ?_
      refine lv_iconst (v := (3 : Int32)) hx hb d_D_writeFrame_54 (by decide) ?_
      refine lv_icmp_ne (tgt := 65) hx hb d_D_writeFrame_55 (by decide) (fun hc => ?_) (fun hc => ?_)
      · have hG := zf hG hc
        refine lv_iload_n hx hb d_D_writeFrame_65 rfl (lv_at hl 0 rfl) ?_
        obtain ⟨a_66, hx_66, hG⟩ := zb hG
        have hr_66 := zrunS (p := p) (e := e) (below := below) (meth := meth) (As := [.int r_39]) (rest := []) (st0 := [.int r_39]) (cells := cells) (slots := slots) X zz hP hD hS hA [] (by decide) rfl (c_D_shapeOf l dC dI cB cI cL H.size r_39 _ hx_66) zy_D_shapeOf zv_D_shapeOf (hts (.methodLink R_D 71 y_D_shapeOf) zin_D_71) hl rfl rfl d_D_writeFrame_66 (lv_room (Nat.le_of_ble_eq_true rfl)) rfl rfl ⟨Nat.le_trans (Nat.le_of_ble_eq_true rfl) hRf, Nat.le_trans (Nat.le_of_ble_eq_true rfl) hRl⟩ ⟨zle kc hRc, zle kz hRz⟩
        refine zcalli (wr := (zwD adD adD_parts adD_bytes adD_lows adD_highs cB cI cL sD ++ zwT adT qT_bytes_45 cB cI cL sT_45)) hr_66 hP hD hS hA [] [0, 1, 2, 3, 4, 5, 6] rfl rfl (by decide) (by decide) (fun r_66 u_66 H locs hw_66 hP hD hS => ?_)
        subst hw_66
        have hP : va_P (dC, dI) zcl (zwD adD adD_parts adD_bytes adD_lows adD_highs cB cI cL sD ++ zwT adT qT_bytes_45 cB cI cL sT_45) H := hP
        have hD : va_D A (zwD adD adD_parts adD_bytes adD_lows adD_highs cB cI cL sD ++ zwT adT qT_bytes_45 cB cI cL sT_45) := hD
        have hG : g_D_writeFrame_c66 N sD v2 sT_45 r_66 = some (a, c9, z9) := hG
        unfold g_D_writeFrame_c66 at hG
        refine lv_istore (lv' := [(4, .int r_66), (3, .int r_39), (0, .ref adD), (1, .ref adT), (2, .int v2)]) hx hb d_D_writeFrame_69 hl (by decide) rfl (fun ls hl => ?_)
        refine lv_aload_n hx hb d_D_writeFrame_71 rfl (lv_at hl 2 rfl) ?_
        refine lv_aload_n hx hb d_D_writeFrame_72 rfl (lv_at hl 3 rfl) ?_
        refine lv_iload hx hb d_D_writeFrame_73 (lv_at hl 0 rfl) ?_
        obtain ⟨a_75, c_75, z_75, c9, z9, hx_75, hG, kc, kz⟩ := zcbde hG kc kz
        have hr_75 := zrunV (p := p) (e := e) (below := below) (meth := meth) (As := [.ref adT, .int r_66]) (rest := []) (st0 := [.int r_66, .ref adT, .ref adD]) (cells := cells) (slots := slots) X zz hP hD hS hA [5, 6, 0, 1, 2, 3, 4] (by decide) rfl (c_D_writeShape l dC dI cB cI cL H.size adT qT_bytes_45 adD adD_parts adD_bytes adD_lows adD_highs N sT_45 sD r_66 _ _ _ hx_75) zy_D_writeShape zv_D_writeShape (hts (.methodLink R_D 74 y_D_writeShape) zin_D_74) hl rfl rfl d_D_writeFrame_75 (lv_room (Nat.le_of_ble_eq_true rfl)) rfl rfl ⟨Nat.le_trans (Nat.le_of_ble_eq_true rfl) hRf, Nat.le_trans (Nat.le_of_ble_eq_true rfl) hRl⟩ ⟨zle kc hRc, zle kz hRz⟩ 2 6 rfl rfl
        refine zcallv (wr := ([] : va_W)) hr_75 hP hD hS hA [5, 6, 0, 1, 2, 3, 4] [] rfl rfl (by decide) (by decide) (fun u_75 H locs hw_75 hP hD hS => ?_)
        obtain ⟨sT_75, qT_bytes_75⟩ := u_75
        subst hw_75
        have hP : va_P (dC, dI) zcl (zwT adT qT_bytes_75 cB cI cL sT_75 ++ zwD adD adD_parts adD_bytes adD_lows adD_highs cB cI cL sD) H := hP
        have hD : va_D A (zwT adT qT_bytes_75 cB cI cL sT_75 ++ zwD adD adD_parts adD_bytes adD_lows adD_highs cB cI cL sD) := hD
        have hG : g_D_writeFrame_c75 N sD v2 r_66 sT_75 = some (a, c9, z9) := hG
        unfold g_D_writeFrame_c75 at hG
        generalize cells + c_75 = cells at kc ⊢
        generalize slots + z_75 = slots at kz ⊢
        refine lv_iload_n hx hb d_D_writeFrame_78 rfl (lv_at hl 4 rfl) ?_
        refine lv_bipush (v := (24 : Int32)) hx hb d_D_writeFrame_79 (by decide) ?_
        refine lv_icmp_ne (tgt := 95) hx hb d_D_writeFrame_81 (by decide) (fun hc => ?_) (fun hc => ?_)
        · have hG := zf hG hc
          exact k_D_writeFrame_95 X hA zz N sT_75 sD v2 r_66 _ _ _ _ _ _ _ hG kc kz hRc hRz adT qT_bytes_75 adD adD_parts adD_bytes adD_lows adD_highs _ _ hP hD hS _ (lv_sub hl [2, 3, 4, 0] rfl)
        · have hG := zt hG hc
          refine lv_aload_n hx hb d_D_writeFrame_84 rfl (lv_at hl 3 rfl) ?_
          refine lv_aload_n hx hb d_D_writeFrame_85 rfl (lv_at hl 2 rfl) ?_
          refine va_get (D := (dC, dI)) (ci := 6) (v := .int (zD_length sD)) (C := R_D) (T := F_D) (N := 6) hx hb hts zi_D hown zz.1 hP 2 rfl rfl 4 (by decide) (hts (.fieldLink R_D 31 "WireCodec$Draft" "length" "I") zin_D_31) (fun _ h9 => h9) rfl d_D_writeFrame_86 ?_
          refine lv_bipush (v := (16 : Int32)) hx hb d_D_writeFrame_89 (by decide) ?_
          refine lv_isub hx hb d_D_writeFrame_91 ?_
          obtain ⟨a_92, c_92, z_92, c9, z9, hx_92, hG, kc, kz⟩ := zcbde hG kc kz
          have hr_92 := zrunV (p := p) (e := e) (below := below) (meth := meth) (As := [.int ((zD_length sD) - (16 : Int32))]) (rest := []) (st0 := [.int ((zD_length sD) - (16 : Int32)), .ref adT]) (cells := cells) (slots := slots) X zz hP hD hS hA [0, 1] (by decide) rfl (c_T_writeByte l dC dI cB cI cL H.size adT qT_bytes_75 sT_75 ((zD_length sD) - (16 : Int32)) _ _ _ hx_92) zy_T_writeByte zv_T_writeByte (hts (.methodLink R_D 57 y_T_writeByte) zin_D_57) hl rfl rfl d_D_writeFrame_92 (lv_room (Nat.le_of_ble_eq_true rfl)) rfl rfl ⟨Nat.le_trans (Nat.le_of_ble_eq_true rfl) hRf, Nat.le_trans (Nat.le_of_ble_eq_true rfl) hRl⟩ ⟨zle kc hRc, zle kz hRz⟩ 0 1 rfl rfl
          refine zcallv (wr := (zwD adD adD_parts adD_bytes adD_lows adD_highs cB cI cL sD)) hr_92 hP hD hS hA [0, 1] [2, 3, 4, 5, 6] rfl rfl (by decide) (by decide) (fun u_92 H locs hw_92 hP hD hS => ?_)
          obtain ⟨sT_92, qT_bytes_92⟩ := u_92
          subst hw_92
          have hP : va_P (dC, dI) zcl (zwD adD adD_parts adD_bytes adD_lows adD_highs cB cI cL sD ++ zwT adT qT_bytes_92 cB cI cL sT_92) H := hP
          have hD : va_D A (zwD adD adD_parts adD_bytes adD_lows adD_highs cB cI cL sD ++ zwT adT qT_bytes_92 cB cI cL sT_92) := hD
          have hG : g_D_writeFrame_c92 N sD v2 r_66 sT_92 = some (a, c9, z9) := hG
          unfold g_D_writeFrame_c92 at hG
          generalize cells + c_92 = cells at kc ⊢
          generalize slots + z_92 = slots at kz ⊢
          exact k_D_writeFrame_95 X hA zz N sT_92 sD v2 r_66 _ _ _ _ _ _ _ hG kc kz hRc hRz adT qT_bytes_92 adD adD_parts adD_bytes adD_lows adD_highs _ _ (hP.sub [5, 6, 0, 1, 2, 3, 4] rfl) (hD.sub [5, 6, 0, 1, 2, 3, 4] (by decide) rfl) hS _ (lv_sub hl [2, 3, 4, 0] rfl)
      · have hG := zt hG hc
        exact k_D_writeFrame_58 X hA zz N sT_45 sD v2 _ _ _ _ _ _ _ hG kc kz hRc hRz adT qT_bytes_45 adD adD_parts adD_bytes adD_lows adD_highs _ _ (hP.sub [5, 6, 0, 1, 2, 3, 4] rfl) (hD.sub [5, 6, 0, 1, 2, 3, 4] (by decide) rfl) hS _ (lv_sub hl [1, 2, 3] rfl)
  · have hG := zt hG hc
    refine lv_iconst (v := (0 : Int32)) hx hb d_D_writeFrame_4 (by decide) ?_
    refine lv_istore_n (lv' := [(3, .int (0 : Int32)), (0, .ref adD), (1, .ref adT), (2, .int v2)]) hx hb d_D_writeFrame_5 rfl hl (by decide) rfl (fun ls hl => ?_)
    exact k_D_writeFrame_6 X hA zz N _ _ hRc hRz N sT sD (0 : Int32) _ _ _ _ _ hG kc kz adT adT_bytes adD adD_parts adD_bytes adD_lows adD_highs _ _ hP hD hS _ (lv_sub hl [1, 2, 0] rfl)
set_option maxRecDepth 100000 in
set_option maxHeartbeats 4000000 in
theorem c_D_writeFrame (l : Launch) (dC : Nat → ClassId) (dI : Nat → Nat → Nat) (cB cI cL : ClassId) (sz : Nat) (adT adT_bytes adD adD_parts adD_bytes adD_lows adD_highs : Nat) (N : Nat) (sT : zT) (sD : zD) (v2 : Int32) (a : zT) (c9 z9 : Nat) (hG : g_D_writeFrame N sT sD v2 = some (a, c9, z9)) : Met l y_D_writeFrame (zw y_D_writeFrame b_D_writeFrame 5 none) ({ frames := 6, cells := c9, slots := z9, locals := 176 }) (va_Pc [.ref adD, .ref adT, .int v2] (zpre dC dI cB cI cL sz (zwT adT adT_bytes cB cI cL sT ++ zwD adD adD_parts adD_bytes adD_lows adD_highs cB cI cL sD))) (q_D_writeFrame dC dI cB cI cL (va_A (zwT adT adT_bytes cB cI cL sT ++ zwD adD adD_parts adD_bytes adD_lows adD_highs cB cI cL sD) sz) adT adD adD_parts adD_bytes adD_lows adD_highs sD a) c9 z9 (va_A (zwT adT adT_bytes cB cI cL sT ++ zwD adD adD_parts adD_bytes adD_lows adD_highs cB cI cL sD) sz) := by
  refine Met.ofW (cc := b_D_writeFrame) (maxL := 5) (ret := none) (by decide) rfl ?_
  intro p e s m args below meth c s₁ B hml hv
  obtain ⟨rfl, hsz, hP, zz, hD0⟩ := hv
  subst hsz
  have X := zx_of (F := 6) (L := 176) B hml (Nat.le_refl _) (Nat.le_refl _)
  have hD := hD0.self (sz := s.heap.size)
  have hA : ∀ q : Nat, s.heap.size ≤ q → va_A (zwT adT adT_bytes cB cI cL sT ++ zwD adD adD_parts adD_bytes adD_lows adD_highs cB cI cL sD) s.heap.size q := fun q h => Or.inr h
  have hl := lv_entry ([.ref adD, .ref adT, .int v2]) (n := 5) (Nat.le_of_ble_eq_true rfl)
  rw [lg_entry_eq]
  generalize (lg_sl ([.ref adD, .ref adT, .int v2]) ++ List.replicate (5 - (lg_sl ([.ref adD, .ref adT, .int v2])).length) Slot.unset).toArray = ls at hl ⊢
  exact k_D_writeFrame_0 X hA zz N sT sD v2 a c9 z9 0 0 c9 z9 hG (Nat.zero_add _) (Nat.zero_add _) (Nat.le_refl _) (Nat.le_refl _) adT adT_bytes adD adD_parts adD_bytes adD_lows adD_highs _ _ hP hD va_S.rf ls hl
noncomputable def g_F_walkRanges_w97 (kr : zT → zR → zF → Int32 → Int32 → Option (zR × zF)) (sT : zT) (sR : zR) (v2 : Int32) (v3 : Int32) (sF_97 : zF) : Option (zR × zF) := kr sT sR sF_97 v2 (v3 + 1)
noncomputable def g_F_walkRanges_97 (N : Nat) (kr : zT → zR → zF → Int32 → Int32 → Option (zR × zF)) (sT : zT) (sR : zR) (sF : zF) (v2 : Int32) (v3 : Int32) (s0 : Int64) : Option (zR × zF) := g_F_walkRanges_w97 kr sT sR v2 v3 (zF_low' sF s0)
noncomputable def g_F_walkRanges_w70 (N : Nat) (kr : zT → zR → zF → Int32 → Int32 → Option (zR × zF)) (sT : zT) (sR : zR) (v2 : Int32) (v3 : Int32) (v6 : Int64) (sF_70 : zF) : Option (zR × zF) := if (0 : Int32) ≤ (lg_cmp (zF_high sF_70) (0 : Int64)) then (g_F_walkRanges_97 N kr sT sR sF_70 v2 v3 ((zF_high sF_70) - v6)) else (g_F_walkRanges_97 N kr sT sR sF_70 v2 v3 (zF_high sF_70))
noncomputable def g_F_walkRanges_70 (N : Nat) (kr : zT → zR → zF → Int32 → Int32 → Option (zR × zF)) (sT : zT) (sR : zR) (sF : zF) (v2 : Int32) (v3 : Int32) (v6 : Int64) (s0 : Int64) : Option (zR × zF) := g_F_walkRanges_w70 N kr sT sR v2 v3 v6 (zF_high' sF s0)
noncomputable def g_F_walkRanges_c37 (N : Nat) (kr : zT → zR → zF → Int32 → Int32 → Option (zR × zF)) (sT : zT) (sF : zF) (v2 : Int32) (v3 : Int32) (r_31 : Int64) (sR_37 : zR) (r_37 : Int64) : Option (zR × zF) := if (0 : Int32) ≤ (lg_cmp (zF_low sF) (0 : Int64)) then (g_F_walkRanges_70 N kr sT sR_37 sF v2 v3 r_37 (((zF_low sF) - r_31) - (2 : Int64))) else (g_F_walkRanges_70 N kr sT sR_37 sF v2 v3 r_37 (zF_low sF))
noncomputable def g_F_walkRanges_c31 (N : Nat) (kr : zT → zR → zF → Int32 → Int32 → Option (zR × zF)) (sT : zT) (sF : zF) (v2 : Int32) (v3 : Int32) (sR_31 : zR) (r_31 : Int64) : Option (zR × zF) := (g_R_takeNumber N sT sR_31).bind (fun a => g_F_walkRanges_c37 N kr sT sF v2 v3 r_31 a.2 a.1)
noncomputable def g_F_walkRanges_25_b (N : Nat) (kr : zT → zR → zF → Int32 → Int32 → Option (zR × zF)) (sT : zT) (sR : zR) (sF : zF) (v2 : Int32) (v3 : Int32) : Option (zR × zF) := if v2 ≤ v3 then (some (sR, sF)) else ((g_R_takeNumber N sT sR).bind (fun a => g_F_walkRanges_c31 N kr sT sF v2 v3 a.2 a.1))
noncomputable def g_F_walkRanges_25 (N : Nat) : Nat → zT → zR → zF → Int32 → Int32 → Option (zR × zF)
  | 0 => fun _ _ _ _ _ => none
  | k + 1 => fun sT sR sF v2 v3 => g_F_walkRanges_25_b N (g_F_walkRanges_25 N k) sT sR sF v2 v3
noncomputable def g_F_walkRanges_w20 (N : Nat) (sT : zT) (v2 : Int32) (sR_16 : zR) (sF_20 : zF) : Option (zR × zF) := g_F_walkRanges_25 N N sT sR_16 sF_20 v2 (0 : Int32)
noncomputable def g_F_walkRanges_c16 (N : Nat) (sT : zT) (v2 : Int32) (sF_7 : zF) (sR_16 : zR) (r_16 : Int64) : Option (zR × zF) := g_F_walkRanges_w20 N sT v2 sR_16 (zF_low' sF_7 ((zF_high sF_7) - r_16))
noncomputable def g_F_walkRanges_w7 (N : Nat) (sT : zT) (sR : zR) (v2 : Int32) (sF_7 : zF) : Option (zR × zF) := (g_R_takeNumber N sT sR).bind (fun a => g_F_walkRanges_c16 N sT v2 sF_7 a.2 a.1)
noncomputable def g_F_walkRanges (N : Nat) (sT : zT) (sR : zR) (sF : zF) (v2 : Int32) : Option (zR × zF) := zg (vp_in (0 : Int32) 12) (g_F_walkRanges_w7 N sT sR v2 (zF_high' sF ((zF_parts sF) (0 : Int32).toNatClampNeg)))
def q_F_walkRanges (dC : Nat → ClassId) (dI : Nat → Nat → Nat) (cB cI cL : ClassId) (A : Nat → Prop) (adT : Nat) (adT_bytes : Nat) (adR : Nat) (adF : Nat) (adF_parts : Nat) (sT : zT) (a : zR × zF) : Array Value → State → Outcome → State → Prop := va_Qv (fun (u : zR × zF) => (u.1, u.2) = a) (fun u U => va_P (dC, dI) zcl (zwT adT adT_bytes cB cI cL sT ++ zwR adR adT cB cI cL u.1 ++ zwF adF adF_parts cB cI cL u.2) U.heap ∧ va_D A (zwT adT adT_bytes cB cI cL sT ++ zwR adR adT cB cI cL u.1 ++ zwF adF adF_parts cB cI cL u.2)) A
set_option maxRecDepth 100000 in
set_option maxHeartbeats 4000000 in
theorem k_F_walkRanges_97 {p : Program} {l : Launch} {e : Env} {R : Room} {s : State} {m : MethodId} {args : Array Value} {below : List Frame} {meth : Method} {c : Code} {dC : Nat → ClassId} {dI : Nat → Nat → Nat} {cB cI cL : ClassId} {A : Nat → Prop} (kr : zT → zR → zF → Int32 → Int32 → Option (zR × zF)) (hrec : ∀ (sT : zT) (sR : zR) (sF : zF) (v2 : Int32) (v3 : Int32) (a : zR × zF), kr sT sR sF v2 v3 = some a → ∀ (adT adT_bytes adR adF adF_parts : Nat) (H : Heap) (locs : List Loc), va_P (dC, dI) zcl (zwT adT adT_bytes cB cI cL sT ++ zwR adR adT cB cI cL sR ++ zwF adF adF_parts cB cI cL sF) H → va_D A (zwT adT adT_bytes cB cI cL sT ++ zwR adR adT cB cI cL sR ++ zwF adF adF_parts cB cI cL sF) → va_S A s.heap H locs → ∀ ls : Array Slot, lv_has ls 8 [(0, .ref adF), (1, .ref adR), (2, .int v2), (3, .int v3)] → W p l e R s m args below meth c H locs 0 0 (MQ below (q_F_walkRanges dC dI cB cI cL A adT adT_bytes adR adF adF_parts sT a) args s 0 0 A) (F0 m 25 ls [])) (X : zx p s m args meth c R R_F b_F_walkRanges none 8 3 70) (hA : ∀ q, s.heap.size ≤ q → A q) (zz : zk dC dI cB cI cL A s)  (N : Nat) (sT : zT) (sR : zR) (sF : zF) (v2 : Int32) (v3 : Int32) (s0 : Int64) (a : zR × zF) (hG : g_F_walkRanges_97 N kr sT sR sF v2 v3 s0 = some a) (adT adT_bytes adR adF adF_parts : Nat) (H : Heap) (locs : List Loc) (hP : va_P (dC, dI) zcl (zwT adT adT_bytes cB cI cL sT ++ zwR adR adT cB cI cL sR ++ zwF adF adF_parts cB cI cL sF) H) (hD : va_D A (zwT adT adT_bytes cB cI cL sT ++ zwR adR adT cB cI cL sR ++ zwF adF adF_parts cB cI cL sF)) (hS : va_S A s.heap H locs) (ls : Array Slot) (hl : lv_has ls 8 [(0, .ref adF), (1, .ref adR), (2, .int v2), (3, .int v3)]) : W p l e R s m args below meth c H locs 0 0 (MQ below (q_F_walkRanges dC dI cB cI cL A adT adT_bytes adR adF adF_parts sT a) args s 0 0 A) (F0 m 97 ls [.long s0, .ref adF]) := by
  obtain ⟨hx, hb, hr, hml, hown, hts, hlocks, hRf, hRl⟩ := id X
  unfold g_F_walkRanges_97 at hG
  refine va_put (D := (dC, dI)) (ci := 4) (v := .long s0) (ty := .long) (C := R_F) (T := F_F) (N := 7) hx hb hts zi_F zty_F zty_F_ok znm_F hown zz.1 hP hD hS 3 rfl rfl 5 (by decide) (hts (.fieldLink R_F 45 "WireCodec$Frame" "low" "J") zin_F_45) (fun _ h9 => h9) rfl (by decide +kernel) rfl rfl (Nat.le_of_ble_eq_true rfl) d_F_walkRanges_97 (fun H locs hP hD hS => ?_)
  have hP : va_P (dC, dI) zcl (zwT adT adT_bytes cB cI cL sT ++ zwR adR adT cB cI cL sR ++ zwF adF adF_parts cB cI cL (zF_low' sF s0)) H := hP
  have hD : va_D A (zwT adT adT_bytes cB cI cL sT ++ zwR adR adT cB cI cL sR ++ zwF adF adF_parts cB cI cL (zF_low' sF s0)) := hD
  have hG : g_F_walkRanges_w97 kr sT sR v2 v3 (zF_low' sF s0) = some a := hG
  generalize zF_low' sF s0 = sF_97 at hP hD hG
  unfold g_F_walkRanges_w97 at hG
  refine lv_iinc (v := v3 + 1) (lv' := [(3, .int (v3 + 1)), (0, .ref adF), (1, .ref adR), (2, .int v2)]) hx hb d_F_walkRanges_100 hl (k := 3) rfl rfl (by decide) rfl (fun ls hl => ?_)
  refine lv_goto (tgt := 25) hx hb d_F_walkRanges_103 (by decide) ?_
  exact hrec sT sR sF_97 v2 (v3 + 1) _ hG adT adT_bytes adR adF adF_parts _ _ hP hD hS _ (lv_sub hl [1, 2, 3, 0] rfl)
set_option maxRecDepth 100000 in
set_option maxHeartbeats 4000000 in
theorem k_F_walkRanges_70 {p : Program} {l : Launch} {e : Env} {R : Room} {s : State} {m : MethodId} {args : Array Value} {below : List Frame} {meth : Method} {c : Code} {dC : Nat → ClassId} {dI : Nat → Nat → Nat} {cB cI cL : ClassId} {A : Nat → Prop} (kr : zT → zR → zF → Int32 → Int32 → Option (zR × zF)) (hrec : ∀ (sT : zT) (sR : zR) (sF : zF) (v2 : Int32) (v3 : Int32) (a : zR × zF), kr sT sR sF v2 v3 = some a → ∀ (adT adT_bytes adR adF adF_parts : Nat) (H : Heap) (locs : List Loc), va_P (dC, dI) zcl (zwT adT adT_bytes cB cI cL sT ++ zwR adR adT cB cI cL sR ++ zwF adF adF_parts cB cI cL sF) H → va_D A (zwT adT adT_bytes cB cI cL sT ++ zwR adR adT cB cI cL sR ++ zwF adF adF_parts cB cI cL sF) → va_S A s.heap H locs → ∀ ls : Array Slot, lv_has ls 8 [(0, .ref adF), (1, .ref adR), (2, .int v2), (3, .int v3)] → W p l e R s m args below meth c H locs 0 0 (MQ below (q_F_walkRanges dC dI cB cI cL A adT adT_bytes adR adF adF_parts sT a) args s 0 0 A) (F0 m 25 ls [])) (X : zx p s m args meth c R R_F b_F_walkRanges none 8 3 70) (hA : ∀ q, s.heap.size ≤ q → A q) (zz : zk dC dI cB cI cL A s)  (N : Nat) (sT : zT) (sR : zR) (sF : zF) (v2 : Int32) (v3 : Int32) (v6 : Int64) (s0 : Int64) (a : zR × zF) (hG : g_F_walkRanges_70 N kr sT sR sF v2 v3 v6 s0 = some a) (adT adT_bytes adR adF adF_parts : Nat) (H : Heap) (locs : List Loc) (hP : va_P (dC, dI) zcl (zwT adT adT_bytes cB cI cL sT ++ zwR adR adT cB cI cL sR ++ zwF adF adF_parts cB cI cL sF) H) (hD : va_D A (zwT adT adT_bytes cB cI cL sT ++ zwR adR adT cB cI cL sR ++ zwF adF adF_parts cB cI cL sF)) (hS : va_S A s.heap H locs) (ls : Array Slot) (hl : lv_has ls 8 [(0, .ref adF), (1, .ref adR), (2, .int v2), (3, .int v3), (6, .long v6)]) : W p l e R s m args below meth c H locs 0 0 (MQ below (q_F_walkRanges dC dI cB cI cL A adT adT_bytes adR adF adF_parts sT a) args s 0 0 A) (F0 m 70 ls [.long s0, .ref adF]) := by
  obtain ⟨hx, hb, hr, hml, hown, hts, hlocks, hRf, hRl⟩ := id X
  unfold g_F_walkRanges_70 at hG
  refine va_put (D := (dC, dI)) (ci := 4) (v := .long s0) (ty := .long) (C := R_F) (T := F_F) (N := 7) hx hb hts zi_F zty_F zty_F_ok znm_F hown zz.1 hP hD hS 3 rfl rfl 6 (by decide) (hts (.fieldLink R_F 53 "WireCodec$Frame" "high" "J") zin_F_53) (fun _ h9 => h9) rfl (by decide +kernel) rfl rfl (Nat.le_of_ble_eq_true rfl) d_F_walkRanges_70 (fun H locs hP hD hS => ?_)
  have hP : va_P (dC, dI) zcl (zwT adT adT_bytes cB cI cL sT ++ zwR adR adT cB cI cL sR ++ zwF adF adF_parts cB cI cL (zF_high' sF s0)) H := hP
  have hD : va_D A (zwT adT adT_bytes cB cI cL sT ++ zwR adR adT cB cI cL sR ++ zwF adF adF_parts cB cI cL (zF_high' sF s0)) := hD
  have hG : g_F_walkRanges_w70 N kr sT sR v2 v3 v6 (zF_high' sF s0) = some a := hG
  generalize zF_high' sF s0 = sF_70 at hP hD hG
  unfold g_F_walkRanges_w70 at hG
  refine lv_aload_n hx hb d_F_walkRanges_73 rfl (lv_at hl 0 rfl) ?_
  refine lv_aload_n hx hb d_F_walkRanges_74 rfl (lv_at hl 0 rfl) ?_
  refine va_get (D := (dC, dI)) (ci := 4) (v := .long (zF_high sF_70)) (C := R_F) (T := F_F) (N := 7) hx hb hts zi_F hown zz.1 hP 3 rfl rfl 6 (by decide) (hts (.fieldLink R_F 53 "WireCodec$Frame" "high" "J") zin_F_53) (fun _ h9 => h9) rfl d_F_walkRanges_75 ?_
  refine lv_lconst (v := (0 : Int64)) hx hb d_F_walkRanges_78 (by decide) ?_
  refine W.lcmp hx hb d_F_walkRanges_79 ?_
  refine lv_if_ge (tgt := 90) hx hb d_F_walkRanges_80 (by decide) (fun hc => ?_) (fun hc => ?_)
  · have hG := zt hG hc
    refine lv_aload_n hx hb d_F_walkRanges_90 rfl (lv_at hl 0 rfl) ?_
    refine va_get (D := (dC, dI)) (ci := 4) (v := .long (zF_high sF_70)) (C := R_F) (T := F_F) (N := 7) hx hb hts zi_F hown zz.1 hP 3 rfl rfl 6 (by decide) (hts (.fieldLink R_F 53 "WireCodec$Frame" "high" "J") zin_F_53) (fun _ h9 => h9) rfl d_F_walkRanges_91 ?_
    refine lv_lload hx hb d_F_walkRanges_94 (lv_at hl 4 rfl) ?_
    refine lv_lsub hx hb d_F_walkRanges_96 ?_
    exact k_F_walkRanges_97 kr hrec X hA zz N sT sR sF_70 v2 v3 ((zF_high sF_70) - v6) _ hG adT adT_bytes adR adF adF_parts _ _ hP hD hS _ (lv_sub hl [0, 1, 2, 3] rfl)
  · have hG := zf hG hc
    refine lv_aload_n hx hb d_F_walkRanges_83 rfl (lv_at hl 0 rfl) ?_
    refine va_get (D := (dC, dI)) (ci := 4) (v := .long (zF_high sF_70)) (C := R_F) (T := F_F) (N := 7) hx hb hts zi_F hown zz.1 hP 3 rfl rfl 6 (by decide) (hts (.fieldLink R_F 53 "WireCodec$Frame" "high" "J") zin_F_53) (fun _ h9 => h9) rfl d_F_walkRanges_84 ?_
    refine lv_goto (tgt := 97) hx hb d_F_walkRanges_87 (by decide) ?_
    exact k_F_walkRanges_97 kr hrec X hA zz N sT sR sF_70 v2 v3 (zF_high sF_70) _ hG adT adT_bytes adR adF adF_parts _ _ hP hD hS _ (lv_sub hl [0, 1, 2, 3] rfl)
set_option maxRecDepth 100000 in
set_option maxHeartbeats 4000000 in
theorem k_F_walkRanges_25_b {p : Program} {l : Launch} {e : Env} {R : Room} {s : State} {m : MethodId} {args : Array Value} {below : List Frame} {meth : Method} {c : Code} {dC : Nat → ClassId} {dI : Nat → Nat → Nat} {cB cI cL : ClassId} {A : Nat → Prop} (kr : zT → zR → zF → Int32 → Int32 → Option (zR × zF)) (hrec : ∀ (sT : zT) (sR : zR) (sF : zF) (v2 : Int32) (v3 : Int32) (a : zR × zF), kr sT sR sF v2 v3 = some a → ∀ (adT adT_bytes adR adF adF_parts : Nat) (H : Heap) (locs : List Loc), va_P (dC, dI) zcl (zwT adT adT_bytes cB cI cL sT ++ zwR adR adT cB cI cL sR ++ zwF adF adF_parts cB cI cL sF) H → va_D A (zwT adT adT_bytes cB cI cL sT ++ zwR adR adT cB cI cL sR ++ zwF adF adF_parts cB cI cL sF) → va_S A s.heap H locs → ∀ ls : Array Slot, lv_has ls 8 [(0, .ref adF), (1, .ref adR), (2, .int v2), (3, .int v3)] → W p l e R s m args below meth c H locs 0 0 (MQ below (q_F_walkRanges dC dI cB cI cL A adT adT_bytes adR adF adF_parts sT a) args s 0 0 A) (F0 m 25 ls [])) (X : zx p s m args meth c R R_F b_F_walkRanges none 8 3 70) (hA : ∀ q, s.heap.size ≤ q → A q) (zz : zk dC dI cB cI cL A s)  (N : Nat) (sT : zT) (sR : zR) (sF : zF) (v2 : Int32) (v3 : Int32) (a : zR × zF) (hG : g_F_walkRanges_25_b N kr sT sR sF v2 v3 = some a) (adT adT_bytes adR adF adF_parts : Nat) (H : Heap) (locs : List Loc) (hP : va_P (dC, dI) zcl (zwT adT adT_bytes cB cI cL sT ++ zwR adR adT cB cI cL sR ++ zwF adF adF_parts cB cI cL sF) H) (hD : va_D A (zwT adT adT_bytes cB cI cL sT ++ zwR adR adT cB cI cL sR ++ zwF adF adF_parts cB cI cL sF)) (hS : va_S A s.heap H locs) (ls : Array Slot) (hl : lv_has ls 8 [(0, .ref adF), (1, .ref adR), (2, .int v2), (3, .int v3)]) : W p l e R s m args below meth c H locs 0 0 (MQ below (q_F_walkRanges dC dI cB cI cL A adT adT_bytes adR adF adF_parts sT a) args s 0 0 A) (F0 m 25 ls []) := by
  obtain ⟨hx, hb, hr, hml, hown, hts, hlocks, hRf, hRl⟩ := id X
  unfold g_F_walkRanges_25_b at hG
  refine lv_iload_n hx hb d_F_walkRanges_25 rfl (lv_at hl 3 rfl) ?_
  refine lv_iload_n hx hb d_F_walkRanges_26 rfl (lv_at hl 2 rfl) ?_
  refine lv_icmp_ge (tgt := 106) hx hb d_F_walkRanges_27 (by decide) (fun hc => ?_) (fun hc => ?_)
  · have hG := zt hG hc
    exact W.vret hx hb hr (fun t9 ht9 hW9 => ⟨⟨(sR, sF), rfl, Option.some.inj hG, by rw [ht9]; exact hP, hD⟩, hS.F ht9⟩) hS.2.2 d_F_walkRanges_106
  · have hG := zf hG hc
    refine lv_aload_n hx hb d_F_walkRanges_30 rfl (lv_at hl 1 rfl) ?_
    obtain ⟨a_31, hx_31, hG⟩ := zb hG
    have hr_31 := zrunV (p := p) (e := e) (below := below) (meth := meth) (As := []) (rest := []) (st0 := [.ref adR]) (cells := 0) (slots := 0) X zz hP hD hS hA [0, 1, 2] (by decide) rfl (c_R_takeNumber l dC dI cB cI cL H.size adT adT_bytes adR N sT sR _ hx_31) zy_R_takeNumber zv_R_takeNumber (hts (.methodLink R_F 56 y_R_takeNumber) zin_F_56) hl rfl rfl d_F_walkRanges_31 (lv_room (Nat.le_of_ble_eq_true rfl)) rfl rfl ⟨Nat.le_trans (Nat.le_of_ble_eq_true rfl) hRf, Nat.le_trans (Nat.le_of_ble_eq_true rfl) hRl⟩ ⟨Nat.zero_le _, Nat.zero_le _⟩ 2 2 rfl rfl
    refine zcalll (wr := (zwF adF adF_parts cB cI cL sF)) hr_31 hP hD hS hA [0, 1, 2] [3, 4] rfl rfl (by decide) (by decide) (fun r_31 u_31 H locs hw_31 hP hD hS => ?_)
    obtain ⟨sR_31, rfl⟩ : ∃ z, z = u_31 := ⟨_, rfl⟩
    subst hw_31
    have hP : va_P (dC, dI) zcl (zwF adF adF_parts cB cI cL sF ++ zwT adT adT_bytes cB cI cL sT ++ zwR adR adT cB cI cL sR_31) H := hP
    have hD : va_D A (zwF adF adF_parts cB cI cL sF ++ zwT adT adT_bytes cB cI cL sT ++ zwR adR adT cB cI cL sR_31) := hD
    have hG : g_F_walkRanges_c31 N kr sT sF v2 v3 sR_31 r_31 = some a := hG
    unfold g_F_walkRanges_c31 at hG
    refine lv_lstore (lv' := [(4, .long r_31), (0, .ref adF), (1, .ref adR), (2, .int v2), (3, .int v3)]) hx hb d_F_walkRanges_34 hl (by decide) rfl (fun ls hl => ?_)
    refine lv_aload_n hx hb d_F_walkRanges_36 rfl (lv_at hl 2 rfl) ?_
    obtain ⟨a_37, hx_37, hG⟩ := zb hG
    have hr_37 := zrunV (p := p) (e := e) (below := below) (meth := meth) (As := []) (rest := []) (st0 := [.ref adR]) (cells := 0) (slots := 0) X zz hP hD hS hA [2, 3, 4] (by decide) rfl (c_R_takeNumber l dC dI cB cI cL H.size adT adT_bytes adR N sT sR_31 _ hx_37) zy_R_takeNumber zv_R_takeNumber (hts (.methodLink R_F 56 y_R_takeNumber) zin_F_56) hl rfl rfl d_F_walkRanges_37 (lv_room (Nat.le_of_ble_eq_true rfl)) rfl rfl ⟨Nat.le_trans (Nat.le_of_ble_eq_true rfl) hRf, Nat.le_trans (Nat.le_of_ble_eq_true rfl) hRl⟩ ⟨Nat.zero_le _, Nat.zero_le _⟩ 2 2 rfl rfl
    refine zcalll (wr := (zwF adF adF_parts cB cI cL sF)) hr_37 hP hD hS hA [2, 3, 4] [0, 1] rfl rfl (by decide) (by decide) (fun r_37 u_37 H locs hw_37 hP hD hS => ?_)
    obtain ⟨sR_37, rfl⟩ : ∃ z, z = u_37 := ⟨_, rfl⟩
    subst hw_37
    have hP : va_P (dC, dI) zcl (zwF adF adF_parts cB cI cL sF ++ zwT adT adT_bytes cB cI cL sT ++ zwR adR adT cB cI cL sR_37) H := hP
    have hD : va_D A (zwF adF adF_parts cB cI cL sF ++ zwT adT adT_bytes cB cI cL sT ++ zwR adR adT cB cI cL sR_37) := hD
    have hG : g_F_walkRanges_c37 N kr sT sF v2 v3 r_31 sR_37 r_37 = some a := hG
    unfold g_F_walkRanges_c37 at hG
    refine lv_lstore (lv' := [(6, .long r_37), (4, .long r_31), (0, .ref adF), (1, .ref adR), (2, .int v2), (3, .int v3)]) hx hb d_F_walkRanges_40 hl (by decide) rfl (fun ls hl => ?_)
    refine lv_aload_n hx hb d_F_walkRanges_42 rfl (lv_at hl 2 rfl) ?_
    refine lv_aload_n hx hb d_F_walkRanges_43 rfl (lv_at hl 2 rfl) ?_
    refine va_get (D := (dC, dI)) (ci := 4) (v := .long (zF_low sF)) (C := R_F) (T := F_F) (N := 7) hx hb hts zi_F hown zz.1 hP 0 rfl rfl 5 (by decide) (hts (.fieldLink R_F 45 "WireCodec$Frame" "low" "J") zin_F_45) (fun _ h9 => h9) rfl d_F_walkRanges_44 ?_
    refine lv_lconst (v := (0 : Int64)) hx hb d_F_walkRanges_47 (by decide) ?_
    refine W.lcmp hx hb d_F_walkRanges_48 ?_
    refine lv_if_ge (tgt := 59) hx hb d_F_walkRanges_49 (by decide) (fun hc => ?_) (fun hc => ?_)
    · have hG := zt hG hc
      refine lv_aload_n hx hb d_F_walkRanges_59 rfl (lv_at hl 2 rfl) ?_
      refine va_get (D := (dC, dI)) (ci := 4) (v := .long (zF_low sF)) (C := R_F) (T := F_F) (N := 7) hx hb hts zi_F hown zz.1 hP 0 rfl rfl 5 (by decide) (hts (.fieldLink R_F 45 "WireCodec$Frame" "low" "J") zin_F_45) (fun _ h9 => h9) rfl d_F_walkRanges_60 ?_
      refine lv_lload hx hb d_F_walkRanges_63 (lv_at hl 1 rfl) ?_
      refine lv_lsub hx hb d_F_walkRanges_65 ?_
      refine lv_ldc2 (v := (2 : Int64)) hx hb hown (hts (.constantLong R_F 60 (2 : Int64)) zin_F_60) d_F_walkRanges_66 ?_
      refine lv_lsub hx hb d_F_walkRanges_69 ?_
      exact k_F_walkRanges_70 kr hrec X hA zz N sT sR_37 sF v2 v3 r_37 (((zF_low sF) - r_31) - (2 : Int64)) _ hG adT adT_bytes adR adF adF_parts _ _ (hP.sub [2, 3, 4, 0, 1] rfl) (hD.sub [2, 3, 4, 0, 1] (by decide) rfl) hS _ (lv_sub hl [2, 3, 4, 5, 0] rfl)
    · have hG := zf hG hc
      refine lv_aload_n hx hb d_F_walkRanges_52 rfl (lv_at hl 2 rfl) ?_
      refine va_get (D := (dC, dI)) (ci := 4) (v := .long (zF_low sF)) (C := R_F) (T := F_F) (N := 7) hx hb hts zi_F hown zz.1 hP 0 rfl rfl 5 (by decide) (hts (.fieldLink R_F 45 "WireCodec$Frame" "low" "J") zin_F_45) (fun _ h9 => h9) rfl d_F_walkRanges_53 ?_
      refine lv_goto (tgt := 70) hx hb d_F_walkRanges_56 (by decide) ?_
      exact k_F_walkRanges_70 kr hrec X hA zz N sT sR_37 sF v2 v3 r_37 (zF_low sF) _ hG adT adT_bytes adR adF adF_parts _ _ (hP.sub [2, 3, 4, 0, 1] rfl) (hD.sub [2, 3, 4, 0, 1] (by decide) rfl) hS _ (lv_sub hl [2, 3, 4, 5, 0] rfl)
theorem k_F_walkRanges_25 {p : Program} {l : Launch} {e : Env} {R : Room} {s : State} {m : MethodId} {args : Array Value} {below : List Frame} {meth : Method} {c : Code} {dC : Nat → ClassId} {dI : Nat → Nat → Nat} {cB cI cL : ClassId} {A : Nat → Prop} (X : zx p s m args meth c R R_F b_F_walkRanges none 8 3 70) (hA : ∀ q, s.heap.size ≤ q → A q) (zz : zk dC dI cB cI cL A s)  (N : Nat) : ∀ (k : Nat) (sT : zT) (sR : zR) (sF : zF) (v2 : Int32) (v3 : Int32) (a : zR × zF) (hG : g_F_walkRanges_25 N k sT sR sF v2 v3 = some a) (adT adT_bytes adR adF adF_parts : Nat) (H : Heap) (locs : List Loc) (hP : va_P (dC, dI) zcl (zwT adT adT_bytes cB cI cL sT ++ zwR adR adT cB cI cL sR ++ zwF adF adF_parts cB cI cL sF) H) (hD : va_D A (zwT adT adT_bytes cB cI cL sT ++ zwR adR adT cB cI cL sR ++ zwF adF adF_parts cB cI cL sF)) (hS : va_S A s.heap H locs) (ls : Array Slot) (hl : lv_has ls 8 [(0, .ref adF), (1, .ref adR), (2, .int v2), (3, .int v3)]), W p l e R s m args below meth c H locs 0 0 (MQ below (q_F_walkRanges dC dI cB cI cL A adT adT_bytes adR adF adF_parts sT a) args s 0 0 A) (F0 m 25 ls []) := by
  intro k
  induction k with
  | zero => intro sT sR sF v2 v3 a hG; exact absurd hG (by unfold g_F_walkRanges_25; simp)
  | succ k ih => intro sT sR sF v2 v3 a hG adT adT_bytes adR adF adF_parts H locs hP hD hS ls hl; exact k_F_walkRanges_25_b _ ih X hA zz N sT sR sF v2 v3 a hG adT adT_bytes adR adF adF_parts H locs hP hD hS ls hl
set_option maxRecDepth 100000 in
set_option maxHeartbeats 4000000 in
theorem k_F_walkRanges_0 {p : Program} {l : Launch} {e : Env} {R : Room} {s : State} {m : MethodId} {args : Array Value} {below : List Frame} {meth : Method} {c : Code} {dC : Nat → ClassId} {dI : Nat → Nat → Nat} {cB cI cL : ClassId} {A : Nat → Prop} (X : zx p s m args meth c R R_F b_F_walkRanges none 8 3 70) (hA : ∀ q, s.heap.size ≤ q → A q) (zz : zk dC dI cB cI cL A s)  (N : Nat) (sT : zT) (sR : zR) (sF : zF) (v2 : Int32) (a : zR × zF) (hG : g_F_walkRanges N sT sR sF v2 = some a) (adT adT_bytes adR adF adF_parts : Nat) (H : Heap) (locs : List Loc) (hP : va_P (dC, dI) zcl (zwT adT adT_bytes cB cI cL sT ++ zwR adR adT cB cI cL sR ++ zwF adF adF_parts cB cI cL sF) H) (hD : va_D A (zwT adT adT_bytes cB cI cL sT ++ zwR adR adT cB cI cL sR ++ zwF adF adF_parts cB cI cL sF)) (hS : va_S A s.heap H locs) (ls : Array Slot) (hl : lv_has ls 8 [(0, .ref adF), (1, .ref adR), (2, .int v2)]) : W p l e R s m args below meth c H locs 0 0 (MQ below (q_F_walkRanges dC dI cB cI cL A adT adT_bytes adR adF adF_parts sT a) args s 0 0 A) (F0 m 0 ls []) := by
  obtain ⟨hx, hb, hr, hml, hown, hts, hlocks, hRf, hRl⟩ := id X
  unfold g_F_walkRanges at hG
  refine lv_aload_n hx hb d_F_walkRanges_0 rfl (lv_at hl 0 rfl) ?_
  refine lv_aload_n hx hb d_F_walkRanges_1 rfl (lv_at hl 0 rfl) ?_
  refine va_get (D := (dC, dI)) (ci := 4) (v := .ref adF_parts) (C := R_F) (T := F_F) (N := 7) hx hb hts zi_F hown zz.1 hP 3 rfl rfl 0 (by decide) (hts (.fieldLink R_F 9 "WireCodec$Frame" "parts" "[J") zin_F_9) (fun _ h9 => h9) rfl d_F_walkRanges_2 ?_
  refine lv_iconst (v := (0 : Int32)) hx hb d_F_walkRanges_5 (by decide) ?_
  obtain ⟨hin, hG⟩ := zgd hG
  refine va_lald hx hb zz.1 hP 4 2 rfl rfl hin d_F_walkRanges_6 ?_
  refine va_put (D := (dC, dI)) (ci := 4) (v := .long ((zF_parts sF) (0 : Int32).toNatClampNeg)) (ty := .long) (C := R_F) (T := F_F) (N := 7) hx hb hts zi_F zty_F zty_F_ok znm_F hown zz.1 hP hD hS 3 rfl rfl 6 (by decide) (hts (.fieldLink R_F 53 "WireCodec$Frame" "high" "J") zin_F_53) (fun _ h9 => h9) rfl (by decide +kernel) rfl rfl (Nat.le_of_ble_eq_true rfl) d_F_walkRanges_7 (fun H locs hP hD hS => ?_)
  have hP : va_P (dC, dI) zcl (zwT adT adT_bytes cB cI cL sT ++ zwR adR adT cB cI cL sR ++ zwF adF adF_parts cB cI cL (zF_high' sF ((zF_parts sF) (0 : Int32).toNatClampNeg))) H := hP
  have hD : va_D A (zwT adT adT_bytes cB cI cL sT ++ zwR adR adT cB cI cL sR ++ zwF adF adF_parts cB cI cL (zF_high' sF ((zF_parts sF) (0 : Int32).toNatClampNeg))) := hD
  have hG : g_F_walkRanges_w7 N sT sR v2 (zF_high' sF ((zF_parts sF) (0 : Int32).toNatClampNeg)) = some a := hG
  generalize zF_high' sF ((zF_parts sF) (0 : Int32).toNatClampNeg) = sF_7 at hP hD hG
  unfold g_F_walkRanges_w7 at hG
  refine lv_aload_n hx hb d_F_walkRanges_10 rfl (lv_at hl 0 rfl) ?_
  refine lv_aload_n hx hb d_F_walkRanges_11 rfl (lv_at hl 0 rfl) ?_
  refine va_get (D := (dC, dI)) (ci := 4) (v := .long (zF_high sF_7)) (C := R_F) (T := F_F) (N := 7) hx hb hts zi_F hown zz.1 hP 3 rfl rfl 6 (by decide) (hts (.fieldLink R_F 53 "WireCodec$Frame" "high" "J") zin_F_53) (fun _ h9 => h9) rfl d_F_walkRanges_12 ?_
  refine lv_aload_n hx hb d_F_walkRanges_15 rfl (lv_at hl 1 rfl) ?_
  obtain ⟨a_16, hx_16, hG⟩ := zb hG
  have hr_16 := zrunV (p := p) (e := e) (below := below) (meth := meth) (As := []) (rest := [.long (zF_high sF_7), .ref adF]) (st0 := [.ref adR, .long (zF_high sF_7), .ref adF]) (cells := 0) (slots := 0) X zz hP hD hS hA [0, 1, 2] (by decide) rfl (c_R_takeNumber l dC dI cB cI cL H.size adT adT_bytes adR N sT sR _ hx_16) zy_R_takeNumber zv_R_takeNumber (hts (.methodLink R_F 56 y_R_takeNumber) zin_F_56) hl rfl rfl d_F_walkRanges_16 (lv_room (Nat.le_of_ble_eq_true rfl)) rfl rfl ⟨Nat.le_trans (Nat.le_of_ble_eq_true rfl) hRf, Nat.le_trans (Nat.le_of_ble_eq_true rfl) hRl⟩ ⟨Nat.zero_le _, Nat.zero_le _⟩ 2 2 rfl rfl
  refine zcalll (wr := (zwF adF adF_parts cB cI cL sF_7)) hr_16 hP hD hS hA [0, 1, 2] [3, 4] rfl rfl (by decide) (by decide) (fun r_16 u_16 H locs hw_16 hP hD hS => ?_)
  obtain ⟨sR_16, rfl⟩ : ∃ z, z = u_16 := ⟨_, rfl⟩
  subst hw_16
  have hP : va_P (dC, dI) zcl (zwF adF adF_parts cB cI cL sF_7 ++ zwT adT adT_bytes cB cI cL sT ++ zwR adR adT cB cI cL sR_16) H := hP
  have hD : va_D A (zwF adF adF_parts cB cI cL sF_7 ++ zwT adT adT_bytes cB cI cL sT ++ zwR adR adT cB cI cL sR_16) := hD
  have hG : g_F_walkRanges_c16 N sT v2 sF_7 sR_16 r_16 = some a := hG
  unfold g_F_walkRanges_c16 at hG
  refine lv_lsub hx hb d_F_walkRanges_19 ?_
  refine va_put (D := (dC, dI)) (ci := 4) (v := .long ((zF_high sF_7) - r_16)) (ty := .long) (C := R_F) (T := F_F) (N := 7) hx hb hts zi_F zty_F zty_F_ok znm_F hown zz.1 hP hD hS 0 rfl rfl 5 (by decide) (hts (.fieldLink R_F 45 "WireCodec$Frame" "low" "J") zin_F_45) (fun _ h9 => h9) rfl (by decide +kernel) rfl rfl (Nat.le_of_ble_eq_true rfl) d_F_walkRanges_20 (fun H locs hP hD hS => ?_)
  have hP : va_P (dC, dI) zcl (zwF adF adF_parts cB cI cL (zF_low' sF_7 ((zF_high sF_7) - r_16)) ++ zwT adT adT_bytes cB cI cL sT ++ zwR adR adT cB cI cL sR_16) H := hP
  have hD : va_D A (zwF adF adF_parts cB cI cL (zF_low' sF_7 ((zF_high sF_7) - r_16)) ++ zwT adT adT_bytes cB cI cL sT ++ zwR adR adT cB cI cL sR_16) := hD
  have hG : g_F_walkRanges_w20 N sT v2 sR_16 (zF_low' sF_7 ((zF_high sF_7) - r_16)) = some a := hG
  generalize zF_low' sF_7 ((zF_high sF_7) - r_16) = sF_20 at hP hD hG
  unfold g_F_walkRanges_w20 at hG
  refine lv_iconst (v := (0 : Int32)) hx hb d_F_walkRanges_23 (by decide) ?_
  refine lv_istore_n (lv' := [(3, .int (0 : Int32)), (0, .ref adF), (1, .ref adR), (2, .int v2)]) hx hb d_F_walkRanges_24 rfl hl (by decide) rfl (fun ls hl => ?_)
  exact k_F_walkRanges_25 X hA zz N N sT sR_16 sF_20 v2 (0 : Int32) _ hG adT adT_bytes adR adF adF_parts _ _ (hP.sub [2, 3, 4, 0, 1] rfl) (hD.sub [2, 3, 4, 0, 1] (by decide) rfl) hS _ (lv_sub hl [1, 2, 3, 0] rfl)
set_option maxRecDepth 100000 in
set_option maxHeartbeats 4000000 in
theorem c_F_walkRanges (l : Launch) (dC : Nat → ClassId) (dI : Nat → Nat → Nat) (cB cI cL : ClassId) (sz : Nat) (adT adT_bytes adR adF adF_parts : Nat) (N : Nat) (sT : zT) (sR : zR) (sF : zF) (v2 : Int32) (a : zR × zF) (hG : g_F_walkRanges N sT sR sF v2 = some a) : Met l y_F_walkRanges (zw y_F_walkRanges b_F_walkRanges 8 none) ({ frames := 3, cells := 0, slots := 0, locals := 70 }) (va_Pc [.ref adF, .ref adR, .int v2] (zpre dC dI cB cI cL sz (zwT adT adT_bytes cB cI cL sT ++ zwR adR adT cB cI cL sR ++ zwF adF adF_parts cB cI cL sF))) (q_F_walkRanges dC dI cB cI cL (va_A (zwT adT adT_bytes cB cI cL sT ++ zwR adR adT cB cI cL sR ++ zwF adF adF_parts cB cI cL sF) sz) adT adT_bytes adR adF adF_parts sT a) 0 0 (va_A (zwT adT adT_bytes cB cI cL sT ++ zwR adR adT cB cI cL sR ++ zwF adF adF_parts cB cI cL sF) sz) := by
  refine Met.ofW (cc := b_F_walkRanges) (maxL := 8) (ret := none) (by decide) rfl ?_
  intro p e s m args below meth c s₁ B hml hv
  obtain ⟨rfl, hsz, hP, zz, hD0⟩ := hv
  subst hsz
  have X := zx_of (F := 3) (L := 70) B hml (Nat.le_refl _) (Nat.le_refl _)
  have hD := hD0.self (sz := s.heap.size)
  have hA : ∀ q : Nat, s.heap.size ≤ q → va_A (zwT adT adT_bytes cB cI cL sT ++ zwR adR adT cB cI cL sR ++ zwF adF adF_parts cB cI cL sF) s.heap.size q := fun q h => Or.inr h
  have hl := lv_entry ([.ref adF, .ref adR, .int v2]) (n := 8) (Nat.le_of_ble_eq_true rfl)
  rw [lg_entry_eq]
  generalize (lg_sl ([.ref adF, .ref adR, .int v2]) ++ List.replicate (8 - (lg_sl ([.ref adF, .ref adR, .int v2])).length) Slot.unset).toArray = ls at hl ⊢
  exact k_F_walkRanges_0 X hA zz N sT sR sF v2 a hG adT adT_bytes adR adF adF_parts _ _ hP hD va_S.rf ls hl
noncomputable def g_F_takeShape_64 (N : Nat) (sT : zT) (sR : zR) (sF : zF) : Option (zR × zF) := some (sR, sF)
noncomputable def g_F_takeShape_c61 (N : Nat) (sT : zT) (sR_61 : zR) (sF_61 : zF) : Option (zR × zF) := g_F_takeShape_64 N sT sR_61 sF_61
noncomputable def g_F_takeShape_c58 (N : Nat) (sT : zT) (sF : zF) (sR_58 : zR) (r_58 : Int64) : Option (zR × zF) := (g_F_takeData sR_58 sF r_58).bind (fun a => g_F_takeShape_c61 N sT a.1 a.2)
noncomputable def g_F_takeShape_48 (N : Nat) (sT : zT) (sR : zR) (sF : zF) (v2 : Int32) : Option (zR × zF) := if (v2 &&& (8 : Int32)) = (0 : Int32) then (g_F_takeShape_64 N sT sR sF) else ((g_R_takeNumber N sT sR).bind (fun a => g_F_takeShape_c58 N sT sF a.2 a.1))
noncomputable def g_F_takeShape_w47 (N : Nat) (sT : zT) (v2 : Int32) (sR_44 : zR) (sF_47 : zF) : Option (zR × zF) := g_F_takeShape_48 N sT sR_44 sF_47 v2
noncomputable def g_F_takeShape_c44 (N : Nat) (sT : zT) (sF : zF) (v2 : Int32) (sR_44 : zR) (r_44 : Int64) : Option (zR × zF) := zg (vp_in (2 : Int32) 12) (g_F_takeShape_w47 N sT v2 sR_44 (zF_parts' sF (vp_updL (zF_parts sF) ((2 : Int32).toNatClampNeg) r_44)))
noncomputable def g_F_takeShape_32 (N : Nat) (sT : zT) (sR : zR) (sF : zF) (v2 : Int32) : Option (zR × zF) := if (v2 &&& (4 : Int32)) = (0 : Int32) then (g_F_takeShape_48 N sT sR sF v2) else ((g_R_takeNumber N sT sR).bind (fun a => g_F_takeShape_c44 N sT sF v2 a.2 a.1))
noncomputable def g_F_takeShape_w31 (N : Nat) (sT : zT) (v2 : Int32) (sR_28 : zR) (sF_31 : zF) : Option (zR × zF) := g_F_takeShape_32 N sT sR_28 sF_31 v2
noncomputable def g_F_takeShape_c28 (N : Nat) (sT : zT) (sF : zF) (v2 : Int32) (sR_28 : zR) (r_28 : Int64) : Option (zR × zF) := zg (vp_in (1 : Int32) 12) (g_F_takeShape_w31 N sT v2 sR_28 (zF_parts' sF (vp_updL (zF_parts sF) ((1 : Int32).toNatClampNeg) r_28)))
noncomputable def g_F_takeShape_16 (N : Nat) (sT : zT) (sR : zR) (sF : zF) (v2 : Int32) : Option (zR × zF) := if (v2 &&& (2 : Int32)) = (0 : Int32) then (g_F_takeShape_32 N sT sR sF v2) else ((g_R_takeNumber N sT sR).bind (fun a => g_F_takeShape_c28 N sT sF v2 a.2 a.1))
noncomputable def g_F_takeShape_w15 (N : Nat) (sT : zT) (v2 : Int32) (sR_12 : zR) (sF_15 : zF) : Option (zR × zF) := g_F_takeShape_16 N sT sR_12 sF_15 v2
noncomputable def g_F_takeShape_c12 (N : Nat) (sT : zT) (sF : zF) (v2 : Int32) (sR_12 : zR) (r_12 : Int64) : Option (zR × zF) := zg (vp_in (0 : Int32) 12) (g_F_takeShape_w15 N sT v2 sR_12 (zF_parts' sF (vp_updL (zF_parts sF) ((0 : Int32).toNatClampNeg) r_12)))
noncomputable def g_F_takeShape (N : Nat) (sT : zT) (sR : zR) (sF : zF) (v2 : Int32) : Option (zR × zF) := if (v2 &&& (1 : Int32)) = (0 : Int32) then (g_F_takeShape_16 N sT sR sF v2) else ((g_R_takeNumber N sT sR).bind (fun a => g_F_takeShape_c12 N sT sF v2 a.2 a.1))
def q_F_takeShape (dC : Nat → ClassId) (dI : Nat → Nat → Nat) (cB cI cL : ClassId) (A : Nat → Prop) (adT : Nat) (adT_bytes : Nat) (adR : Nat) (adF : Nat) (adF_parts : Nat) (sT : zT) (a : zR × zF) : Array Value → State → Outcome → State → Prop := va_Qv (fun (u : zR × zF) => (u.1, u.2) = a) (fun u U => va_P (dC, dI) zcl (zwT adT adT_bytes cB cI cL sT ++ zwR adR adT cB cI cL u.1 ++ zwF adF adF_parts cB cI cL u.2) U.heap ∧ va_D A (zwT adT adT_bytes cB cI cL sT ++ zwR adR adT cB cI cL u.1 ++ zwF adF adF_parts cB cI cL u.2)) A
set_option maxRecDepth 100000 in
set_option maxHeartbeats 4000000 in
theorem k_F_takeShape_64 {p : Program} {l : Launch} {e : Env} {R : Room} {s : State} {m : MethodId} {args : Array Value} {below : List Frame} {meth : Method} {c : Code} {dC : Nat → ClassId} {dI : Nat → Nat → Nat} {cB cI cL : ClassId} {A : Nat → Prop} (X : zx p s m args meth c R R_F b_F_takeShape none 3 3 70) (hA : ∀ q, s.heap.size ≤ q → A q) (zz : zk dC dI cB cI cL A s)  (N : Nat) (sT : zT) (sR : zR) (sF : zF) (a : zR × zF) (hG : g_F_takeShape_64 N sT sR sF = some a) (adT adT_bytes adR adF adF_parts : Nat) (H : Heap) (locs : List Loc) (hP : va_P (dC, dI) zcl (zwT adT adT_bytes cB cI cL sT ++ zwR adR adT cB cI cL sR ++ zwF adF adF_parts cB cI cL sF) H) (hD : va_D A (zwT adT adT_bytes cB cI cL sT ++ zwR adR adT cB cI cL sR ++ zwF adF adF_parts cB cI cL sF)) (hS : va_S A s.heap H locs) (ls : Array Slot) (hl : lv_has ls 3 []) : W p l e R s m args below meth c H locs 0 0 (MQ below (q_F_takeShape dC dI cB cI cL A adT adT_bytes adR adF adF_parts sT a) args s 0 0 A) (F0 m 64 ls []) := by
  obtain ⟨hx, hb, hr, hml, hown, hts, hlocks, hRf, hRl⟩ := id X
  unfold g_F_takeShape_64 at hG
  exact W.vret hx hb hr (fun t9 ht9 hW9 => ⟨⟨(sR, sF), rfl, Option.some.inj hG, by rw [ht9]; exact hP, hD⟩, hS.F ht9⟩) hS.2.2 d_F_takeShape_64
set_option maxRecDepth 100000 in
set_option maxHeartbeats 4000000 in
theorem k_F_takeShape_48 {p : Program} {l : Launch} {e : Env} {R : Room} {s : State} {m : MethodId} {args : Array Value} {below : List Frame} {meth : Method} {c : Code} {dC : Nat → ClassId} {dI : Nat → Nat → Nat} {cB cI cL : ClassId} {A : Nat → Prop} (X : zx p s m args meth c R R_F b_F_takeShape none 3 3 70) (hA : ∀ q, s.heap.size ≤ q → A q) (zz : zk dC dI cB cI cL A s)  (N : Nat) (sT : zT) (sR : zR) (sF : zF) (v2 : Int32) (a : zR × zF) (hG : g_F_takeShape_48 N sT sR sF v2 = some a) (adT adT_bytes adR adF adF_parts : Nat) (H : Heap) (locs : List Loc) (hP : va_P (dC, dI) zcl (zwT adT adT_bytes cB cI cL sT ++ zwR adR adT cB cI cL sR ++ zwF adF adF_parts cB cI cL sF) H) (hD : va_D A (zwT adT adT_bytes cB cI cL sT ++ zwR adR adT cB cI cL sR ++ zwF adF adF_parts cB cI cL sF)) (hS : va_S A s.heap H locs) (ls : Array Slot) (hl : lv_has ls 3 [(0, .ref adF), (1, .ref adR), (2, .int v2)]) : W p l e R s m args below meth c H locs 0 0 (MQ below (q_F_takeShape dC dI cB cI cL A adT adT_bytes adR adF adF_parts sT a) args s 0 0 A) (F0 m 48 ls []) := by
  obtain ⟨hx, hb, hr, hml, hown, hts, hlocks, hRf, hRl⟩ := id X
  unfold g_F_takeShape_48 at hG
  refine lv_iload_n hx hb d_F_takeShape_48 rfl (lv_at hl 2 rfl) ?_
  refine lv_bipush (v := (8 : Int32)) hx hb d_F_takeShape_49 (by decide) ?_
  refine lv_iand hx hb d_F_takeShape_51 ?_
  refine lv_if_eq (tgt := 64) hx hb d_F_takeShape_52 (by decide) (fun hc => ?_) (fun hc => ?_)
  · have hG := zt hG hc
    exact k_F_takeShape_64 X hA zz N sT sR sF _ hG adT adT_bytes adR adF adF_parts _ _ hP hD hS _ (lv_sub hl [] rfl)
  · have hG := zf hG hc
    refine lv_aload_n hx hb d_F_takeShape_55 rfl (lv_at hl 0 rfl) ?_
    refine lv_aload_n hx hb d_F_takeShape_56 rfl (lv_at hl 1 rfl) ?_
    refine lv_aload_n hx hb d_F_takeShape_57 rfl (lv_at hl 1 rfl) ?_
    obtain ⟨a_58, hx_58, hG⟩ := zb hG
    have hr_58 := zrunV (p := p) (e := e) (below := below) (meth := meth) (As := []) (rest := [.ref adR, .ref adF]) (st0 := [.ref adR, .ref adR, .ref adF]) (cells := 0) (slots := 0) X zz hP hD hS hA [0, 1, 2] (by decide) rfl (c_R_takeNumber l dC dI cB cI cL H.size adT adT_bytes adR N sT sR _ hx_58) zy_R_takeNumber zv_R_takeNumber (hts (.methodLink R_F 56 y_R_takeNumber) zin_F_56) hl rfl rfl d_F_takeShape_58 (lv_room (Nat.le_of_ble_eq_true rfl)) rfl rfl ⟨Nat.le_trans (Nat.le_of_ble_eq_true rfl) hRf, Nat.le_trans (Nat.le_of_ble_eq_true rfl) hRl⟩ ⟨Nat.zero_le _, Nat.zero_le _⟩ 2 2 rfl rfl
    refine zcalll (wr := (zwF adF adF_parts cB cI cL sF)) hr_58 hP hD hS hA [0, 1, 2] [3, 4] rfl rfl (by decide) (by decide) (fun r_58 u_58 H locs hw_58 hP hD hS => ?_)
    obtain ⟨sR_58, rfl⟩ : ∃ z, z = u_58 := ⟨_, rfl⟩
    subst hw_58
    have hP : va_P (dC, dI) zcl (zwF adF adF_parts cB cI cL sF ++ zwT adT adT_bytes cB cI cL sT ++ zwR adR adT cB cI cL sR_58) H := hP
    have hD : va_D A (zwF adF adF_parts cB cI cL sF ++ zwT adT adT_bytes cB cI cL sT ++ zwR adR adT cB cI cL sR_58) := hD
    have hG : g_F_takeShape_c58 N sT sF sR_58 r_58 = some a := hG
    unfold g_F_takeShape_c58 at hG
    obtain ⟨a_61, hx_61, hG⟩ := zb hG
    have hr_61 := zrunV (p := p) (e := e) (below := below) (meth := meth) (As := [.ref adR, .long r_58]) (rest := []) (st0 := [.long r_58, .ref adR, .ref adF]) (cells := 0) (slots := 0) X zz hP hD hS hA [4, 0, 1] (by decide) rfl (c_F_takeData l dC dI cB cI cL H.size adR adF adF_parts adT sR_58 sF r_58 _ hx_61) zy_F_takeData zv_F_takeData (hts (.methodLink R_F 71 y_F_takeData) zin_F_71) hl rfl rfl d_F_takeShape_61 (lv_room (Nat.le_of_ble_eq_true rfl)) rfl rfl ⟨Nat.le_trans (Nat.le_of_ble_eq_true rfl) hRf, Nat.le_trans (Nat.le_of_ble_eq_true rfl) hRl⟩ ⟨Nat.zero_le _, Nat.zero_le _⟩ 1 4 rfl rfl
    refine zcallv (wr := (zwT adT adT_bytes cB cI cL sT)) hr_61 hP hD hS hA [4, 0, 1] [2, 3] rfl rfl (by decide) (by decide) (fun u_61 H locs hw_61 hP hD hS => ?_)
    obtain ⟨sR_61, sF_61⟩ := u_61
    subst hw_61
    have hP : va_P (dC, dI) zcl (zwT adT adT_bytes cB cI cL sT ++ zwR adR adT cB cI cL sR_61 ++ zwF adF adF_parts cB cI cL sF_61) H := hP
    have hD : va_D A (zwT adT adT_bytes cB cI cL sT ++ zwR adR adT cB cI cL sR_61 ++ zwF adF adF_parts cB cI cL sF_61) := hD
    have hG : g_F_takeShape_c61 N sT sR_61 sF_61 = some a := hG
    unfold g_F_takeShape_c61 at hG
    exact k_F_takeShape_64 X hA zz N sT sR_61 sF_61 _ hG adT adT_bytes adR adF adF_parts _ _ hP hD hS _ (lv_sub hl [] rfl)
set_option maxRecDepth 100000 in
set_option maxHeartbeats 4000000 in
theorem k_F_takeShape_32 {p : Program} {l : Launch} {e : Env} {R : Room} {s : State} {m : MethodId} {args : Array Value} {below : List Frame} {meth : Method} {c : Code} {dC : Nat → ClassId} {dI : Nat → Nat → Nat} {cB cI cL : ClassId} {A : Nat → Prop} (X : zx p s m args meth c R R_F b_F_takeShape none 3 3 70) (hA : ∀ q, s.heap.size ≤ q → A q) (zz : zk dC dI cB cI cL A s)  (N : Nat) (sT : zT) (sR : zR) (sF : zF) (v2 : Int32) (a : zR × zF) (hG : g_F_takeShape_32 N sT sR sF v2 = some a) (adT adT_bytes adR adF adF_parts : Nat) (H : Heap) (locs : List Loc) (hP : va_P (dC, dI) zcl (zwT adT adT_bytes cB cI cL sT ++ zwR adR adT cB cI cL sR ++ zwF adF adF_parts cB cI cL sF) H) (hD : va_D A (zwT adT adT_bytes cB cI cL sT ++ zwR adR adT cB cI cL sR ++ zwF adF adF_parts cB cI cL sF)) (hS : va_S A s.heap H locs) (ls : Array Slot) (hl : lv_has ls 3 [(0, .ref adF), (1, .ref adR), (2, .int v2)]) : W p l e R s m args below meth c H locs 0 0 (MQ below (q_F_takeShape dC dI cB cI cL A adT adT_bytes adR adF adF_parts sT a) args s 0 0 A) (F0 m 32 ls []) := by
  obtain ⟨hx, hb, hr, hml, hown, hts, hlocks, hRf, hRl⟩ := id X
  unfold g_F_takeShape_32 at hG
  refine lv_iload_n hx hb d_F_takeShape_32 rfl (lv_at hl 2 rfl) ?_
  refine lv_iconst (v := (4 : Int32)) hx hb d_F_takeShape_33 (by decide) ?_
  refine lv_iand hx hb d_F_takeShape_34 ?_
  refine lv_if_eq (tgt := 48) hx hb d_F_takeShape_35 (by decide) (fun hc => ?_) (fun hc => ?_)
  · have hG := zt hG hc
    exact k_F_takeShape_48 X hA zz N sT sR sF v2 _ hG adT adT_bytes adR adF adF_parts _ _ hP hD hS _ (lv_sub hl [0, 1, 2] rfl)
  · have hG := zf hG hc
    refine lv_aload_n hx hb d_F_takeShape_38 rfl (lv_at hl 0 rfl) ?_
    refine va_get (D := (dC, dI)) (ci := 4) (v := .ref adF_parts) (C := R_F) (T := F_F) (N := 7) hx hb hts zi_F hown zz.1 hP 3 rfl rfl 0 (by decide) (hts (.fieldLink R_F 9 "WireCodec$Frame" "parts" "[J") zin_F_9) (fun _ h9 => h9) rfl d_F_takeShape_39 ?_
    refine lv_iconst (v := (2 : Int32)) hx hb d_F_takeShape_42 (by decide) ?_
    refine lv_aload_n hx hb d_F_takeShape_43 rfl (lv_at hl 1 rfl) ?_
    obtain ⟨a_44, hx_44, hG⟩ := zb hG
    have hr_44 := zrunV (p := p) (e := e) (below := below) (meth := meth) (As := []) (rest := [.int (2 : Int32), .ref adF_parts]) (st0 := [.ref adR, .int (2 : Int32), .ref adF_parts]) (cells := 0) (slots := 0) X zz hP hD hS hA [0, 1, 2] (by decide) rfl (c_R_takeNumber l dC dI cB cI cL H.size adT adT_bytes adR N sT sR _ hx_44) zy_R_takeNumber zv_R_takeNumber (hts (.methodLink R_F 56 y_R_takeNumber) zin_F_56) hl rfl rfl d_F_takeShape_44 (lv_room (Nat.le_of_ble_eq_true rfl)) rfl rfl ⟨Nat.le_trans (Nat.le_of_ble_eq_true rfl) hRf, Nat.le_trans (Nat.le_of_ble_eq_true rfl) hRl⟩ ⟨Nat.zero_le _, Nat.zero_le _⟩ 2 2 rfl rfl
    refine zcalll (wr := (zwF adF adF_parts cB cI cL sF)) hr_44 hP hD hS hA [0, 1, 2] [3, 4] rfl rfl (by decide) (by decide) (fun r_44 u_44 H locs hw_44 hP hD hS => ?_)
    obtain ⟨sR_44, rfl⟩ : ∃ z, z = u_44 := ⟨_, rfl⟩
    subst hw_44
    have hP : va_P (dC, dI) zcl (zwF adF adF_parts cB cI cL sF ++ zwT adT adT_bytes cB cI cL sT ++ zwR adR adT cB cI cL sR_44) H := hP
    have hD : va_D A (zwF adF adF_parts cB cI cL sF ++ zwT adT adT_bytes cB cI cL sT ++ zwR adR adT cB cI cL sR_44) := hD
    have hG : g_F_takeShape_c44 N sT sF v2 sR_44 r_44 = some a := hG
    unfold g_F_takeShape_c44 at hG
    obtain ⟨hin, hG⟩ := zgd hG
    refine va_last hx hb zz.1 hP hD hS 1 2 rfl rfl hin d_F_takeShape_47 (fun H locs hP hD hS => ?_)
    have hP : va_P (dC, dI) zcl (zwF adF adF_parts cB cI cL (zF_parts' sF (vp_updL (zF_parts sF) ((2 : Int32).toNatClampNeg) r_44)) ++ zwT adT adT_bytes cB cI cL sT ++ zwR adR adT cB cI cL sR_44) H := hP
    have hD : va_D A (zwF adF adF_parts cB cI cL (zF_parts' sF (vp_updL (zF_parts sF) ((2 : Int32).toNatClampNeg) r_44)) ++ zwT adT adT_bytes cB cI cL sT ++ zwR adR adT cB cI cL sR_44) := hD
    have hG : g_F_takeShape_w47 N sT v2 sR_44 (zF_parts' sF (vp_updL (zF_parts sF) ((2 : Int32).toNatClampNeg) r_44)) = some a := hG
    generalize zF_parts' sF (vp_updL (zF_parts sF) ((2 : Int32).toNatClampNeg) r_44) = sF_47 at hP hD hG
    unfold g_F_takeShape_w47 at hG
    exact k_F_takeShape_48 X hA zz N sT sR_44 sF_47 v2 _ hG adT adT_bytes adR adF adF_parts _ _ (hP.sub [2, 3, 4, 0, 1] rfl) (hD.sub [2, 3, 4, 0, 1] (by decide) rfl) hS _ (lv_sub hl [0, 1, 2] rfl)
set_option maxRecDepth 100000 in
set_option maxHeartbeats 4000000 in
theorem k_F_takeShape_16 {p : Program} {l : Launch} {e : Env} {R : Room} {s : State} {m : MethodId} {args : Array Value} {below : List Frame} {meth : Method} {c : Code} {dC : Nat → ClassId} {dI : Nat → Nat → Nat} {cB cI cL : ClassId} {A : Nat → Prop} (X : zx p s m args meth c R R_F b_F_takeShape none 3 3 70) (hA : ∀ q, s.heap.size ≤ q → A q) (zz : zk dC dI cB cI cL A s)  (N : Nat) (sT : zT) (sR : zR) (sF : zF) (v2 : Int32) (a : zR × zF) (hG : g_F_takeShape_16 N sT sR sF v2 = some a) (adT adT_bytes adR adF adF_parts : Nat) (H : Heap) (locs : List Loc) (hP : va_P (dC, dI) zcl (zwT adT adT_bytes cB cI cL sT ++ zwR adR adT cB cI cL sR ++ zwF adF adF_parts cB cI cL sF) H) (hD : va_D A (zwT adT adT_bytes cB cI cL sT ++ zwR adR adT cB cI cL sR ++ zwF adF adF_parts cB cI cL sF)) (hS : va_S A s.heap H locs) (ls : Array Slot) (hl : lv_has ls 3 [(0, .ref adF), (1, .ref adR), (2, .int v2)]) : W p l e R s m args below meth c H locs 0 0 (MQ below (q_F_takeShape dC dI cB cI cL A adT adT_bytes adR adF adF_parts sT a) args s 0 0 A) (F0 m 16 ls []) := by
  obtain ⟨hx, hb, hr, hml, hown, hts, hlocks, hRf, hRl⟩ := id X
  unfold g_F_takeShape_16 at hG
  refine lv_iload_n hx hb d_F_takeShape_16 rfl (lv_at hl 2 rfl) ?_
  refine lv_iconst (v := (2 : Int32)) hx hb d_F_takeShape_17 (by decide) ?_
  refine lv_iand hx hb d_F_takeShape_18 ?_
  refine lv_if_eq (tgt := 32) hx hb d_F_takeShape_19 (by decide) (fun hc => ?_) (fun hc => ?_)
  · have hG := zt hG hc
    exact k_F_takeShape_32 X hA zz N sT sR sF v2 _ hG adT adT_bytes adR adF adF_parts _ _ hP hD hS _ (lv_sub hl [0, 1, 2] rfl)
  · have hG := zf hG hc
    refine lv_aload_n hx hb d_F_takeShape_22 rfl (lv_at hl 0 rfl) ?_
    refine va_get (D := (dC, dI)) (ci := 4) (v := .ref adF_parts) (C := R_F) (T := F_F) (N := 7) hx hb hts zi_F hown zz.1 hP 3 rfl rfl 0 (by decide) (hts (.fieldLink R_F 9 "WireCodec$Frame" "parts" "[J") zin_F_9) (fun _ h9 => h9) rfl d_F_takeShape_23 ?_
    refine lv_iconst (v := (1 : Int32)) hx hb d_F_takeShape_26 (by decide) ?_
    refine lv_aload_n hx hb d_F_takeShape_27 rfl (lv_at hl 1 rfl) ?_
    obtain ⟨a_28, hx_28, hG⟩ := zb hG
    have hr_28 := zrunV (p := p) (e := e) (below := below) (meth := meth) (As := []) (rest := [.int (1 : Int32), .ref adF_parts]) (st0 := [.ref adR, .int (1 : Int32), .ref adF_parts]) (cells := 0) (slots := 0) X zz hP hD hS hA [0, 1, 2] (by decide) rfl (c_R_takeNumber l dC dI cB cI cL H.size adT adT_bytes adR N sT sR _ hx_28) zy_R_takeNumber zv_R_takeNumber (hts (.methodLink R_F 56 y_R_takeNumber) zin_F_56) hl rfl rfl d_F_takeShape_28 (lv_room (Nat.le_of_ble_eq_true rfl)) rfl rfl ⟨Nat.le_trans (Nat.le_of_ble_eq_true rfl) hRf, Nat.le_trans (Nat.le_of_ble_eq_true rfl) hRl⟩ ⟨Nat.zero_le _, Nat.zero_le _⟩ 2 2 rfl rfl
    refine zcalll (wr := (zwF adF adF_parts cB cI cL sF)) hr_28 hP hD hS hA [0, 1, 2] [3, 4] rfl rfl (by decide) (by decide) (fun r_28 u_28 H locs hw_28 hP hD hS => ?_)
    obtain ⟨sR_28, rfl⟩ : ∃ z, z = u_28 := ⟨_, rfl⟩
    subst hw_28
    have hP : va_P (dC, dI) zcl (zwF adF adF_parts cB cI cL sF ++ zwT adT adT_bytes cB cI cL sT ++ zwR adR adT cB cI cL sR_28) H := hP
    have hD : va_D A (zwF adF adF_parts cB cI cL sF ++ zwT adT adT_bytes cB cI cL sT ++ zwR adR adT cB cI cL sR_28) := hD
    have hG : g_F_takeShape_c28 N sT sF v2 sR_28 r_28 = some a := hG
    unfold g_F_takeShape_c28 at hG
    obtain ⟨hin, hG⟩ := zgd hG
    refine va_last hx hb zz.1 hP hD hS 1 2 rfl rfl hin d_F_takeShape_31 (fun H locs hP hD hS => ?_)
    have hP : va_P (dC, dI) zcl (zwF adF adF_parts cB cI cL (zF_parts' sF (vp_updL (zF_parts sF) ((1 : Int32).toNatClampNeg) r_28)) ++ zwT adT adT_bytes cB cI cL sT ++ zwR adR adT cB cI cL sR_28) H := hP
    have hD : va_D A (zwF adF adF_parts cB cI cL (zF_parts' sF (vp_updL (zF_parts sF) ((1 : Int32).toNatClampNeg) r_28)) ++ zwT adT adT_bytes cB cI cL sT ++ zwR adR adT cB cI cL sR_28) := hD
    have hG : g_F_takeShape_w31 N sT v2 sR_28 (zF_parts' sF (vp_updL (zF_parts sF) ((1 : Int32).toNatClampNeg) r_28)) = some a := hG
    generalize zF_parts' sF (vp_updL (zF_parts sF) ((1 : Int32).toNatClampNeg) r_28) = sF_31 at hP hD hG
    unfold g_F_takeShape_w31 at hG
    exact k_F_takeShape_32 X hA zz N sT sR_28 sF_31 v2 _ hG adT adT_bytes adR adF adF_parts _ _ (hP.sub [2, 3, 4, 0, 1] rfl) (hD.sub [2, 3, 4, 0, 1] (by decide) rfl) hS _ (lv_sub hl [0, 1, 2] rfl)
set_option maxRecDepth 100000 in
set_option maxHeartbeats 4000000 in
theorem k_F_takeShape_0 {p : Program} {l : Launch} {e : Env} {R : Room} {s : State} {m : MethodId} {args : Array Value} {below : List Frame} {meth : Method} {c : Code} {dC : Nat → ClassId} {dI : Nat → Nat → Nat} {cB cI cL : ClassId} {A : Nat → Prop} (X : zx p s m args meth c R R_F b_F_takeShape none 3 3 70) (hA : ∀ q, s.heap.size ≤ q → A q) (zz : zk dC dI cB cI cL A s)  (N : Nat) (sT : zT) (sR : zR) (sF : zF) (v2 : Int32) (a : zR × zF) (hG : g_F_takeShape N sT sR sF v2 = some a) (adT adT_bytes adR adF adF_parts : Nat) (H : Heap) (locs : List Loc) (hP : va_P (dC, dI) zcl (zwT adT adT_bytes cB cI cL sT ++ zwR adR adT cB cI cL sR ++ zwF adF adF_parts cB cI cL sF) H) (hD : va_D A (zwT adT adT_bytes cB cI cL sT ++ zwR adR adT cB cI cL sR ++ zwF adF adF_parts cB cI cL sF)) (hS : va_S A s.heap H locs) (ls : Array Slot) (hl : lv_has ls 3 [(0, .ref adF), (1, .ref adR), (2, .int v2)]) : W p l e R s m args below meth c H locs 0 0 (MQ below (q_F_takeShape dC dI cB cI cL A adT adT_bytes adR adF adF_parts sT a) args s 0 0 A) (F0 m 0 ls []) := by
  obtain ⟨hx, hb, hr, hml, hown, hts, hlocks, hRf, hRl⟩ := id X
  unfold g_F_takeShape at hG
  refine lv_iload_n hx hb d_F_takeShape_0 rfl (lv_at hl 2 rfl) ?_
  refine lv_iconst (v := (1 : Int32)) hx hb d_F_takeShape_1 (by decide) ?_
  refine lv_iand hx hb d_F_takeShape_2 ?_
  refine lv_if_eq (tgt := 16) hx hb d_F_takeShape_3 (by decide) (fun hc => ?_) (fun hc => ?_)
  · have hG := zt hG hc
    exact k_F_takeShape_16 X hA zz N sT sR sF v2 _ hG adT adT_bytes adR adF adF_parts _ _ hP hD hS _ (lv_sub hl [0, 1, 2] rfl)
  · have hG := zf hG hc
    refine lv_aload_n hx hb d_F_takeShape_6 rfl (lv_at hl 0 rfl) ?_
    refine va_get (D := (dC, dI)) (ci := 4) (v := .ref adF_parts) (C := R_F) (T := F_F) (N := 7) hx hb hts zi_F hown zz.1 hP 3 rfl rfl 0 (by decide) (hts (.fieldLink R_F 9 "WireCodec$Frame" "parts" "[J") zin_F_9) (fun _ h9 => h9) rfl d_F_takeShape_7 ?_
    refine lv_iconst (v := (0 : Int32)) hx hb d_F_takeShape_10 (by decide) ?_
    refine lv_aload_n hx hb d_F_takeShape_11 rfl (lv_at hl 1 rfl) ?_
    obtain ⟨a_12, hx_12, hG⟩ := zb hG
    have hr_12 := zrunV (p := p) (e := e) (below := below) (meth := meth) (As := []) (rest := [.int (0 : Int32), .ref adF_parts]) (st0 := [.ref adR, .int (0 : Int32), .ref adF_parts]) (cells := 0) (slots := 0) X zz hP hD hS hA [0, 1, 2] (by decide) rfl (c_R_takeNumber l dC dI cB cI cL H.size adT adT_bytes adR N sT sR _ hx_12) zy_R_takeNumber zv_R_takeNumber (hts (.methodLink R_F 56 y_R_takeNumber) zin_F_56) hl rfl rfl d_F_takeShape_12 (lv_room (Nat.le_of_ble_eq_true rfl)) rfl rfl ⟨Nat.le_trans (Nat.le_of_ble_eq_true rfl) hRf, Nat.le_trans (Nat.le_of_ble_eq_true rfl) hRl⟩ ⟨Nat.zero_le _, Nat.zero_le _⟩ 2 2 rfl rfl
    refine zcalll (wr := (zwF adF adF_parts cB cI cL sF)) hr_12 hP hD hS hA [0, 1, 2] [3, 4] rfl rfl (by decide) (by decide) (fun r_12 u_12 H locs hw_12 hP hD hS => ?_)
    obtain ⟨sR_12, rfl⟩ : ∃ z, z = u_12 := ⟨_, rfl⟩
    subst hw_12
    have hP : va_P (dC, dI) zcl (zwF adF adF_parts cB cI cL sF ++ zwT adT adT_bytes cB cI cL sT ++ zwR adR adT cB cI cL sR_12) H := hP
    have hD : va_D A (zwF adF adF_parts cB cI cL sF ++ zwT adT adT_bytes cB cI cL sT ++ zwR adR adT cB cI cL sR_12) := hD
    have hG : g_F_takeShape_c12 N sT sF v2 sR_12 r_12 = some a := hG
    unfold g_F_takeShape_c12 at hG
    obtain ⟨hin, hG⟩ := zgd hG
    refine va_last hx hb zz.1 hP hD hS 1 2 rfl rfl hin d_F_takeShape_15 (fun H locs hP hD hS => ?_)
    have hP : va_P (dC, dI) zcl (zwF adF adF_parts cB cI cL (zF_parts' sF (vp_updL (zF_parts sF) ((0 : Int32).toNatClampNeg) r_12)) ++ zwT adT adT_bytes cB cI cL sT ++ zwR adR adT cB cI cL sR_12) H := hP
    have hD : va_D A (zwF adF adF_parts cB cI cL (zF_parts' sF (vp_updL (zF_parts sF) ((0 : Int32).toNatClampNeg) r_12)) ++ zwT adT adT_bytes cB cI cL sT ++ zwR adR adT cB cI cL sR_12) := hD
    have hG : g_F_takeShape_w15 N sT v2 sR_12 (zF_parts' sF (vp_updL (zF_parts sF) ((0 : Int32).toNatClampNeg) r_12)) = some a := hG
    generalize zF_parts' sF (vp_updL (zF_parts sF) ((0 : Int32).toNatClampNeg) r_12) = sF_15 at hP hD hG
    unfold g_F_takeShape_w15 at hG
    exact k_F_takeShape_16 X hA zz N sT sR_12 sF_15 v2 _ hG adT adT_bytes adR adF adF_parts _ _ (hP.sub [2, 3, 4, 0, 1] rfl) (hD.sub [2, 3, 4, 0, 1] (by decide) rfl) hS _ (lv_sub hl [0, 1, 2] rfl)
set_option maxRecDepth 100000 in
set_option maxHeartbeats 4000000 in
theorem c_F_takeShape (l : Launch) (dC : Nat → ClassId) (dI : Nat → Nat → Nat) (cB cI cL : ClassId) (sz : Nat) (adT adT_bytes adR adF adF_parts : Nat) (N : Nat) (sT : zT) (sR : zR) (sF : zF) (v2 : Int32) (a : zR × zF) (hG : g_F_takeShape N sT sR sF v2 = some a) : Met l y_F_takeShape (zw y_F_takeShape b_F_takeShape 3 none) ({ frames := 3, cells := 0, slots := 0, locals := 70 }) (va_Pc [.ref adF, .ref adR, .int v2] (zpre dC dI cB cI cL sz (zwT adT adT_bytes cB cI cL sT ++ zwR adR adT cB cI cL sR ++ zwF adF adF_parts cB cI cL sF))) (q_F_takeShape dC dI cB cI cL (va_A (zwT adT adT_bytes cB cI cL sT ++ zwR adR adT cB cI cL sR ++ zwF adF adF_parts cB cI cL sF) sz) adT adT_bytes adR adF adF_parts sT a) 0 0 (va_A (zwT adT adT_bytes cB cI cL sT ++ zwR adR adT cB cI cL sR ++ zwF adF adF_parts cB cI cL sF) sz) := by
  refine Met.ofW (cc := b_F_takeShape) (maxL := 3) (ret := none) (by decide) rfl ?_
  intro p e s m args below meth c s₁ B hml hv
  obtain ⟨rfl, hsz, hP, zz, hD0⟩ := hv
  subst hsz
  have X := zx_of (F := 3) (L := 70) B hml (Nat.le_refl _) (Nat.le_refl _)
  have hD := hD0.self (sz := s.heap.size)
  have hA : ∀ q : Nat, s.heap.size ≤ q → va_A (zwT adT adT_bytes cB cI cL sT ++ zwR adR adT cB cI cL sR ++ zwF adF adF_parts cB cI cL sF) s.heap.size q := fun q h => Or.inr h
  have hl := lv_entry ([.ref adF, .ref adR, .int v2]) (n := 3) (Nat.le_of_ble_eq_true rfl)
  rw [lg_entry_eq]
  generalize (lg_sl ([.ref adF, .ref adR, .int v2]) ++ List.replicate (3 - (lg_sl ([.ref adF, .ref adR, .int v2])).length) Slot.unset).toArray = ls at hl ⊢
  exact k_F_takeShape_0 X hA zz N sT sR sF v2 a hG adT adT_bytes adR adF adF_parts _ _ hP hD va_S.rf ls hl
noncomputable def g_F_takeRangeCount_43 (N : Nat) (sT : zT) (sR : zR) (sF : zF) : Option (zR × zF) := some (sR, sF)
noncomputable def g_F_takeRangeCount_w42 (N : Nat) (sT : zT) (sR_1 : zR) (sF_42 : zF) : Option (zR × zF) := g_F_takeRangeCount_43 N sT sR_1 sF_42
noncomputable def g_F_takeRangeCount_w27 (N : Nat) (sT : zT) (sF_10 : zF) (sR_27 : zR) : Option (zR × zF) := g_F_takeRangeCount_43 N sT sR_27 sF_10
noncomputable def g_F_takeRangeCount_c15 (N : Nat) (sT : zT) (sR_1 : zR) (r_1 : Int64) (sF_10 : zF) (r_15 : Int32) : Option (zR × zF) := if (lg_cmp r_1 ((r_15 / (2 : Int32)).toInt64)) ≤ (0 : Int32) then (zg (vp_in (6 : Int32) 12) (g_F_takeRangeCount_w42 N sT sR_1 (zF_parts' sF_10 (vp_updL (zF_parts sF_10) ((6 : Int32).toNatClampNeg) (r_1 + (1 : Int64)))))) else (g_F_takeRangeCount_w27 N sT sF_10 (zR_over' sR_1 (1 : Int32)))
noncomputable def g_F_takeRangeCount_w10 (N : Nat) (sT : zT) (sR_1 : zR) (r_1 : Int64) (sF_10 : zF) : Option (zR × zF) := (g_R_left sR_1).bind (fun a => g_F_takeRangeCount_c15 N sT sR_1 r_1 sF_10 a)
noncomputable def g_F_takeRangeCount_c1 (N : Nat) (sT : zT) (sF : zF) (sR_1 : zR) (r_1 : Int64) : Option (zR × zF) := g_F_takeRangeCount_w10 N sT sR_1 r_1 (zF_rangesPlace' sF (zR_place sR_1))
noncomputable def g_F_takeRangeCount (N : Nat) (sT : zT) (sR : zR) (sF : zF) : Option (zR × zF) := (g_R_takeNumber N sT sR).bind (fun a => g_F_takeRangeCount_c1 N sT sF a.2 a.1)
def q_F_takeRangeCount (dC : Nat → ClassId) (dI : Nat → Nat → Nat) (cB cI cL : ClassId) (A : Nat → Prop) (adT : Nat) (adT_bytes : Nat) (adR : Nat) (adF : Nat) (adF_parts : Nat) (sT : zT) (a : zR × zF) : Array Value → State → Outcome → State → Prop := va_Qv (fun (u : zR × zF) => (u.1, u.2) = a) (fun u U => va_P (dC, dI) zcl (zwT adT adT_bytes cB cI cL sT ++ zwR adR adT cB cI cL u.1 ++ zwF adF adF_parts cB cI cL u.2) U.heap ∧ va_D A (zwT adT adT_bytes cB cI cL sT ++ zwR adR adT cB cI cL u.1 ++ zwF adF adF_parts cB cI cL u.2)) A
set_option maxRecDepth 100000 in
set_option maxHeartbeats 4000000 in
theorem k_F_takeRangeCount_43 {p : Program} {l : Launch} {e : Env} {R : Room} {s : State} {m : MethodId} {args : Array Value} {below : List Frame} {meth : Method} {c : Code} {dC : Nat → ClassId} {dI : Nat → Nat → Nat} {cB cI cL : ClassId} {A : Nat → Prop} (X : zx p s m args meth c R R_F b_F_takeRangeCount none 4 3 70) (hA : ∀ q, s.heap.size ≤ q → A q) (zz : zk dC dI cB cI cL A s)  (N : Nat) (sT : zT) (sR : zR) (sF : zF) (a : zR × zF) (hG : g_F_takeRangeCount_43 N sT sR sF = some a) (adT adT_bytes adR adF adF_parts : Nat) (H : Heap) (locs : List Loc) (hP : va_P (dC, dI) zcl (zwT adT adT_bytes cB cI cL sT ++ zwR adR adT cB cI cL sR ++ zwF adF adF_parts cB cI cL sF) H) (hD : va_D A (zwT adT adT_bytes cB cI cL sT ++ zwR adR adT cB cI cL sR ++ zwF adF adF_parts cB cI cL sF)) (hS : va_S A s.heap H locs) (ls : Array Slot) (hl : lv_has ls 4 []) : W p l e R s m args below meth c H locs 0 0 (MQ below (q_F_takeRangeCount dC dI cB cI cL A adT adT_bytes adR adF adF_parts sT a) args s 0 0 A) (F0 m 43 ls []) := by
  obtain ⟨hx, hb, hr, hml, hown, hts, hlocks, hRf, hRl⟩ := id X
  unfold g_F_takeRangeCount_43 at hG
  exact W.vret hx hb hr (fun t9 ht9 hW9 => ⟨⟨(sR, sF), rfl, Option.some.inj hG, by rw [ht9]; exact hP, hD⟩, hS.F ht9⟩) hS.2.2 d_F_takeRangeCount_43
set_option maxRecDepth 100000 in
set_option maxHeartbeats 4000000 in
theorem k_F_takeRangeCount_0 {p : Program} {l : Launch} {e : Env} {R : Room} {s : State} {m : MethodId} {args : Array Value} {below : List Frame} {meth : Method} {c : Code} {dC : Nat → ClassId} {dI : Nat → Nat → Nat} {cB cI cL : ClassId} {A : Nat → Prop} (X : zx p s m args meth c R R_F b_F_takeRangeCount none 4 3 70) (hA : ∀ q, s.heap.size ≤ q → A q) (zz : zk dC dI cB cI cL A s)  (N : Nat) (sT : zT) (sR : zR) (sF : zF) (a : zR × zF) (hG : g_F_takeRangeCount N sT sR sF = some a) (adT adT_bytes adR adF adF_parts : Nat) (H : Heap) (locs : List Loc) (hP : va_P (dC, dI) zcl (zwT adT adT_bytes cB cI cL sT ++ zwR adR adT cB cI cL sR ++ zwF adF adF_parts cB cI cL sF) H) (hD : va_D A (zwT adT adT_bytes cB cI cL sT ++ zwR adR adT cB cI cL sR ++ zwF adF adF_parts cB cI cL sF)) (hS : va_S A s.heap H locs) (ls : Array Slot) (hl : lv_has ls 4 [(0, .ref adF), (1, .ref adR)]) : W p l e R s m args below meth c H locs 0 0 (MQ below (q_F_takeRangeCount dC dI cB cI cL A adT adT_bytes adR adF adF_parts sT a) args s 0 0 A) (F0 m 0 ls []) := by
  obtain ⟨hx, hb, hr, hml, hown, hts, hlocks, hRf, hRl⟩ := id X
  unfold g_F_takeRangeCount at hG
  refine lv_aload_n hx hb d_F_takeRangeCount_0 rfl (lv_at hl 1 rfl) ?_
  obtain ⟨a_1, hx_1, hG⟩ := zb hG
  have hr_1 := zrunV (p := p) (e := e) (below := below) (meth := meth) (As := []) (rest := []) (st0 := [.ref adR]) (cells := 0) (slots := 0) X zz hP hD hS hA [0, 1, 2] (by decide) rfl (c_R_takeNumber l dC dI cB cI cL H.size adT adT_bytes adR N sT sR _ hx_1) zy_R_takeNumber zv_R_takeNumber (hts (.methodLink R_F 56 y_R_takeNumber) zin_F_56) hl rfl rfl d_F_takeRangeCount_1 (lv_room (Nat.le_of_ble_eq_true rfl)) rfl rfl ⟨Nat.le_trans (Nat.le_of_ble_eq_true rfl) hRf, Nat.le_trans (Nat.le_of_ble_eq_true rfl) hRl⟩ ⟨Nat.zero_le _, Nat.zero_le _⟩ 2 2 rfl rfl
  refine zcalll (wr := (zwF adF adF_parts cB cI cL sF)) hr_1 hP hD hS hA [0, 1, 2] [3, 4] rfl rfl (by decide) (by decide) (fun r_1 u_1 H locs hw_1 hP hD hS => ?_)
  obtain ⟨sR_1, rfl⟩ : ∃ z, z = u_1 := ⟨_, rfl⟩
  subst hw_1
  have hP : va_P (dC, dI) zcl (zwF adF adF_parts cB cI cL sF ++ zwT adT adT_bytes cB cI cL sT ++ zwR adR adT cB cI cL sR_1) H := hP
  have hD : va_D A (zwF adF adF_parts cB cI cL sF ++ zwT adT adT_bytes cB cI cL sT ++ zwR adR adT cB cI cL sR_1) := hD
  have hG : g_F_takeRangeCount_c1 N sT sF sR_1 r_1 = some a := hG
  unfold g_F_takeRangeCount_c1 at hG
  refine lv_lstore_n (lv' := [(2, .long r_1), (0, .ref adF), (1, .ref adR)]) hx hb d_F_takeRangeCount_4 rfl hl (by decide) rfl (fun ls hl => ?_)
  refine lv_aload_n hx hb d_F_takeRangeCount_5 rfl (lv_at hl 1 rfl) ?_
  refine lv_aload_n hx hb d_F_takeRangeCount_6 rfl (lv_at hl 2 rfl) ?_
  refine va_get (D := (dC, dI)) (ci := 2) (v := .int (zR_place sR_1)) (C := R_R) (T := F_R) (N := 4) hx hb hts zi_R hown zz.1 hP 4 rfl rfl 1 (by decide) (hts (.fieldLink R_F 18 "WireCodec$Reader" "place" "I") zin_F_18) (fun _ h9 => h9) rfl d_F_takeRangeCount_7 ?_
  refine va_put (D := (dC, dI)) (ci := 4) (v := .int (zR_place sR_1)) (ty := .int) (C := R_F) (T := F_F) (N := 7) hx hb hts zi_F zty_F zty_F_ok znm_F hown zz.1 hP hD hS 0 rfl rfl 4 (by decide) (hts (.fieldLink R_F 107 "WireCodec$Frame" "rangesPlace" "I") zin_F_107) (fun _ h9 => h9) rfl (by decide +kernel) rfl rfl (Nat.le_of_ble_eq_true rfl) d_F_takeRangeCount_10 (fun H locs hP hD hS => ?_)
  have hP : va_P (dC, dI) zcl (zwF adF adF_parts cB cI cL (zF_rangesPlace' sF (zR_place sR_1)) ++ zwT adT adT_bytes cB cI cL sT ++ zwR adR adT cB cI cL sR_1) H := hP
  have hD : va_D A (zwF adF adF_parts cB cI cL (zF_rangesPlace' sF (zR_place sR_1)) ++ zwT adT adT_bytes cB cI cL sT ++ zwR adR adT cB cI cL sR_1) := hD
  have hG : g_F_takeRangeCount_w10 N sT sR_1 r_1 (zF_rangesPlace' sF (zR_place sR_1)) = some a := hG
  generalize zF_rangesPlace' sF (zR_place sR_1) = sF_10 at hP hD hG
  unfold g_F_takeRangeCount_w10 at hG
  refine lv_lload_n hx hb d_F_takeRangeCount_13 rfl (lv_at hl 0 rfl) ?_
  refine lv_aload_n hx hb d_F_takeRangeCount_14 rfl (lv_at hl 2 rfl) ?_
  obtain ⟨a_15, hx_15, hG⟩ := zb hG
  have hr_15 := zrunV (p := p) (e := e) (below := below) (meth := meth) (As := []) (rest := [.long r_1]) (st0 := [.ref adR, .long r_1]) (cells := 0) (slots := 0) X zz hP hD hS hA [4] (by decide) rfl (c_R_left l dC dI cB cI cL H.size adR adT sR_1 _ hx_15) zy_R_left zv_R_left (hts (.methodLink R_F 104 y_R_left) zin_F_104) hl rfl rfl d_F_takeRangeCount_15 (lv_room (Nat.le_of_ble_eq_true rfl)) rfl rfl ⟨Nat.le_trans (Nat.le_of_ble_eq_true rfl) hRf, Nat.le_trans (Nat.le_of_ble_eq_true rfl) hRl⟩ ⟨Nat.zero_le _, Nat.zero_le _⟩ 0 2 rfl rfl
  refine zcalli (wr := (zwF adF adF_parts cB cI cL sF_10 ++ zwT adT adT_bytes cB cI cL sT)) hr_15 hP hD hS hA [4] [0, 1, 2, 3] rfl rfl (by decide) (by decide) (fun r_15 u_15 H locs hw_15 hP hD hS => ?_)
  subst hw_15
  have hP : va_P (dC, dI) zcl (zwF adF adF_parts cB cI cL sF_10 ++ zwT adT adT_bytes cB cI cL sT ++ zwR adR adT cB cI cL sR_1) H := hP
  have hD : va_D A (zwF adF adF_parts cB cI cL sF_10 ++ zwT adT adT_bytes cB cI cL sT ++ zwR adR adT cB cI cL sR_1) := hD
  have hG : g_F_takeRangeCount_c15 N sT sR_1 r_1 sF_10 r_15 = some a := hG
  unfold g_F_takeRangeCount_c15 at hG
  refine lv_iconst (v := (2 : Int32)) hx hb d_F_takeRangeCount_18 (by decide) ?_
  refine lv_idiv hx hb d_F_takeRangeCount_19 (by decide) ?_
  refine lv_i2l hx hb d_F_takeRangeCount_20 rfl ?_
  refine W.lcmp hx hb d_F_takeRangeCount_21 ?_
  refine lv_if_le (tgt := 33) hx hb d_F_takeRangeCount_22 (by decide) (fun hc => ?_) (fun hc => ?_)
  · have hG := zt hG hc
    refine lv_aload_n hx hb d_F_takeRangeCount_33 rfl (lv_at hl 1 rfl) ?_
    refine va_get (D := (dC, dI)) (ci := 4) (v := .ref adF_parts) (C := R_F) (T := F_F) (N := 7) hx hb hts zi_F hown zz.1 hP 0 rfl rfl 0 (by decide) (hts (.fieldLink R_F 9 "WireCodec$Frame" "parts" "[J") zin_F_9) (fun _ h9 => h9) rfl d_F_takeRangeCount_34 ?_
    refine lv_bipush (v := (6 : Int32)) hx hb d_F_takeRangeCount_37 (by decide) ?_
    refine lv_lload_n hx hb d_F_takeRangeCount_39 rfl (lv_at hl 0 rfl) ?_
    refine lv_lconst (v := (1 : Int64)) hx hb d_F_takeRangeCount_40 (by decide) ?_
    refine lv_ladd hx hb d_F_takeRangeCount_41 ?_
    obtain ⟨hin, hG⟩ := zgd hG
    refine va_last hx hb zz.1 hP hD hS 1 2 rfl rfl hin d_F_takeRangeCount_42 (fun H locs hP hD hS => ?_)
    have hP : va_P (dC, dI) zcl (zwF adF adF_parts cB cI cL (zF_parts' sF_10 (vp_updL (zF_parts sF_10) ((6 : Int32).toNatClampNeg) (r_1 + (1 : Int64)))) ++ zwT adT adT_bytes cB cI cL sT ++ zwR adR adT cB cI cL sR_1) H := hP
    have hD : va_D A (zwF adF adF_parts cB cI cL (zF_parts' sF_10 (vp_updL (zF_parts sF_10) ((6 : Int32).toNatClampNeg) (r_1 + (1 : Int64)))) ++ zwT adT adT_bytes cB cI cL sT ++ zwR adR adT cB cI cL sR_1) := hD
    have hG : g_F_takeRangeCount_w42 N sT sR_1 (zF_parts' sF_10 (vp_updL (zF_parts sF_10) ((6 : Int32).toNatClampNeg) (r_1 + (1 : Int64)))) = some a := hG
    generalize zF_parts' sF_10 (vp_updL (zF_parts sF_10) ((6 : Int32).toNatClampNeg) (r_1 + (1 : Int64))) = sF_42 at hP hD hG
    unfold g_F_takeRangeCount_w42 at hG
    exact k_F_takeRangeCount_43 X hA zz N sT sR_1 sF_42 _ hG adT adT_bytes adR adF adF_parts _ _ (hP.sub [2, 3, 4, 0, 1] rfl) (hD.sub [2, 3, 4, 0, 1] (by decide) rfl) hS _ (lv_sub hl [] rfl)
  · have hG := zf hG hc
    refine lv_aload_n hx hb d_F_takeRangeCount_25 rfl (lv_at hl 2 rfl) ?_
    refine lv_iconst (v := (1 : Int32)) hx hb d_F_takeRangeCount_26 (by decide) ?_
    refine va_put (D := (dC, dI)) (ci := 2) (v := .int (1 : Int32)) (ty := .boolean) (C := R_R) (T := F_R) (N := 4) hx hb hts zi_R zty_R zty_R_ok znm_R hown zz.1 hP hD hS 4 rfl rfl 3 (by decide) (hts (.fieldLink R_F 41 "WireCodec$Reader" "over" "Z") zin_F_41) (fun _ h9 => h9) rfl (by decide +kernel) rfl rfl (Nat.le_of_ble_eq_true rfl) d_F_takeRangeCount_27 (fun H locs hP hD hS => ?_)
    have hP : va_P (dC, dI) zcl (zwF adF adF_parts cB cI cL sF_10 ++ zwT adT adT_bytes cB cI cL sT ++ zwR adR adT cB cI cL (zR_over' sR_1 (1 : Int32))) H := hP
    have hD : va_D A (zwF adF adF_parts cB cI cL sF_10 ++ zwT adT adT_bytes cB cI cL sT ++ zwR adR adT cB cI cL (zR_over' sR_1 (1 : Int32))) := hD
    have hG : g_F_takeRangeCount_w27 N sT sF_10 (zR_over' sR_1 (1 : Int32)) = some a := hG
    generalize zR_over' sR_1 (1 : Int32) = sR_27 at hP hD hG
    unfold g_F_takeRangeCount_w27 at hG
    refine lv_goto (tgt := 43) hx hb d_F_takeRangeCount_30 (by decide) ?_
    exact k_F_takeRangeCount_43 X hA zz N sT sR_27 sF_10 _ hG adT adT_bytes adR adF adF_parts _ _ (hP.sub [2, 3, 4, 0, 1] rfl) (hD.sub [2, 3, 4, 0, 1] (by decide) rfl) hS _ (lv_sub hl [] rfl)
set_option maxRecDepth 100000 in
set_option maxHeartbeats 4000000 in
theorem c_F_takeRangeCount (l : Launch) (dC : Nat → ClassId) (dI : Nat → Nat → Nat) (cB cI cL : ClassId) (sz : Nat) (adT adT_bytes adR adF adF_parts : Nat) (N : Nat) (sT : zT) (sR : zR) (sF : zF) (a : zR × zF) (hG : g_F_takeRangeCount N sT sR sF = some a) : Met l y_F_takeRangeCount (zw y_F_takeRangeCount b_F_takeRangeCount 4 none) ({ frames := 3, cells := 0, slots := 0, locals := 70 }) (va_Pc [.ref adF, .ref adR] (zpre dC dI cB cI cL sz (zwT adT adT_bytes cB cI cL sT ++ zwR adR adT cB cI cL sR ++ zwF adF adF_parts cB cI cL sF))) (q_F_takeRangeCount dC dI cB cI cL (va_A (zwT adT adT_bytes cB cI cL sT ++ zwR adR adT cB cI cL sR ++ zwF adF adF_parts cB cI cL sF) sz) adT adT_bytes adR adF adF_parts sT a) 0 0 (va_A (zwT adT adT_bytes cB cI cL sT ++ zwR adR adT cB cI cL sR ++ zwF adF adF_parts cB cI cL sF) sz) := by
  refine Met.ofW (cc := b_F_takeRangeCount) (maxL := 4) (ret := none) (by decide) rfl ?_
  intro p e s m args below meth c s₁ B hml hv
  obtain ⟨rfl, hsz, hP, zz, hD0⟩ := hv
  subst hsz
  have X := zx_of (F := 3) (L := 70) B hml (Nat.le_refl _) (Nat.le_refl _)
  have hD := hD0.self (sz := s.heap.size)
  have hA : ∀ q : Nat, s.heap.size ≤ q → va_A (zwT adT adT_bytes cB cI cL sT ++ zwR adR adT cB cI cL sR ++ zwF adF adF_parts cB cI cL sF) s.heap.size q := fun q h => Or.inr h
  have hl := lv_entry ([.ref adF, .ref adR]) (n := 4) (Nat.le_of_ble_eq_true rfl)
  rw [lg_entry_eq]
  generalize (lg_sl ([.ref adF, .ref adR]) ++ List.replicate (4 - (lg_sl ([.ref adF, .ref adR])).length) Slot.unset).toArray = ls at hl ⊢
  exact k_F_takeRangeCount_0 X hA zz N sT sR sF a hG adT adT_bytes adR adF adF_parts _ _ hP hD va_S.rf ls hl
noncomputable def g_F_takeCounts_30 (N : Nat) (sT : zT) (sR : zR) (sF : zF) : Option (zR × zF) := some (sR, sF)
noncomputable def g_F_takeCounts_w23 (kr : zT → zR → zF → Int32 → Int32 → Option (zR × zF)) (sT : zT) (v2 : Int32) (v3 : Int32) (sR_20 : zR) (sF_23 : zF) : Option (zR × zF) := kr sT sR_20 sF_23 v2 (v3 + 1)
noncomputable def g_F_takeCounts_c20 (kr : zT → zR → zF → Int32 → Int32 → Option (zR × zF)) (sT : zT) (sF : zF) (v2 : Int32) (v3 : Int32) (sR_20 : zR) (r_20 : Int64) : Option (zR × zF) := zg (vp_in v3 12) (g_F_takeCounts_w23 kr sT v2 v3 sR_20 (zF_parts' sF (vp_updL (zF_parts sF) v3.toNatClampNeg r_20)))
noncomputable def g_F_takeCounts_3_b (N : Nat) (kr : zT → zR → zF → Int32 → Int32 → Option (zR × zF)) (sT : zT) (sR : zR) (sF : zF) (v2 : Int32) (v3 : Int32) : Option (zR × zF) := if v2 = (3 : Int32) then (if (12 : Int32) ≤ v3 then (g_F_takeCounts_30 N sT sR sF) else ((g_R_takeNumber N sT sR).bind (fun a => g_F_takeCounts_c20 kr sT sF v2 v3 a.2 a.1))) else (g_F_takeCounts_30 N sT sR sF)
noncomputable def g_F_takeCounts_3 (N : Nat) : Nat → zT → zR → zF → Int32 → Int32 → Option (zR × zF)
  | 0 => fun _ _ _ _ _ => none
  | k + 1 => fun sT sR sF v2 v3 => g_F_takeCounts_3_b N (g_F_takeCounts_3 N k) sT sR sF v2 v3
noncomputable def g_F_takeCounts (N : Nat) (sT : zT) (sR : zR) (sF : zF) (v2 : Int32) : Option (zR × zF) := g_F_takeCounts_3 N N sT sR sF v2 (9 : Int32)
def q_F_takeCounts (dC : Nat → ClassId) (dI : Nat → Nat → Nat) (cB cI cL : ClassId) (A : Nat → Prop) (adT : Nat) (adT_bytes : Nat) (adR : Nat) (adF : Nat) (adF_parts : Nat) (sT : zT) (a : zR × zF) : Array Value → State → Outcome → State → Prop := va_Qv (fun (u : zR × zF) => (u.1, u.2) = a) (fun u U => va_P (dC, dI) zcl (zwT adT adT_bytes cB cI cL sT ++ zwR adR adT cB cI cL u.1 ++ zwF adF adF_parts cB cI cL u.2) U.heap ∧ va_D A (zwT adT adT_bytes cB cI cL sT ++ zwR adR adT cB cI cL u.1 ++ zwF adF adF_parts cB cI cL u.2)) A
set_option maxRecDepth 100000 in
set_option maxHeartbeats 4000000 in
theorem k_F_takeCounts_30 {p : Program} {l : Launch} {e : Env} {R : Room} {s : State} {m : MethodId} {args : Array Value} {below : List Frame} {meth : Method} {c : Code} {dC : Nat → ClassId} {dI : Nat → Nat → Nat} {cB cI cL : ClassId} {A : Nat → Prop} (X : zx p s m args meth c R R_F b_F_takeCounts none 4 3 70) (hA : ∀ q, s.heap.size ≤ q → A q) (zz : zk dC dI cB cI cL A s)  (N : Nat) (sT : zT) (sR : zR) (sF : zF) (a : zR × zF) (hG : g_F_takeCounts_30 N sT sR sF = some a) (adT adT_bytes adR adF adF_parts : Nat) (H : Heap) (locs : List Loc) (hP : va_P (dC, dI) zcl (zwT adT adT_bytes cB cI cL sT ++ zwR adR adT cB cI cL sR ++ zwF adF adF_parts cB cI cL sF) H) (hD : va_D A (zwT adT adT_bytes cB cI cL sT ++ zwR adR adT cB cI cL sR ++ zwF adF adF_parts cB cI cL sF)) (hS : va_S A s.heap H locs) (ls : Array Slot) (hl : lv_has ls 4 []) : W p l e R s m args below meth c H locs 0 0 (MQ below (q_F_takeCounts dC dI cB cI cL A adT adT_bytes adR adF adF_parts sT a) args s 0 0 A) (F0 m 30 ls []) := by
  obtain ⟨hx, hb, hr, hml, hown, hts, hlocks, hRf, hRl⟩ := id X
  unfold g_F_takeCounts_30 at hG
  exact W.vret hx hb hr (fun t9 ht9 hW9 => ⟨⟨(sR, sF), rfl, Option.some.inj hG, by rw [ht9]; exact hP, hD⟩, hS.F ht9⟩) hS.2.2 d_F_takeCounts_30
set_option maxRecDepth 100000 in
set_option maxHeartbeats 4000000 in
theorem k_F_takeCounts_3_b {p : Program} {l : Launch} {e : Env} {R : Room} {s : State} {m : MethodId} {args : Array Value} {below : List Frame} {meth : Method} {c : Code} {dC : Nat → ClassId} {dI : Nat → Nat → Nat} {cB cI cL : ClassId} {A : Nat → Prop} (kr : zT → zR → zF → Int32 → Int32 → Option (zR × zF)) (hrec : ∀ (sT : zT) (sR : zR) (sF : zF) (v2 : Int32) (v3 : Int32) (a : zR × zF), kr sT sR sF v2 v3 = some a → ∀ (adT adT_bytes adR adF adF_parts : Nat) (H : Heap) (locs : List Loc), va_P (dC, dI) zcl (zwT adT adT_bytes cB cI cL sT ++ zwR adR adT cB cI cL sR ++ zwF adF adF_parts cB cI cL sF) H → va_D A (zwT adT adT_bytes cB cI cL sT ++ zwR adR adT cB cI cL sR ++ zwF adF adF_parts cB cI cL sF) → va_S A s.heap H locs → ∀ ls : Array Slot, lv_has ls 4 [(0, .ref adF), (1, .ref adR), (2, .int v2), (3, .int v3)] → W p l e R s m args below meth c H locs 0 0 (MQ below (q_F_takeCounts dC dI cB cI cL A adT adT_bytes adR adF adF_parts sT a) args s 0 0 A) (F0 m 3 ls [])) (X : zx p s m args meth c R R_F b_F_takeCounts none 4 3 70) (hA : ∀ q, s.heap.size ≤ q → A q) (zz : zk dC dI cB cI cL A s)  (N : Nat) (sT : zT) (sR : zR) (sF : zF) (v2 : Int32) (v3 : Int32) (a : zR × zF) (hG : g_F_takeCounts_3_b N kr sT sR sF v2 v3 = some a) (adT adT_bytes adR adF adF_parts : Nat) (H : Heap) (locs : List Loc) (hP : va_P (dC, dI) zcl (zwT adT adT_bytes cB cI cL sT ++ zwR adR adT cB cI cL sR ++ zwF adF adF_parts cB cI cL sF) H) (hD : va_D A (zwT adT adT_bytes cB cI cL sT ++ zwR adR adT cB cI cL sR ++ zwF adF adF_parts cB cI cL sF)) (hS : va_S A s.heap H locs) (ls : Array Slot) (hl : lv_has ls 4 [(0, .ref adF), (1, .ref adR), (2, .int v2), (3, .int v3)]) : W p l e R s m args below meth c H locs 0 0 (MQ below (q_F_takeCounts dC dI cB cI cL A adT adT_bytes adR adF adF_parts sT a) args s 0 0 A) (F0 m 3 ls []) := by
  obtain ⟨hx, hb, hr, hml, hown, hts, hlocks, hRf, hRl⟩ := id X
  unfold g_F_takeCounts_3_b at hG
  refine lv_iload_n hx hb d_F_takeCounts_3 rfl (lv_at hl 2 rfl) ?_
  refine lv_iconst (v := (3 : Int32)) hx hb d_F_takeCounts_4 (by decide) ?_
  refine lv_icmp_ne (tgt := 30) hx hb d_F_takeCounts_5 (by decide) (fun hc => ?_) (fun hc => ?_)
  · have hG := zf hG hc
    exact k_F_takeCounts_30 X hA zz N sT sR sF _ hG adT adT_bytes adR adF adF_parts _ _ hP hD hS _ (lv_sub hl [] rfl)
  · have hG := zt hG hc
    refine lv_iload_n hx hb d_F_takeCounts_8 rfl (lv_at hl 3 rfl) ?_
    refine lv_bipush (v := (12 : Int32)) hx hb d_F_takeCounts_9 (by decide) ?_
    refine lv_icmp_ge (tgt := 30) hx hb d_F_takeCounts_11 (by decide) (fun hc => ?_) (fun hc => ?_)
    · have hG := zt hG hc
      exact k_F_takeCounts_30 X hA zz N sT sR sF _ hG adT adT_bytes adR adF adF_parts _ _ hP hD hS _ (lv_sub hl [] rfl)
    · have hG := zf hG hc
      refine lv_aload_n hx hb d_F_takeCounts_14 rfl (lv_at hl 0 rfl) ?_
      refine va_get (D := (dC, dI)) (ci := 4) (v := .ref adF_parts) (C := R_F) (T := F_F) (N := 7) hx hb hts zi_F hown zz.1 hP 3 rfl rfl 0 (by decide) (hts (.fieldLink R_F 9 "WireCodec$Frame" "parts" "[J") zin_F_9) (fun _ h9 => h9) rfl d_F_takeCounts_15 ?_
      refine lv_iload_n hx hb d_F_takeCounts_18 rfl (lv_at hl 3 rfl) ?_
      refine lv_aload_n hx hb d_F_takeCounts_19 rfl (lv_at hl 1 rfl) ?_
      obtain ⟨a_20, hx_20, hG⟩ := zb hG
      have hr_20 := zrunV (p := p) (e := e) (below := below) (meth := meth) (As := []) (rest := [.int v3, .ref adF_parts]) (st0 := [.ref adR, .int v3, .ref adF_parts]) (cells := 0) (slots := 0) X zz hP hD hS hA [0, 1, 2] (by decide) rfl (c_R_takeNumber l dC dI cB cI cL H.size adT adT_bytes adR N sT sR _ hx_20) zy_R_takeNumber zv_R_takeNumber (hts (.methodLink R_F 56 y_R_takeNumber) zin_F_56) hl rfl rfl d_F_takeCounts_20 (lv_room (Nat.le_of_ble_eq_true rfl)) rfl rfl ⟨Nat.le_trans (Nat.le_of_ble_eq_true rfl) hRf, Nat.le_trans (Nat.le_of_ble_eq_true rfl) hRl⟩ ⟨Nat.zero_le _, Nat.zero_le _⟩ 2 2 rfl rfl
      refine zcalll (wr := (zwF adF adF_parts cB cI cL sF)) hr_20 hP hD hS hA [0, 1, 2] [3, 4] rfl rfl (by decide) (by decide) (fun r_20 u_20 H locs hw_20 hP hD hS => ?_)
      obtain ⟨sR_20, rfl⟩ : ∃ z, z = u_20 := ⟨_, rfl⟩
      subst hw_20
      have hP : va_P (dC, dI) zcl (zwF adF adF_parts cB cI cL sF ++ zwT adT adT_bytes cB cI cL sT ++ zwR adR adT cB cI cL sR_20) H := hP
      have hD : va_D A (zwF adF adF_parts cB cI cL sF ++ zwT adT adT_bytes cB cI cL sT ++ zwR adR adT cB cI cL sR_20) := hD
      have hG : g_F_takeCounts_c20 kr sT sF v2 v3 sR_20 r_20 = some a := hG
      unfold g_F_takeCounts_c20 at hG
      obtain ⟨hin, hG⟩ := zgd hG
      refine va_last hx hb zz.1 hP hD hS 1 2 rfl rfl hin d_F_takeCounts_23 (fun H locs hP hD hS => ?_)
      have hP : va_P (dC, dI) zcl (zwF adF adF_parts cB cI cL (zF_parts' sF (vp_updL (zF_parts sF) v3.toNatClampNeg r_20)) ++ zwT adT adT_bytes cB cI cL sT ++ zwR adR adT cB cI cL sR_20) H := hP
      have hD : va_D A (zwF adF adF_parts cB cI cL (zF_parts' sF (vp_updL (zF_parts sF) v3.toNatClampNeg r_20)) ++ zwT adT adT_bytes cB cI cL sT ++ zwR adR adT cB cI cL sR_20) := hD
      have hG : g_F_takeCounts_w23 kr sT v2 v3 sR_20 (zF_parts' sF (vp_updL (zF_parts sF) v3.toNatClampNeg r_20)) = some a := hG
      generalize zF_parts' sF (vp_updL (zF_parts sF) v3.toNatClampNeg r_20) = sF_23 at hP hD hG
      unfold g_F_takeCounts_w23 at hG
      refine lv_iinc (v := v3 + 1) (lv' := [(3, .int (v3 + 1)), (0, .ref adF), (1, .ref adR), (2, .int v2)]) hx hb d_F_takeCounts_24 hl (k := 3) rfl rfl (by decide) rfl (fun ls hl => ?_)
      refine lv_goto (tgt := 3) hx hb d_F_takeCounts_27 (by decide) ?_
      exact hrec sT sR_20 sF_23 v2 (v3 + 1) _ hG adT adT_bytes adR adF adF_parts _ _ (hP.sub [2, 3, 4, 0, 1] rfl) (hD.sub [2, 3, 4, 0, 1] (by decide) rfl) hS _ (lv_sub hl [1, 2, 3, 0] rfl)
theorem k_F_takeCounts_3 {p : Program} {l : Launch} {e : Env} {R : Room} {s : State} {m : MethodId} {args : Array Value} {below : List Frame} {meth : Method} {c : Code} {dC : Nat → ClassId} {dI : Nat → Nat → Nat} {cB cI cL : ClassId} {A : Nat → Prop} (X : zx p s m args meth c R R_F b_F_takeCounts none 4 3 70) (hA : ∀ q, s.heap.size ≤ q → A q) (zz : zk dC dI cB cI cL A s)  (N : Nat) : ∀ (k : Nat) (sT : zT) (sR : zR) (sF : zF) (v2 : Int32) (v3 : Int32) (a : zR × zF) (hG : g_F_takeCounts_3 N k sT sR sF v2 v3 = some a) (adT adT_bytes adR adF adF_parts : Nat) (H : Heap) (locs : List Loc) (hP : va_P (dC, dI) zcl (zwT adT adT_bytes cB cI cL sT ++ zwR adR adT cB cI cL sR ++ zwF adF adF_parts cB cI cL sF) H) (hD : va_D A (zwT adT adT_bytes cB cI cL sT ++ zwR adR adT cB cI cL sR ++ zwF adF adF_parts cB cI cL sF)) (hS : va_S A s.heap H locs) (ls : Array Slot) (hl : lv_has ls 4 [(0, .ref adF), (1, .ref adR), (2, .int v2), (3, .int v3)]), W p l e R s m args below meth c H locs 0 0 (MQ below (q_F_takeCounts dC dI cB cI cL A adT adT_bytes adR adF adF_parts sT a) args s 0 0 A) (F0 m 3 ls []) := by
  intro k
  induction k with
  | zero => intro sT sR sF v2 v3 a hG; exact absurd hG (by unfold g_F_takeCounts_3; simp)
  | succ k ih => intro sT sR sF v2 v3 a hG adT adT_bytes adR adF adF_parts H locs hP hD hS ls hl; exact k_F_takeCounts_3_b _ ih X hA zz N sT sR sF v2 v3 a hG adT adT_bytes adR adF adF_parts H locs hP hD hS ls hl
set_option maxRecDepth 100000 in
set_option maxHeartbeats 4000000 in
theorem k_F_takeCounts_0 {p : Program} {l : Launch} {e : Env} {R : Room} {s : State} {m : MethodId} {args : Array Value} {below : List Frame} {meth : Method} {c : Code} {dC : Nat → ClassId} {dI : Nat → Nat → Nat} {cB cI cL : ClassId} {A : Nat → Prop} (X : zx p s m args meth c R R_F b_F_takeCounts none 4 3 70) (hA : ∀ q, s.heap.size ≤ q → A q) (zz : zk dC dI cB cI cL A s)  (N : Nat) (sT : zT) (sR : zR) (sF : zF) (v2 : Int32) (a : zR × zF) (hG : g_F_takeCounts N sT sR sF v2 = some a) (adT adT_bytes adR adF adF_parts : Nat) (H : Heap) (locs : List Loc) (hP : va_P (dC, dI) zcl (zwT adT adT_bytes cB cI cL sT ++ zwR adR adT cB cI cL sR ++ zwF adF adF_parts cB cI cL sF) H) (hD : va_D A (zwT adT adT_bytes cB cI cL sT ++ zwR adR adT cB cI cL sR ++ zwF adF adF_parts cB cI cL sF)) (hS : va_S A s.heap H locs) (ls : Array Slot) (hl : lv_has ls 4 [(0, .ref adF), (1, .ref adR), (2, .int v2)]) : W p l e R s m args below meth c H locs 0 0 (MQ below (q_F_takeCounts dC dI cB cI cL A adT adT_bytes adR adF adF_parts sT a) args s 0 0 A) (F0 m 0 ls []) := by
  obtain ⟨hx, hb, hr, hml, hown, hts, hlocks, hRf, hRl⟩ := id X
  unfold g_F_takeCounts at hG
  refine lv_bipush (v := (9 : Int32)) hx hb d_F_takeCounts_0 (by decide) ?_
  refine lv_istore_n (lv' := [(3, .int (9 : Int32)), (0, .ref adF), (1, .ref adR), (2, .int v2)]) hx hb d_F_takeCounts_2 rfl hl (by decide) rfl (fun ls hl => ?_)
  exact k_F_takeCounts_3 X hA zz N N sT sR sF v2 (9 : Int32) _ hG adT adT_bytes adR adF adF_parts _ _ hP hD hS _ (lv_sub hl [1, 2, 3, 0] rfl)
set_option maxRecDepth 100000 in
set_option maxHeartbeats 4000000 in
theorem c_F_takeCounts (l : Launch) (dC : Nat → ClassId) (dI : Nat → Nat → Nat) (cB cI cL : ClassId) (sz : Nat) (adT adT_bytes adR adF adF_parts : Nat) (N : Nat) (sT : zT) (sR : zR) (sF : zF) (v2 : Int32) (a : zR × zF) (hG : g_F_takeCounts N sT sR sF v2 = some a) : Met l y_F_takeCounts (zw y_F_takeCounts b_F_takeCounts 4 none) ({ frames := 3, cells := 0, slots := 0, locals := 70 }) (va_Pc [.ref adF, .ref adR, .int v2] (zpre dC dI cB cI cL sz (zwT adT adT_bytes cB cI cL sT ++ zwR adR adT cB cI cL sR ++ zwF adF adF_parts cB cI cL sF))) (q_F_takeCounts dC dI cB cI cL (va_A (zwT adT adT_bytes cB cI cL sT ++ zwR adR adT cB cI cL sR ++ zwF adF adF_parts cB cI cL sF) sz) adT adT_bytes adR adF adF_parts sT a) 0 0 (va_A (zwT adT adT_bytes cB cI cL sT ++ zwR adR adT cB cI cL sR ++ zwF adF adF_parts cB cI cL sF) sz) := by
  refine Met.ofW (cc := b_F_takeCounts) (maxL := 4) (ret := none) (by decide) rfl ?_
  intro p e s m args below meth c s₁ B hml hv
  obtain ⟨rfl, hsz, hP, zz, hD0⟩ := hv
  subst hsz
  have X := zx_of (F := 3) (L := 70) B hml (Nat.le_refl _) (Nat.le_refl _)
  have hD := hD0.self (sz := s.heap.size)
  have hA : ∀ q : Nat, s.heap.size ≤ q → va_A (zwT adT adT_bytes cB cI cL sT ++ zwR adR adT cB cI cL sR ++ zwF adF adF_parts cB cI cL sF) s.heap.size q := fun q h => Or.inr h
  have hl := lv_entry ([.ref adF, .ref adR, .int v2]) (n := 4) (Nat.le_of_ble_eq_true rfl)
  rw [lg_entry_eq]
  generalize (lg_sl ([.ref adF, .ref adR, .int v2]) ++ List.replicate (4 - (lg_sl ([.ref adF, .ref adR, .int v2])).length) Slot.unset).toArray = ls at hl ⊢
  exact k_F_takeCounts_0 X hA zz N sT sR sF v2 a hG adT adT_bytes adR adF adF_parts _ _ hP hD va_S.rf ls hl
noncomputable def g_H_parseTokenAndLength_86 (N : Nat) (sT : zT) (sR : zR) (sH : zH) (s0 : Int32) : Option (Int32 × zR × zH) := some (s0, sR, sH)
noncomputable def g_H_parseTokenAndLength_81 (N : Nat) (sT : zT) (sR : zR) (sH : zH) : Option (Int32 × zR × zH) := g_H_parseTokenAndLength_86 N sT sR sH (1 : Int32)
noncomputable def g_H_parseTokenAndLength_w65 (N : Nat) (sT : zT) (r_36 : Int64) (sR_52 : zR) (sH_65 : zH) : Option (Int32 × zR × zH) := if (zR_over sR_52) = (0 : Int32) then (if (0 : Int32) ≤ (lg_cmp r_36 (20 : Int64)) then (g_H_parseTokenAndLength_86 N sT sR_52 sH_65 (0 : Int32)) else (g_H_parseTokenAndLength_81 N sT sR_52 sH_65)) else (g_H_parseTokenAndLength_81 N sT sR_52 sH_65)
noncomputable def g_H_parseTokenAndLength_c52 (N : Nat) (sT : zT) (r_36 : Int64) (sH_49 : zH) (sR_52 : zR) : Option (Int32 × zR × zH) := zg (vp_in (5 : Int32) 12) (g_H_parseTokenAndLength_w65 N sT r_36 sR_52 (zH_parts' sH_49 (upd (zH_parts sH_49) ((5 : Int32).toNatClampNeg) (zR_place sR_52))))
noncomputable def g_H_parseTokenAndLength_w49 (N : Nat) (sT : zT) (sR_36 : zR) (r_36 : Int64) (sH_49 : zH) : Option (Int32 × zR × zH) := (g_R_takeBytes sR_36 r_36).bind (fun a => g_H_parseTokenAndLength_c52 N sT r_36 sH_49 a.2)
noncomputable def g_H_parseTokenAndLength_c36 (N : Nat) (sT : zT) (sH : zH) (sR_36 : zR) (r_36 : Int64) : Option (Int32 × zR × zH) := zg (vp_in (4 : Int32) 12) (g_H_parseTokenAndLength_w49 N sT sR_36 r_36 (zH_parts' sH (upd (zH_parts sH) ((4 : Int32).toNatClampNeg) (zR_place sR_36))))
noncomputable def g_H_parseTokenAndLength_35 (N : Nat) (sT : zT) (sR : zR) (sH : zH) : Option (Int32 × zR × zH) := (g_R_takeNumber N sT sR).bind (fun a => g_H_parseTokenAndLength_c36 N sT sH a.2 a.1)
noncomputable def g_H_parseTokenAndLength_w34 (N : Nat) (sT : zT) (sR_22 : zR) (sH_34 : zH) : Option (Int32 × zR × zH) := g_H_parseTokenAndLength_35 N sT sR_22 sH_34
noncomputable def g_H_parseTokenAndLength_w25 (N : Nat) (sT : zT) (r_10 : Int64) (sR_22 : zR) (sH_25 : zH) : Option (Int32 × zR × zH) := zg (vp_in (11 : Int32) 12) (g_H_parseTokenAndLength_w34 N sT sR_22 (zH_parts' sH_25 (upd (zH_parts sH_25) ((11 : Int32).toNatClampNeg) r_10.toInt32)))
noncomputable def g_H_parseTokenAndLength_c22 (N : Nat) (sT : zT) (sH : zH) (r_10 : Int64) (sR_22 : zR) (r_22 : Int32) : Option (Int32 × zR × zH) := zg (vp_in (10 : Int32) 12) (g_H_parseTokenAndLength_w25 N sT r_10 sR_22 (zH_parts' sH (upd (zH_parts sH) ((10 : Int32).toNatClampNeg) r_22)))
noncomputable def g_H_parseTokenAndLength_c10 (N : Nat) (sT : zT) (sH : zH) (sR_10 : zR) (r_10 : Int64) : Option (Int32 × zR × zH) := (g_R_takeBytes sR_10 r_10).bind (fun a => g_H_parseTokenAndLength_c22 N sT sH r_10 a.2 a.1)
noncomputable def g_H_parseTokenAndLength (N : Nat) (sT : zT) (sR : zR) (sH : zH) : Option (Int32 × zR × zH) := zg (vp_in (0 : Int32) 12) (if ((zH_parts sH) (0 : Int32).toNatClampNeg) = (0 : Int32) then ((g_R_takeNumber N sT sR).bind (fun a => g_H_parseTokenAndLength_c10 N sT sH a.2 a.1)) else (g_H_parseTokenAndLength_35 N sT sR sH))
def q_H_parseTokenAndLength (dC : Nat → ClassId) (dI : Nat → Nat → Nat) (cB cI cL : ClassId) (A : Nat → Prop) (adT : Nat) (adT_bytes : Nat) (adR : Nat) (adH : Nat) (adH_parts : Nat) (sT : zT) (a : Int32 × zR × zH) : Array Value → State → Outcome → State → Prop := va_Qi (fun (r : Int32) (u : zR × zH) => (r, u.1, u.2) = a) (fun u U => va_P (dC, dI) zcl (zwT adT adT_bytes cB cI cL sT ++ zwR adR adT cB cI cL u.1 ++ zwH adH adH_parts cB cI cL u.2) U.heap ∧ va_D A (zwT adT adT_bytes cB cI cL sT ++ zwR adR adT cB cI cL u.1 ++ zwH adH adH_parts cB cI cL u.2)) A
set_option maxRecDepth 100000 in
set_option maxHeartbeats 4000000 in
theorem k_H_parseTokenAndLength_86 {p : Program} {l : Launch} {e : Env} {R : Room} {s : State} {m : MethodId} {args : Array Value} {below : List Frame} {meth : Method} {c : Code} {dC : Nat → ClassId} {dI : Nat → Nat → Nat} {cB cI cL : ClassId} {A : Nat → Prop} (X : zx p s m args meth c R R_H b_H_parseTokenAndLength (some .int) 4 3 70) (hA : ∀ q, s.heap.size ≤ q → A q) (zz : zk dC dI cB cI cL A s)  (N : Nat) (sT : zT) (sR : zR) (sH : zH) (s0 : Int32) (a : Int32 × zR × zH) (hG : g_H_parseTokenAndLength_86 N sT sR sH s0 = some a) (adT adT_bytes adR adH adH_parts : Nat) (H : Heap) (locs : List Loc) (hP : va_P (dC, dI) zcl (zwT adT adT_bytes cB cI cL sT ++ zwR adR adT cB cI cL sR ++ zwH adH adH_parts cB cI cL sH) H) (hD : va_D A (zwT adT adT_bytes cB cI cL sT ++ zwR adR adT cB cI cL sR ++ zwH adH adH_parts cB cI cL sH)) (hS : va_S A s.heap H locs) (ls : Array Slot) (hl : lv_has ls 4 []) : W p l e R s m args below meth c H locs 0 0 (MQ below (q_H_parseTokenAndLength dC dI cB cI cL A adT adT_bytes adR adH adH_parts sT a) args s 0 0 A) (F0 m 86 ls [.int s0]) := by
  obtain ⟨hx, hb, hr, hml, hown, hts, hlocks, hRf, hRl⟩ := id X
  unfold g_H_parseTokenAndLength_86 at hG
  exact W.iret (v := s0) hx hb hr (fun t9 ht9 hW9 => ⟨⟨s0, (sR, sH), rfl, Option.some.inj hG, by rw [ht9]; exact hP, hD⟩, hS.F ht9⟩) hS.2.2 d_H_parseTokenAndLength_86
set_option maxRecDepth 100000 in
set_option maxHeartbeats 4000000 in
theorem k_H_parseTokenAndLength_81 {p : Program} {l : Launch} {e : Env} {R : Room} {s : State} {m : MethodId} {args : Array Value} {below : List Frame} {meth : Method} {c : Code} {dC : Nat → ClassId} {dI : Nat → Nat → Nat} {cB cI cL : ClassId} {A : Nat → Prop} (X : zx p s m args meth c R R_H b_H_parseTokenAndLength (some .int) 4 3 70) (hA : ∀ q, s.heap.size ≤ q → A q) (zz : zk dC dI cB cI cL A s)  (N : Nat) (sT : zT) (sR : zR) (sH : zH) (a : Int32 × zR × zH) (hG : g_H_parseTokenAndLength_81 N sT sR sH = some a) (adT adT_bytes adR adH adH_parts : Nat) (H : Heap) (locs : List Loc) (hP : va_P (dC, dI) zcl (zwT adT adT_bytes cB cI cL sT ++ zwR adR adT cB cI cL sR ++ zwH adH adH_parts cB cI cL sH) H) (hD : va_D A (zwT adT adT_bytes cB cI cL sT ++ zwR adR adT cB cI cL sR ++ zwH adH adH_parts cB cI cL sH)) (hS : va_S A s.heap H locs) (ls : Array Slot) (hl : lv_has ls 4 []) : W p l e R s m args below meth c H locs 0 0 (MQ below (q_H_parseTokenAndLength dC dI cB cI cL A adT adT_bytes adR adH adH_parts sT a) args s 0 0 A) (F0 m 81 ls []) := by
  obtain ⟨hx, hb, hr, hml, hown, hts, hlocks, hRf, hRl⟩ := id X
  unfold g_H_parseTokenAndLength_81 at hG
  refine lv_iconst (v := (1 : Int32)) hx hb d_H_parseTokenAndLength_81 (by decide) ?_
  refine lv_goto (tgt := 86) hx hb d_H_parseTokenAndLength_82 (by decide) ?_
  exact k_H_parseTokenAndLength_86 X hA zz N sT sR sH (1 : Int32) _ hG adT adT_bytes adR adH adH_parts _ _ hP hD hS _ (lv_sub hl [] rfl)
set_option maxRecDepth 100000 in
set_option maxHeartbeats 4000000 in
theorem k_H_parseTokenAndLength_35 {p : Program} {l : Launch} {e : Env} {R : Room} {s : State} {m : MethodId} {args : Array Value} {below : List Frame} {meth : Method} {c : Code} {dC : Nat → ClassId} {dI : Nat → Nat → Nat} {cB cI cL : ClassId} {A : Nat → Prop} (X : zx p s m args meth c R R_H b_H_parseTokenAndLength (some .int) 4 3 70) (hA : ∀ q, s.heap.size ≤ q → A q) (zz : zk dC dI cB cI cL A s)  (N : Nat) (sT : zT) (sR : zR) (sH : zH) (a : Int32 × zR × zH) (hG : g_H_parseTokenAndLength_35 N sT sR sH = some a) (adT adT_bytes adR adH adH_parts : Nat) (H : Heap) (locs : List Loc) (hP : va_P (dC, dI) zcl (zwT adT adT_bytes cB cI cL sT ++ zwR adR adT cB cI cL sR ++ zwH adH adH_parts cB cI cL sH) H) (hD : va_D A (zwT adT adT_bytes cB cI cL sT ++ zwR adR adT cB cI cL sR ++ zwH adH adH_parts cB cI cL sH)) (hS : va_S A s.heap H locs) (ls : Array Slot) (hl : lv_has ls 4 [(0, .ref adH), (1, .ref adR)]) : W p l e R s m args below meth c H locs 0 0 (MQ below (q_H_parseTokenAndLength dC dI cB cI cL A adT adT_bytes adR adH adH_parts sT a) args s 0 0 A) (F0 m 35 ls []) := by
  obtain ⟨hx, hb, hr, hml, hown, hts, hlocks, hRf, hRl⟩ := id X
  unfold g_H_parseTokenAndLength_35 at hG
  refine lv_aload_n hx hb d_H_parseTokenAndLength_35 rfl (lv_at hl 1 rfl) ?_
  obtain ⟨a_36, hx_36, hG⟩ := zb hG
  have hr_36 := zrunV (p := p) (e := e) (below := below) (meth := meth) (As := []) (rest := []) (st0 := [.ref adR]) (cells := 0) (slots := 0) X zz hP hD hS hA [0, 1, 2] (by decide) rfl (c_R_takeNumber l dC dI cB cI cL H.size adT adT_bytes adR N sT sR _ hx_36) zy_R_takeNumber zv_R_takeNumber (hts (.methodLink R_H 67 y_R_takeNumber) zin_H_67) hl rfl rfl d_H_parseTokenAndLength_36 (lv_room (Nat.le_of_ble_eq_true rfl)) rfl rfl ⟨Nat.le_trans (Nat.le_of_ble_eq_true rfl) hRf, Nat.le_trans (Nat.le_of_ble_eq_true rfl) hRl⟩ ⟨Nat.zero_le _, Nat.zero_le _⟩ 2 2 rfl rfl
  refine zcalll (wr := (zwH adH adH_parts cB cI cL sH)) hr_36 hP hD hS hA [0, 1, 2] [3, 4] rfl rfl (by decide) (by decide) (fun r_36 u_36 H locs hw_36 hP hD hS => ?_)
  obtain ⟨sR_36, rfl⟩ : ∃ z, z = u_36 := ⟨_, rfl⟩
  subst hw_36
  have hP : va_P (dC, dI) zcl (zwH adH adH_parts cB cI cL sH ++ zwT adT adT_bytes cB cI cL sT ++ zwR adR adT cB cI cL sR_36) H := hP
  have hD : va_D A (zwH adH adH_parts cB cI cL sH ++ zwT adT adT_bytes cB cI cL sT ++ zwR adR adT cB cI cL sR_36) := hD
  have hG : g_H_parseTokenAndLength_c36 N sT sH sR_36 r_36 = some a := hG
  unfold g_H_parseTokenAndLength_c36 at hG
  refine lv_lstore_n (lv' := [(2, .long r_36), (0, .ref adH), (1, .ref adR)]) hx hb d_H_parseTokenAndLength_39 rfl hl (by decide) rfl (fun ls hl => ?_)
  refine lv_aload_n hx hb d_H_parseTokenAndLength_40 rfl (lv_at hl 1 rfl) ?_
  refine va_get (D := (dC, dI)) (ci := 5) (v := .ref adH_parts) (C := R_H) (T := F_H) (N := 1) hx hb hts zi_H hown zz.1 hP 0 rfl rfl 0 (by decide) (hts (.fieldLink R_H 9 "WireCodec$Header" "parts" "[I") zin_H_9) (fun _ h9 => h9) rfl d_H_parseTokenAndLength_41 ?_
  refine lv_iconst (v := (4 : Int32)) hx hb d_H_parseTokenAndLength_44 (by decide) ?_
  refine lv_aload_n hx hb d_H_parseTokenAndLength_45 rfl (lv_at hl 2 rfl) ?_
  refine va_get (D := (dC, dI)) (ci := 2) (v := .int (zR_place sR_36)) (C := R_R) (T := F_R) (N := 4) hx hb hts zi_R hown zz.1 hP 4 rfl rfl 1 (by decide) (hts (.fieldLink R_H 21 "WireCodec$Reader" "place" "I") zin_H_21) (fun _ h9 => h9) rfl d_H_parseTokenAndLength_46 ?_
  obtain ⟨hin, hG⟩ := zgd hG
  refine va_iast hx hb zz.1 hP hD hS 1 1 rfl rfl hin d_H_parseTokenAndLength_49 (fun H locs hP hD hS => ?_)
  have hP : va_P (dC, dI) zcl (zwH adH adH_parts cB cI cL (zH_parts' sH (upd (zH_parts sH) ((4 : Int32).toNatClampNeg) (zR_place sR_36))) ++ zwT adT adT_bytes cB cI cL sT ++ zwR adR adT cB cI cL sR_36) H := hP
  have hD : va_D A (zwH adH adH_parts cB cI cL (zH_parts' sH (upd (zH_parts sH) ((4 : Int32).toNatClampNeg) (zR_place sR_36))) ++ zwT adT adT_bytes cB cI cL sT ++ zwR adR adT cB cI cL sR_36) := hD
  have hG : g_H_parseTokenAndLength_w49 N sT sR_36 r_36 (zH_parts' sH (upd (zH_parts sH) ((4 : Int32).toNatClampNeg) (zR_place sR_36))) = some a := hG
  generalize zH_parts' sH (upd (zH_parts sH) ((4 : Int32).toNatClampNeg) (zR_place sR_36)) = sH_49 at hP hD hG
  unfold g_H_parseTokenAndLength_w49 at hG
  refine lv_aload_n hx hb d_H_parseTokenAndLength_50 rfl (lv_at hl 2 rfl) ?_
  refine lv_lload_n hx hb d_H_parseTokenAndLength_51 rfl (lv_at hl 0 rfl) ?_
  obtain ⟨a_52, hx_52, hG⟩ := zb hG
  have hr_52 := zrunV (p := p) (e := e) (below := below) (meth := meth) (As := [.long r_36]) (rest := []) (st0 := [.long r_36, .ref adR]) (cells := 0) (slots := 0) X zz hP hD hS hA [4] (by decide) rfl (c_R_takeBytes l dC dI cB cI cL H.size adR adT sR_36 r_36 _ hx_52) zy_R_takeBytes zv_R_takeBytes (hts (.methodLink R_H 49 y_R_takeBytes) zin_H_49) hl rfl rfl d_H_parseTokenAndLength_52 (lv_room (Nat.le_of_ble_eq_true rfl)) rfl rfl ⟨Nat.le_trans (Nat.le_of_ble_eq_true rfl) hRf, Nat.le_trans (Nat.le_of_ble_eq_true rfl) hRl⟩ ⟨Nat.zero_le _, Nat.zero_le _⟩ 0 2 rfl rfl
  refine zcalli (wr := (zwH adH adH_parts cB cI cL sH_49 ++ zwT adT adT_bytes cB cI cL sT)) hr_52 hP hD hS hA [4] [0, 1, 2, 3] rfl rfl (by decide) (by decide) (fun r_52 u_52 H locs hw_52 hP hD hS => ?_)
  obtain ⟨sR_52, rfl⟩ : ∃ z, z = u_52 := ⟨_, rfl⟩
  subst hw_52
  have hP : va_P (dC, dI) zcl (zwH adH adH_parts cB cI cL sH_49 ++ zwT adT adT_bytes cB cI cL sT ++ zwR adR adT cB cI cL sR_52) H := hP
  have hD : va_D A (zwH adH adH_parts cB cI cL sH_49 ++ zwT adT adT_bytes cB cI cL sT ++ zwR adR adT cB cI cL sR_52) := hD
  have hG : g_H_parseTokenAndLength_c52 N sT r_36 sH_49 sR_52 = some a := hG
  unfold g_H_parseTokenAndLength_c52 at hG
  refine lv_pop hx hb d_H_parseTokenAndLength_55 rfl ?_
  refine lv_aload_n hx hb d_H_parseTokenAndLength_56 rfl (lv_at hl 1 rfl) ?_
  refine va_get (D := (dC, dI)) (ci := 5) (v := .ref adH_parts) (C := R_H) (T := F_H) (N := 1) hx hb hts zi_H hown zz.1 hP 0 rfl rfl 0 (by decide) (hts (.fieldLink R_H 9 "WireCodec$Header" "parts" "[I") zin_H_9) (fun _ h9 => h9) rfl d_H_parseTokenAndLength_57 ?_
  refine lv_iconst (v := (5 : Int32)) hx hb d_H_parseTokenAndLength_60 (by decide) ?_
  refine lv_aload_n hx hb d_H_parseTokenAndLength_61 rfl (lv_at hl 2 rfl) ?_
  refine va_get (D := (dC, dI)) (ci := 2) (v := .int (zR_place sR_52)) (C := R_R) (T := F_R) (N := 4) hx hb hts zi_R hown zz.1 hP 4 rfl rfl 1 (by decide) (hts (.fieldLink R_H 21 "WireCodec$Reader" "place" "I") zin_H_21) (fun _ h9 => h9) rfl d_H_parseTokenAndLength_62 ?_
  obtain ⟨hin, hG⟩ := zgd hG
  refine va_iast hx hb zz.1 hP hD hS 1 1 rfl rfl hin d_H_parseTokenAndLength_65 (fun H locs hP hD hS => ?_)
  have hP : va_P (dC, dI) zcl (zwH adH adH_parts cB cI cL (zH_parts' sH_49 (upd (zH_parts sH_49) ((5 : Int32).toNatClampNeg) (zR_place sR_52))) ++ zwT adT adT_bytes cB cI cL sT ++ zwR adR adT cB cI cL sR_52) H := hP
  have hD : va_D A (zwH adH adH_parts cB cI cL (zH_parts' sH_49 (upd (zH_parts sH_49) ((5 : Int32).toNatClampNeg) (zR_place sR_52))) ++ zwT adT adT_bytes cB cI cL sT ++ zwR adR adT cB cI cL sR_52) := hD
  have hG : g_H_parseTokenAndLength_w65 N sT r_36 sR_52 (zH_parts' sH_49 (upd (zH_parts sH_49) ((5 : Int32).toNatClampNeg) (zR_place sR_52))) = some a := hG
  generalize zH_parts' sH_49 (upd (zH_parts sH_49) ((5 : Int32).toNatClampNeg) (zR_place sR_52)) = sH_65 at hP hD hG
  unfold g_H_parseTokenAndLength_w65 at hG
  refine lv_aload_n hx hb d_H_parseTokenAndLength_66 rfl (lv_at hl 2 rfl) ?_
  refine va_get (D := (dC, dI)) (ci := 2) (v := .int (zR_over sR_52)) (C := R_R) (T := F_R) (N := 4) hx hb hts zi_R hown zz.1 hP 4 rfl rfl 3 (by decide) (hts (.fieldLink R_H 31 "WireCodec$Reader" "over" "Z") zin_H_31) (fun _ h9 => h9) rfl d_H_parseTokenAndLength_67 ?_
  refine lv_if_ne (tgt := 81) hx hb d_H_parseTokenAndLength_70 (by decide) (fun hc => ?_) (fun hc => ?_)
  · have hG := zf hG hc
    exact k_H_parseTokenAndLength_81 X hA zz N sT sR_52 sH_65 _ hG adT adT_bytes adR adH adH_parts _ _ (hP.sub [2, 3, 4, 0, 1] rfl) (hD.sub [2, 3, 4, 0, 1] (by decide) rfl) hS _ (lv_sub hl [] rfl)
  · have hG := zt hG hc
    refine lv_lload_n hx hb d_H_parseTokenAndLength_73 rfl (lv_at hl 0 rfl) ?_
    refine lv_ldc2 (v := (20 : Int64)) hx hb hown (hts (.constantLong R_H 71 (20 : Int64)) zin_H_71) d_H_parseTokenAndLength_74 ?_
    refine W.lcmp hx hb d_H_parseTokenAndLength_77 ?_
    refine lv_if_ge (tgt := 85) hx hb d_H_parseTokenAndLength_78 (by decide) (fun hc => ?_) (fun hc => ?_)
    · have hG := zt hG hc
      refine lv_iconst (v := (0 : Int32)) hx hb d_H_parseTokenAndLength_85 (by decide) ?_
      exact k_H_parseTokenAndLength_86 X hA zz N sT sR_52 sH_65 (0 : Int32) _ hG adT adT_bytes adR adH adH_parts _ _ (hP.sub [2, 3, 4, 0, 1] rfl) (hD.sub [2, 3, 4, 0, 1] (by decide) rfl) hS _ (lv_sub hl [] rfl)
    · have hG := zf hG hc
      exact k_H_parseTokenAndLength_81 X hA zz N sT sR_52 sH_65 _ hG adT adT_bytes adR adH adH_parts _ _ (hP.sub [2, 3, 4, 0, 1] rfl) (hD.sub [2, 3, 4, 0, 1] (by decide) rfl) hS _ (lv_sub hl [] rfl)
set_option maxRecDepth 100000 in
set_option maxHeartbeats 4000000 in
theorem k_H_parseTokenAndLength_0 {p : Program} {l : Launch} {e : Env} {R : Room} {s : State} {m : MethodId} {args : Array Value} {below : List Frame} {meth : Method} {c : Code} {dC : Nat → ClassId} {dI : Nat → Nat → Nat} {cB cI cL : ClassId} {A : Nat → Prop} (X : zx p s m args meth c R R_H b_H_parseTokenAndLength (some .int) 4 3 70) (hA : ∀ q, s.heap.size ≤ q → A q) (zz : zk dC dI cB cI cL A s)  (N : Nat) (sT : zT) (sR : zR) (sH : zH) (a : Int32 × zR × zH) (hG : g_H_parseTokenAndLength N sT sR sH = some a) (adT adT_bytes adR adH adH_parts : Nat) (H : Heap) (locs : List Loc) (hP : va_P (dC, dI) zcl (zwT adT adT_bytes cB cI cL sT ++ zwR adR adT cB cI cL sR ++ zwH adH adH_parts cB cI cL sH) H) (hD : va_D A (zwT adT adT_bytes cB cI cL sT ++ zwR adR adT cB cI cL sR ++ zwH adH adH_parts cB cI cL sH)) (hS : va_S A s.heap H locs) (ls : Array Slot) (hl : lv_has ls 4 [(0, .ref adH), (1, .ref adR)]) : W p l e R s m args below meth c H locs 0 0 (MQ below (q_H_parseTokenAndLength dC dI cB cI cL A adT adT_bytes adR adH adH_parts sT a) args s 0 0 A) (F0 m 0 ls []) := by
  obtain ⟨hx, hb, hr, hml, hown, hts, hlocks, hRf, hRl⟩ := id X
  unfold g_H_parseTokenAndLength at hG
  refine lv_aload_n hx hb d_H_parseTokenAndLength_0 rfl (lv_at hl 0 rfl) ?_
  refine va_get (D := (dC, dI)) (ci := 5) (v := .ref adH_parts) (C := R_H) (T := F_H) (N := 1) hx hb hts zi_H hown zz.1 hP 3 rfl rfl 0 (by decide) (hts (.fieldLink R_H 9 "WireCodec$Header" "parts" "[I") zin_H_9) (fun _ h9 => h9) rfl d_H_parseTokenAndLength_1 ?_
  refine lv_iconst (v := (0 : Int32)) hx hb d_H_parseTokenAndLength_4 (by decide) ?_
  obtain ⟨hin, hG⟩ := zgd hG
  refine va_iald hx hb zz.1 hP 4 1 rfl rfl hin d_H_parseTokenAndLength_5 ?_
  refine lv_if_ne (tgt := 35) hx hb d_H_parseTokenAndLength_6 (by decide) (fun hc => ?_) (fun hc => ?_)
  · have hG := zf hG hc
    exact k_H_parseTokenAndLength_35 X hA zz N sT sR sH _ hG adT adT_bytes adR adH adH_parts _ _ hP hD hS _ (lv_sub hl [0, 1] rfl)
  · have hG := zt hG hc
    refine lv_aload_n hx hb d_H_parseTokenAndLength_9 rfl (lv_at hl 1 rfl) ?_
    obtain ⟨a_10, hx_10, hG⟩ := zb hG
    have hr_10 := zrunV (p := p) (e := e) (below := below) (meth := meth) (As := []) (rest := []) (st0 := [.ref adR]) (cells := 0) (slots := 0) X zz hP hD hS hA [0, 1, 2] (by decide) rfl (c_R_takeNumber l dC dI cB cI cL H.size adT adT_bytes adR N sT sR _ hx_10) zy_R_takeNumber zv_R_takeNumber (hts (.methodLink R_H 67 y_R_takeNumber) zin_H_67) hl rfl rfl d_H_parseTokenAndLength_10 (lv_room (Nat.le_of_ble_eq_true rfl)) rfl rfl ⟨Nat.le_trans (Nat.le_of_ble_eq_true rfl) hRf, Nat.le_trans (Nat.le_of_ble_eq_true rfl) hRl⟩ ⟨Nat.zero_le _, Nat.zero_le _⟩ 2 2 rfl rfl
    refine zcalll (wr := (zwH adH adH_parts cB cI cL sH)) hr_10 hP hD hS hA [0, 1, 2] [3, 4] rfl rfl (by decide) (by decide) (fun r_10 u_10 H locs hw_10 hP hD hS => ?_)
    obtain ⟨sR_10, rfl⟩ : ∃ z, z = u_10 := ⟨_, rfl⟩
    subst hw_10
    have hP : va_P (dC, dI) zcl (zwH adH adH_parts cB cI cL sH ++ zwT adT adT_bytes cB cI cL sT ++ zwR adR adT cB cI cL sR_10) H := hP
    have hD : va_D A (zwH adH adH_parts cB cI cL sH ++ zwT adT adT_bytes cB cI cL sT ++ zwR adR adT cB cI cL sR_10) := hD
    have hG : g_H_parseTokenAndLength_c10 N sT sH sR_10 r_10 = some a := hG
    unfold g_H_parseTokenAndLength_c10 at hG
    refine lv_lstore_n (lv' := [(2, .long r_10), (0, .ref adH), (1, .ref adR)]) hx hb d_H_parseTokenAndLength_13 rfl hl (by decide) rfl (fun ls hl => ?_)
    refine lv_aload_n hx hb d_H_parseTokenAndLength_14 rfl (lv_at hl 1 rfl) ?_
    refine va_get (D := (dC, dI)) (ci := 5) (v := .ref adH_parts) (C := R_H) (T := F_H) (N := 1) hx hb hts zi_H hown zz.1 hP 0 rfl rfl 0 (by decide) (hts (.fieldLink R_H 9 "WireCodec$Header" "parts" "[I") zin_H_9) (fun _ h9 => h9) rfl d_H_parseTokenAndLength_15 ?_
    refine lv_bipush (v := (10 : Int32)) hx hb d_H_parseTokenAndLength_18 (by decide) ?_
    refine lv_aload_n hx hb d_H_parseTokenAndLength_20 rfl (lv_at hl 2 rfl) ?_
    refine lv_lload_n hx hb d_H_parseTokenAndLength_21 rfl (lv_at hl 0 rfl) ?_
    obtain ⟨a_22, hx_22, hG⟩ := zb hG
    have hr_22 := zrunV (p := p) (e := e) (below := below) (meth := meth) (As := [.long r_10]) (rest := [.int (10 : Int32), .ref adH_parts]) (st0 := [.long r_10, .ref adR, .int (10 : Int32), .ref adH_parts]) (cells := 0) (slots := 0) X zz hP hD hS hA [4] (by decide) rfl (c_R_takeBytes l dC dI cB cI cL H.size adR adT sR_10 r_10 _ hx_22) zy_R_takeBytes zv_R_takeBytes (hts (.methodLink R_H 49 y_R_takeBytes) zin_H_49) hl rfl rfl d_H_parseTokenAndLength_22 (lv_room (Nat.le_of_ble_eq_true rfl)) rfl rfl ⟨Nat.le_trans (Nat.le_of_ble_eq_true rfl) hRf, Nat.le_trans (Nat.le_of_ble_eq_true rfl) hRl⟩ ⟨Nat.zero_le _, Nat.zero_le _⟩ 0 2 rfl rfl
    refine zcalli (wr := (zwH adH adH_parts cB cI cL sH ++ zwT adT adT_bytes cB cI cL sT)) hr_22 hP hD hS hA [4] [0, 1, 2, 3] rfl rfl (by decide) (by decide) (fun r_22 u_22 H locs hw_22 hP hD hS => ?_)
    obtain ⟨sR_22, rfl⟩ : ∃ z, z = u_22 := ⟨_, rfl⟩
    subst hw_22
    have hP : va_P (dC, dI) zcl (zwH adH adH_parts cB cI cL sH ++ zwT adT adT_bytes cB cI cL sT ++ zwR adR adT cB cI cL sR_22) H := hP
    have hD : va_D A (zwH adH adH_parts cB cI cL sH ++ zwT adT adT_bytes cB cI cL sT ++ zwR adR adT cB cI cL sR_22) := hD
    have hG : g_H_parseTokenAndLength_c22 N sT sH r_10 sR_22 r_22 = some a := hG
    unfold g_H_parseTokenAndLength_c22 at hG
    obtain ⟨hin, hG⟩ := zgd hG
    refine va_iast hx hb zz.1 hP hD hS 1 1 rfl rfl hin d_H_parseTokenAndLength_25 (fun H locs hP hD hS => ?_)
    have hP : va_P (dC, dI) zcl (zwH adH adH_parts cB cI cL (zH_parts' sH (upd (zH_parts sH) ((10 : Int32).toNatClampNeg) r_22)) ++ zwT adT adT_bytes cB cI cL sT ++ zwR adR adT cB cI cL sR_22) H := hP
    have hD : va_D A (zwH adH adH_parts cB cI cL (zH_parts' sH (upd (zH_parts sH) ((10 : Int32).toNatClampNeg) r_22)) ++ zwT adT adT_bytes cB cI cL sT ++ zwR adR adT cB cI cL sR_22) := hD
    have hG : g_H_parseTokenAndLength_w25 N sT r_10 sR_22 (zH_parts' sH (upd (zH_parts sH) ((10 : Int32).toNatClampNeg) r_22)) = some a := hG
    generalize zH_parts' sH (upd (zH_parts sH) ((10 : Int32).toNatClampNeg) r_22) = sH_25 at hP hD hG
    unfold g_H_parseTokenAndLength_w25 at hG
    refine lv_aload_n hx hb d_H_parseTokenAndLength_26 rfl (lv_at hl 1 rfl) ?_
    refine va_get (D := (dC, dI)) (ci := 5) (v := .ref adH_parts) (C := R_H) (T := F_H) (N := 1) hx hb hts zi_H hown zz.1 hP 0 rfl rfl 0 (by decide) (hts (.fieldLink R_H 9 "WireCodec$Header" "parts" "[I") zin_H_9) (fun _ h9 => h9) rfl d_H_parseTokenAndLength_27 ?_
    refine lv_bipush (v := (11 : Int32)) hx hb d_H_parseTokenAndLength_30 (by decide) ?_
    refine lv_lload_n hx hb d_H_parseTokenAndLength_32 rfl (lv_at hl 0 rfl) ?_
    refine lv_l2i hx hb d_H_parseTokenAndLength_33 rfl ?_
    obtain ⟨hin, hG⟩ := zgd hG
    refine va_iast hx hb zz.1 hP hD hS 1 1 rfl rfl hin d_H_parseTokenAndLength_34 (fun H locs hP hD hS => ?_)
    have hP : va_P (dC, dI) zcl (zwH adH adH_parts cB cI cL (zH_parts' sH_25 (upd (zH_parts sH_25) ((11 : Int32).toNatClampNeg) r_10.toInt32)) ++ zwT adT adT_bytes cB cI cL sT ++ zwR adR adT cB cI cL sR_22) H := hP
    have hD : va_D A (zwH adH adH_parts cB cI cL (zH_parts' sH_25 (upd (zH_parts sH_25) ((11 : Int32).toNatClampNeg) r_10.toInt32)) ++ zwT adT adT_bytes cB cI cL sT ++ zwR adR adT cB cI cL sR_22) := hD
    have hG : g_H_parseTokenAndLength_w34 N sT sR_22 (zH_parts' sH_25 (upd (zH_parts sH_25) ((11 : Int32).toNatClampNeg) r_10.toInt32)) = some a := hG
    generalize zH_parts' sH_25 (upd (zH_parts sH_25) ((11 : Int32).toNatClampNeg) r_10.toInt32) = sH_34 at hP hD hG
    unfold g_H_parseTokenAndLength_w34 at hG
    exact k_H_parseTokenAndLength_35 X hA zz N sT sR_22 sH_34 _ hG adT adT_bytes adR adH adH_parts _ _ (hP.sub [2, 3, 4, 0, 1] rfl) (hD.sub [2, 3, 4, 0, 1] (by decide) rfl) hS _ (lv_sub hl [1, 2] rfl)
set_option maxRecDepth 100000 in
set_option maxHeartbeats 4000000 in
theorem c_H_parseTokenAndLength (l : Launch) (dC : Nat → ClassId) (dI : Nat → Nat → Nat) (cB cI cL : ClassId) (sz : Nat) (adT adT_bytes adR adH adH_parts : Nat) (N : Nat) (sT : zT) (sR : zR) (sH : zH) (a : Int32 × zR × zH) (hG : g_H_parseTokenAndLength N sT sR sH = some a) : Met l y_H_parseTokenAndLength (zw y_H_parseTokenAndLength b_H_parseTokenAndLength 4 (some .int)) ({ frames := 3, cells := 0, slots := 0, locals := 70 }) (va_Pc [.ref adH, .ref adR] (zpre dC dI cB cI cL sz (zwT adT adT_bytes cB cI cL sT ++ zwR adR adT cB cI cL sR ++ zwH adH adH_parts cB cI cL sH))) (q_H_parseTokenAndLength dC dI cB cI cL (va_A (zwT adT adT_bytes cB cI cL sT ++ zwR adR adT cB cI cL sR ++ zwH adH adH_parts cB cI cL sH) sz) adT adT_bytes adR adH adH_parts sT a) 0 0 (va_A (zwT adT adT_bytes cB cI cL sT ++ zwR adR adT cB cI cL sR ++ zwH adH adH_parts cB cI cL sH) sz) := by
  refine Met.ofW (cc := b_H_parseTokenAndLength) (maxL := 4) (ret := (some .int)) (by decide) rfl ?_
  intro p e s m args below meth c s₁ B hml hv
  obtain ⟨rfl, hsz, hP, zz, hD0⟩ := hv
  subst hsz
  have X := zx_of (F := 3) (L := 70) B hml (Nat.le_refl _) (Nat.le_refl _)
  have hD := hD0.self (sz := s.heap.size)
  have hA : ∀ q : Nat, s.heap.size ≤ q → va_A (zwT adT adT_bytes cB cI cL sT ++ zwR adR adT cB cI cL sR ++ zwH adH adH_parts cB cI cL sH) s.heap.size q := fun q h => Or.inr h
  have hl := lv_entry ([.ref adH, .ref adR]) (n := 4) (Nat.le_of_ble_eq_true rfl)
  rw [lg_entry_eq]
  generalize (lg_sl ([.ref adH, .ref adR]) ++ List.replicate (4 - (lg_sl ([.ref adH, .ref adR])).length) Slot.unset).toArray = ls at hl ⊢
  exact k_H_parseTokenAndLength_0 X hA zz N sT sR sH a hG adT adT_bytes adR adH adH_parts _ _ hP hD va_S.rf ls hl
noncomputable def g_P_parseNext_42 (N : Nat) (sT : zT) (sR : zR) (sP : zP) : Option (Int32 × zR × zP) := some ((0 : Int32), sR, sP)
noncomputable def g_P_parseNext_127 (N : Nat) (sT : zT) (sR : zR) (sP : zP) : Option (Int32 × zR × zP) := some ((3 : Int32), sR, sP)
noncomputable def g_P_parseNext_w159 (sR : zR) (sP_159 : zP) : Option (Int32 × zR × zP) := some ((0 : Int32), sR, sP_159)
noncomputable def g_P_parseNext_159 (N : Nat) (sT : zT) (sR : zR) (sP : zP) (s0 : Int64) (s1 : Int32) : Option (Int32 × zR × zP) := zg (vp_in s1 17) (g_P_parseNext_w159 sR (zP_values' sP (vp_updL (zP_values sP) s1.toNatClampNeg s0)))
noncomputable def g_P_parseNext_w137 (N : Nat) (sT : zT) (sR : zR) (v8 : Int32) (s0 : Int64) (sP_137 : zP) : Option (Int32 × zR × zP) := if v8 = (12 : Int32) then (g_P_parseNext_159 N sT sR sP_137 (1 : Int64) v8) else (g_P_parseNext_159 N sT sR sP_137 s0 v8)
noncomputable def g_P_parseNext_101 (N : Nat) (sT : zT) (sR : zR) (sP : zP) (v8 : Int32) (v9 : Int32) (s0 : Int64) : Option (Int32 × zR × zP) := zg (vp_in v8 17) (if (lg_cmp s0 (zsL v8.toNatClampNeg)) < (0 : Int32) then (g_P_parseNext_127 N sT sR sP) else (zg (vp_in v8 17) (if (lg_cmp s0 (zsM v8.toNatClampNeg)) ≤ (0 : Int32) then (g_P_parseNext_w137 N sT sR v8 s0 (zP_seen' sP ((zP_seen sP) ||| v9))) else (g_P_parseNext_127 N sT sR sP))))
noncomputable def g_P_parseNext_c98 (N : Nat) (sT : zT) (sR : zR) (sP : zP) (v8 : Int32) (v9 : Int32) (r_98 : Int64) : Option (Int32 × zR × zP) := g_P_parseNext_101 N sT sR sP v8 v9 r_98
noncomputable def g_P_parseNext_80 (N : Nat) (sT : zT) (sR : zR) (sP : zP) (v5 : Int64) (v7 : Int32) (v8 : Int32) (v9 : Int32) : Option (Int32 × zR × zP) := if ((110597 : Int32) &&& v9) = (0 : Int32) then ((g_R_numberOfAll N sT sR v7 v5).bind (fun a => g_P_parseNext_c98 N sT sR sP v8 v9 a)) else (g_P_parseNext_101 N sT sR sP v8 v9 v5)
noncomputable def g_P_parseNext_c14 (N : Nat) (sT : zT) (sP : zP) (v2 : Int32) (r_1 : Int64) (r_6 : Int64) (sR_14 : zR) (r_14 : Int32) : Option (Int32 × zR × zP) := if (zR_over sR_14) = (0 : Int32) then (if (lg_cmp r_1 (0 : Int64)) < (0 : Int32) then (g_P_parseNext_42 N sT sR_14 sP) else (if (lg_cmp r_1 (16 : Int64)) ≤ (0 : Int32) then (if ((zP_seen sP) &&& ((1 : Int32) <<< (r_1.toInt32 &&& 31))) = (0 : Int32) then (if v2 = (0 : Int32) then (if ((73733 : Int32) &&& ((1 : Int32) <<< (r_1.toInt32 &&& 31))) = (0 : Int32) then (g_P_parseNext_80 N sT sR_14 sP r_6 r_14 r_1.toInt32 ((1 : Int32) <<< (r_1.toInt32 &&& 31))) else (some ((4 : Int32), sR_14, sP))) else (g_P_parseNext_80 N sT sR_14 sP r_6 r_14 r_1.toInt32 ((1 : Int32) <<< (r_1.toInt32 &&& 31)))) else (some ((2 : Int32), sR_14, sP))) else (g_P_parseNext_42 N sT sR_14 sP))) else (some ((1 : Int32), sR_14, sP))
noncomputable def g_P_parseNext_c6 (N : Nat) (sT : zT) (sP : zP) (v2 : Int32) (r_1 : Int64) (sR_6 : zR) (r_6 : Int64) : Option (Int32 × zR × zP) := (g_R_takeBytes sR_6 r_6).bind (fun a => g_P_parseNext_c14 N sT sP v2 r_1 r_6 a.2 a.1)
noncomputable def g_P_parseNext_c1 (N : Nat) (sT : zT) (sP : zP) (v2 : Int32) (sR_1 : zR) (r_1 : Int64) : Option (Int32 × zR × zP) := (g_R_takeNumber N sT sR_1).bind (fun a => g_P_parseNext_c6 N sT sP v2 r_1 a.2 a.1)
noncomputable def g_P_parseNext (N : Nat) (sT : zT) (sR : zR) (sP : zP) (v2 : Int32) : Option (Int32 × zR × zP) := (g_R_takeNumber N sT sR).bind (fun a => g_P_parseNext_c1 N sT sP v2 a.2 a.1)
def q_P_parseNext (dC : Nat → ClassId) (dI : Nat → Nat → Nat) (cB cI cL : ClassId) (A : Nat → Prop) (adT : Nat) (adT_bytes : Nat) (adR : Nat) (adP : Nat) (adP_values : Nat) (sT : zT) (a : Int32 × zR × zP) : Array Value → State → Outcome → State → Prop := va_Qi (fun (r : Int32) (u : zR × zP) => (r, u.1, u.2) = a) (fun u U => va_P (dC, dI) zcl (zwT adT adT_bytes cB cI cL sT ++ zwR adR adT cB cI cL u.1 ++ zwP adP adP_values cB cI cL u.2) U.heap ∧ va_D A (zwT adT adT_bytes cB cI cL sT ++ zwR adR adT cB cI cL u.1 ++ zwP adP adP_values cB cI cL u.2)) A
set_option maxRecDepth 100000 in
set_option maxHeartbeats 4000000 in
theorem k_P_parseNext_42 {p : Program} {l : Launch} {e : Env} {R : Room} {s : State} {m : MethodId} {args : Array Value} {below : List Frame} {meth : Method} {c : Code} {dC : Nat → ClassId} {dI : Nat → Nat → Nat} {cB cI cL : ClassId} {A : Nat → Prop} (X : zx p s m args meth c R R_P b_P_parseNext (some .int) 12 3 70) (hA : ∀ q, s.heap.size ≤ q → A q) (zz : zk dC dI cB cI cL A s)  (N : Nat) (sT : zT) (sR : zR) (sP : zP) (a : Int32 × zR × zP) (hG : g_P_parseNext_42 N sT sR sP = some a) (adT adT_bytes adR adP adP_values : Nat) (H : Heap) (locs : List Loc) (hP : va_P (dC, dI) zcl (zwT adT adT_bytes cB cI cL sT ++ zwR adR adT cB cI cL sR ++ zwP adP adP_values cB cI cL sP) H) (hD : va_D A (zwT adT adT_bytes cB cI cL sT ++ zwR adR adT cB cI cL sR ++ zwP adP adP_values cB cI cL sP)) (hS : va_S A s.heap H locs) (ls : Array Slot) (hl : lv_has ls 12 []) : W p l e R s m args below meth c H locs 0 0 (MQ below (q_P_parseNext dC dI cB cI cL A adT adT_bytes adR adP adP_values sT a) args s 0 0 A) (F0 m 42 ls []) := by
  obtain ⟨hx, hb, hr, hml, hown, hts, hlocks, hRf, hRl⟩ := id X
  unfold g_P_parseNext_42 at hG
  refine lv_iconst (v := (0 : Int32)) hx hb d_P_parseNext_42 (by decide) ?_
  exact W.iret (v := (0 : Int32)) hx hb hr (fun t9 ht9 hW9 => ⟨⟨(0 : Int32), (sR, sP), rfl, Option.some.inj hG, by rw [ht9]; exact hP, hD⟩, hS.F ht9⟩) hS.2.2 d_P_parseNext_43
set_option maxRecDepth 100000 in
set_option maxHeartbeats 4000000 in
theorem k_P_parseNext_127 {p : Program} {l : Launch} {e : Env} {R : Room} {s : State} {m : MethodId} {args : Array Value} {below : List Frame} {meth : Method} {c : Code} {dC : Nat → ClassId} {dI : Nat → Nat → Nat} {cB cI cL : ClassId} {A : Nat → Prop} (X : zx p s m args meth c R R_P b_P_parseNext (some .int) 12 3 70) (hA : ∀ q, s.heap.size ≤ q → A q) (zz : zk dC dI cB cI cL A s)  (N : Nat) (sT : zT) (sR : zR) (sP : zP) (a : Int32 × zR × zP) (hG : g_P_parseNext_127 N sT sR sP = some a) (adT adT_bytes adR adP adP_values : Nat) (H : Heap) (locs : List Loc) (hP : va_P (dC, dI) zcl (zwT adT adT_bytes cB cI cL sT ++ zwR adR adT cB cI cL sR ++ zwP adP adP_values cB cI cL sP) H) (hD : va_D A (zwT adT adT_bytes cB cI cL sT ++ zwR adR adT cB cI cL sR ++ zwP adP adP_values cB cI cL sP)) (hS : va_S A s.heap H locs) (ls : Array Slot) (hl : lv_has ls 12 []) : W p l e R s m args below meth c H locs 0 0 (MQ below (q_P_parseNext dC dI cB cI cL A adT adT_bytes adR adP adP_values sT a) args s 0 0 A) (F0 m 127 ls []) := by
  obtain ⟨hx, hb, hr, hml, hown, hts, hlocks, hRf, hRl⟩ := id X
  unfold g_P_parseNext_127 at hG
  refine lv_iconst (v := (3 : Int32)) hx hb d_P_parseNext_127 (by decide) ?_
  exact W.iret (v := (3 : Int32)) hx hb hr (fun t9 ht9 hW9 => ⟨⟨(3 : Int32), (sR, sP), rfl, Option.some.inj hG, by rw [ht9]; exact hP, hD⟩, hS.F ht9⟩) hS.2.2 d_P_parseNext_128
set_option maxRecDepth 100000 in
set_option maxHeartbeats 4000000 in
theorem k_P_parseNext_159 {p : Program} {l : Launch} {e : Env} {R : Room} {s : State} {m : MethodId} {args : Array Value} {below : List Frame} {meth : Method} {c : Code} {dC : Nat → ClassId} {dI : Nat → Nat → Nat} {cB cI cL : ClassId} {A : Nat → Prop} (X : zx p s m args meth c R R_P b_P_parseNext (some .int) 12 3 70) (hA : ∀ q, s.heap.size ≤ q → A q) (zz : zk dC dI cB cI cL A s)  (N : Nat) (sT : zT) (sR : zR) (sP : zP) (s0 : Int64) (s1 : Int32) (a : Int32 × zR × zP) (hG : g_P_parseNext_159 N sT sR sP s0 s1 = some a) (adT adT_bytes adR adP adP_values : Nat) (H : Heap) (locs : List Loc) (hP : va_P (dC, dI) zcl (zwT adT adT_bytes cB cI cL sT ++ zwR adR adT cB cI cL sR ++ zwP adP adP_values cB cI cL sP) H) (hD : va_D A (zwT adT adT_bytes cB cI cL sT ++ zwR adR adT cB cI cL sR ++ zwP adP adP_values cB cI cL sP)) (hS : va_S A s.heap H locs) (ls : Array Slot) (hl : lv_has ls 12 []) : W p l e R s m args below meth c H locs 0 0 (MQ below (q_P_parseNext dC dI cB cI cL A adT adT_bytes adR adP adP_values sT a) args s 0 0 A) (F0 m 159 ls [.long s0, .int s1, .ref adP_values]) := by
  obtain ⟨hx, hb, hr, hml, hown, hts, hlocks, hRf, hRl⟩ := id X
  unfold g_P_parseNext_159 at hG
  obtain ⟨hin, hG⟩ := zgd hG
  refine va_last hx hb zz.1 hP hD hS 4 2 rfl rfl hin d_P_parseNext_159 (fun H locs hP hD hS => ?_)
  have hP : va_P (dC, dI) zcl (zwT adT adT_bytes cB cI cL sT ++ zwR adR adT cB cI cL sR ++ zwP adP adP_values cB cI cL (zP_values' sP (vp_updL (zP_values sP) s1.toNatClampNeg s0))) H := hP
  have hD : va_D A (zwT adT adT_bytes cB cI cL sT ++ zwR adR adT cB cI cL sR ++ zwP adP adP_values cB cI cL (zP_values' sP (vp_updL (zP_values sP) s1.toNatClampNeg s0))) := hD
  have hG : g_P_parseNext_w159 sR (zP_values' sP (vp_updL (zP_values sP) s1.toNatClampNeg s0)) = some a := hG
  generalize zP_values' sP (vp_updL (zP_values sP) s1.toNatClampNeg s0) = sP_159 at hP hD hG
  unfold g_P_parseNext_w159 at hG
  refine lv_iconst (v := (0 : Int32)) hx hb d_P_parseNext_160 (by decide) ?_
  exact W.iret (v := (0 : Int32)) hx hb hr (fun t9 ht9 hW9 => ⟨⟨(0 : Int32), (sR, sP_159), rfl, Option.some.inj hG, by rw [ht9]; exact hP, hD⟩, hS.F ht9⟩) hS.2.2 d_P_parseNext_161
set_option maxRecDepth 100000 in
set_option maxHeartbeats 4000000 in
theorem k_P_parseNext_101 {p : Program} {l : Launch} {e : Env} {R : Room} {s : State} {m : MethodId} {args : Array Value} {below : List Frame} {meth : Method} {c : Code} {dC : Nat → ClassId} {dI : Nat → Nat → Nat} {cB cI cL : ClassId} {A : Nat → Prop} (X : zx p s m args meth c R R_P b_P_parseNext (some .int) 12 3 70) (hA : ∀ q, s.heap.size ≤ q → A q) (zz : zk dC dI cB cI cL A s)  (N : Nat) (sT : zT) (sR : zR) (sP : zP) (v8 : Int32) (v9 : Int32) (s0 : Int64) (a : Int32 × zR × zP) (hG : g_P_parseNext_101 N sT sR sP v8 v9 s0 = some a) (adT adT_bytes adR adP adP_values : Nat) (H : Heap) (locs : List Loc) (hP : va_P (dC, dI) zcl (zwT adT adT_bytes cB cI cL sT ++ zwR adR adT cB cI cL sR ++ zwP adP adP_values cB cI cL sP) H) (hD : va_D A (zwT adT adT_bytes cB cI cL sT ++ zwR adR adT cB cI cL sR ++ zwP adP adP_values cB cI cL sP)) (hS : va_S A s.heap H locs) (ls : Array Slot) (hl : lv_has ls 12 [(0, .ref adP), (8, .int v8), (9, .int v9)]) : W p l e R s m args below meth c H locs 0 0 (MQ below (q_P_parseNext dC dI cB cI cL A adT adT_bytes adR adP adP_values sT a) args s 0 0 A) (F0 m 101 ls [.long s0]) := by
  obtain ⟨hx, hb, hr, hml, hown, hts, hlocks, hRf, hRl⟩ := id X
  unfold g_P_parseNext_101 at hG
  refine lv_lstore (lv' := [(10, .long s0), (0, .ref adP), (8, .int v8), (9, .int v9)]) hx hb d_P_parseNext_101 hl (by decide) rfl (fun ls hl => ?_)
  refine lv_lload hx hb d_P_parseNext_103 (lv_at hl 0 rfl) ?_
  obtain ⟨adS_LEAST, hZ_LEAST, hT_LEAST, hE_LEAST⟩ := zz.2.2.1.2.2.1
  refine va_gets hx hb hZ_LEAST hS hown (hts (.fieldLink R_P 56 "WireCodec$Parameters" "LEAST" "[J") zin_P_56) (fun _ h9 => h9) d_P_parseNext_105 ?_
  refine lv_iload hx hb d_P_parseNext_108 (lv_at hl 2 rfl) ?_
  obtain ⟨hin, hG⟩ := zgd hG
  refine va_tl hx hb hT_LEAST hS hin rfl d_P_parseNext_110 ?_
  refine W.lcmp hx hb d_P_parseNext_111 ?_
  refine lv_if_lt (tgt := 127) hx hb d_P_parseNext_112 (by decide) (fun hc => ?_) (fun hc => ?_)
  · have hG := zt hG hc
    exact k_P_parseNext_127 X hA zz N sT sR sP _ hG adT adT_bytes adR adP adP_values _ _ hP hD hS _ (lv_sub hl [] rfl)
  · have hG := zf hG hc
    refine lv_lload hx hb d_P_parseNext_115 (lv_at hl 0 rfl) ?_
    obtain ⟨adS_MOST, hZ_MOST, hT_MOST, hE_MOST⟩ := zz.2.2.1.2.2.2.1
    refine va_gets hx hb hZ_MOST hS hown (hts (.fieldLink R_P 59 "WireCodec$Parameters" "MOST" "[J") zin_P_59) (fun _ h9 => h9) d_P_parseNext_117 ?_
    refine lv_iload hx hb d_P_parseNext_120 (lv_at hl 2 rfl) ?_
    obtain ⟨hin, hG⟩ := zgd hG
    refine va_tl hx hb hT_MOST hS hin rfl d_P_parseNext_122 ?_
    refine W.lcmp hx hb d_P_parseNext_123 ?_
    refine lv_if_le (tgt := 129) hx hb d_P_parseNext_124 (by decide) (fun hc => ?_) (fun hc => ?_)
    · have hG := zt hG hc
      refine lv_aload_n hx hb d_P_parseNext_129 rfl (lv_at hl 1 rfl) ?_
      refine lv_dup hx hb d_P_parseNext_130 rfl ?_
      refine va_get (D := (dC, dI)) (ci := 7) (v := .int (zP_seen sP)) (C := R_P) (T := F_P) (N := 2) hx hb hts zi_P hown zz.1 hP 3 rfl rfl 1 (by decide) (hts (.fieldLink R_P 30 "WireCodec$Parameters" "seen" "I") zin_P_30) (fun _ h9 => h9) rfl d_P_parseNext_131 ?_
      refine lv_iload hx hb d_P_parseNext_134 (lv_at hl 3 rfl) ?_
      refine lv_ior hx hb d_P_parseNext_136 ?_
      refine va_put (D := (dC, dI)) (ci := 7) (v := .int ((zP_seen sP) ||| v9)) (ty := .int) (C := R_P) (T := F_P) (N := 2) hx hb hts zi_P zty_P zty_P_ok znm_P hown zz.1 hP hD hS 3 rfl rfl 1 (by decide) (hts (.fieldLink R_P 30 "WireCodec$Parameters" "seen" "I") zin_P_30) (fun _ h9 => h9) rfl (by decide +kernel) rfl rfl (Nat.le_of_ble_eq_true rfl) d_P_parseNext_137 (fun H locs hP hD hS => ?_)
      have hP : va_P (dC, dI) zcl (zwT adT adT_bytes cB cI cL sT ++ zwR adR adT cB cI cL sR ++ zwP adP adP_values cB cI cL (zP_seen' sP ((zP_seen sP) ||| v9))) H := hP
      have hD : va_D A (zwT adT adT_bytes cB cI cL sT ++ zwR adR adT cB cI cL sR ++ zwP adP adP_values cB cI cL (zP_seen' sP ((zP_seen sP) ||| v9))) := hD
      have hG : g_P_parseNext_w137 N sT sR v8 s0 (zP_seen' sP ((zP_seen sP) ||| v9)) = some a := hG
      generalize zP_seen' sP ((zP_seen sP) ||| v9) = sP_137 at hP hD hG
      unfold g_P_parseNext_w137 at hG
      refine lv_aload_n hx hb d_P_parseNext_140 rfl (lv_at hl 1 rfl) ?_
      refine va_get (D := (dC, dI)) (ci := 7) (v := .ref adP_values) (C := R_P) (T := F_P) (N := 2) hx hb hts zi_P hown zz.1 hP 3 rfl rfl 0 (by decide) (hts (.fieldLink R_P 21 "WireCodec$Parameters" "values" "[J") zin_P_21) (fun _ h9 => h9) rfl d_P_parseNext_141 ?_
      refine lv_iload hx hb d_P_parseNext_144 (lv_at hl 2 rfl) ?_
      refine lv_iload hx hb d_P_parseNext_146 (lv_at hl 2 rfl) ?_
      refine lv_bipush (v := (12 : Int32)) hx hb d_P_parseNext_148 (by decide) ?_
      refine lv_icmp_ne (tgt := 157) hx hb d_P_parseNext_150 (by decide) (fun hc => ?_) (fun hc => ?_)
      · have hG := zf hG hc
        refine lv_lload hx hb d_P_parseNext_157 (lv_at hl 0 rfl) ?_
        exact k_P_parseNext_159 X hA zz N sT sR sP_137 s0 v8 _ hG adT adT_bytes adR adP adP_values _ _ hP hD hS _ (lv_sub hl [] rfl)
      · have hG := zt hG hc
        refine lv_lconst (v := (1 : Int64)) hx hb d_P_parseNext_153 (by decide) ?_
        refine lv_goto (tgt := 159) hx hb d_P_parseNext_154 (by decide) ?_
        exact k_P_parseNext_159 X hA zz N sT sR sP_137 (1 : Int64) v8 _ hG adT adT_bytes adR adP adP_values _ _ hP hD hS _ (lv_sub hl [] rfl)
    · have hG := zf hG hc
      exact k_P_parseNext_127 X hA zz N sT sR sP _ hG adT adT_bytes adR adP adP_values _ _ hP hD hS _ (lv_sub hl [] rfl)
set_option maxRecDepth 100000 in
set_option maxHeartbeats 4000000 in
theorem k_P_parseNext_80 {p : Program} {l : Launch} {e : Env} {R : Room} {s : State} {m : MethodId} {args : Array Value} {below : List Frame} {meth : Method} {c : Code} {dC : Nat → ClassId} {dI : Nat → Nat → Nat} {cB cI cL : ClassId} {A : Nat → Prop} (X : zx p s m args meth c R R_P b_P_parseNext (some .int) 12 3 70) (hA : ∀ q, s.heap.size ≤ q → A q) (zz : zk dC dI cB cI cL A s)  (N : Nat) (sT : zT) (sR : zR) (sP : zP) (v5 : Int64) (v7 : Int32) (v8 : Int32) (v9 : Int32) (a : Int32 × zR × zP) (hG : g_P_parseNext_80 N sT sR sP v5 v7 v8 v9 = some a) (adT adT_bytes adR adP adP_values : Nat) (H : Heap) (locs : List Loc) (hP : va_P (dC, dI) zcl (zwT adT adT_bytes cB cI cL sT ++ zwR adR adT cB cI cL sR ++ zwP adP adP_values cB cI cL sP) H) (hD : va_D A (zwT adT adT_bytes cB cI cL sT ++ zwR adR adT cB cI cL sR ++ zwP adP adP_values cB cI cL sP)) (hS : va_S A s.heap H locs) (ls : Array Slot) (hl : lv_has ls 12 [(0, .ref adP), (1, .ref adR), (5, .long v5), (7, .int v7), (8, .int v8), (9, .int v9)]) : W p l e R s m args below meth c H locs 0 0 (MQ below (q_P_parseNext dC dI cB cI cL A adT adT_bytes adR adP adP_values sT a) args s 0 0 A) (F0 m 80 ls []) := by
  obtain ⟨hx, hb, hr, hml, hown, hts, hlocks, hRf, hRl⟩ := id X
  unfold g_P_parseNext_80 at hG
  refine lv_ldc (v := (110597 : Int32)) hx hb hown (hts (.constant R_P 51 (110597 : Int32)) zin_P_51) d_P_parseNext_80 ?_
  refine lv_iload hx hb d_P_parseNext_82 (lv_at hl 5 rfl) ?_
  refine lv_iand hx hb d_P_parseNext_84 ?_
  refine lv_if_eq (tgt := 93) hx hb d_P_parseNext_85 (by decide) (fun hc => ?_) (fun hc => ?_)
  · have hG := zt hG hc
    refine lv_aload_n hx hb d_P_parseNext_93 rfl (lv_at hl 1 rfl) ?_
    refine lv_iload hx hb d_P_parseNext_94 (lv_at hl 3 rfl) ?_
    refine lv_lload hx hb d_P_parseNext_96 (lv_at hl 2 rfl) ?_
    obtain ⟨a_98, hx_98, hG⟩ := zb hG
    have hr_98 := zrunV (p := p) (e := e) (below := below) (meth := meth) (As := [.int v7, .long v5]) (rest := []) (st0 := [.long v5, .int v7, .ref adR]) (cells := 0) (slots := 0) X zz hP hD hS hA [0, 1, 2] (by decide) rfl (c_R_numberOfAll l dC dI cB cI cL H.size adT adT_bytes adR N sT sR v7 v5 _ hx_98) zy_R_numberOfAll zv_R_numberOfAll (hts (.methodLink R_P 52 y_R_numberOfAll) zin_P_52) hl rfl rfl d_P_parseNext_98 (lv_room (Nat.le_of_ble_eq_true rfl)) rfl rfl ⟨Nat.le_trans (Nat.le_of_ble_eq_true rfl) hRf, Nat.le_trans (Nat.le_of_ble_eq_true rfl) hRl⟩ ⟨Nat.zero_le _, Nat.zero_le _⟩ 2 2 rfl rfl
    refine zcalll (wr := (zwP adP adP_values cB cI cL sP)) hr_98 hP hD hS hA [0, 1, 2] [3, 4] rfl rfl (by decide) (by decide) (fun r_98 u_98 H locs hw_98 hP hD hS => ?_)
    subst hw_98
    have hP : va_P (dC, dI) zcl (zwP adP adP_values cB cI cL sP ++ zwT adT adT_bytes cB cI cL sT ++ zwR adR adT cB cI cL sR) H := hP
    have hD : va_D A (zwP adP adP_values cB cI cL sP ++ zwT adT adT_bytes cB cI cL sT ++ zwR adR adT cB cI cL sR) := hD
    have hG : g_P_parseNext_c98 N sT sR sP v8 v9 r_98 = some a := hG
    unfold g_P_parseNext_c98 at hG
    exact k_P_parseNext_101 X hA zz N sT sR sP v8 v9 r_98 _ hG adT adT_bytes adR adP adP_values _ _ (hP.sub [2, 3, 4, 0, 1] rfl) (hD.sub [2, 3, 4, 0, 1] (by decide) rfl) hS _ (lv_sub hl [0, 4, 5] rfl)
  · have hG := zf hG hc
    refine lv_lload hx hb d_P_parseNext_88 (lv_at hl 2 rfl) ?_
    refine lv_goto (tgt := 101) hx hb d_P_parseNext_90 (by decide) ?_
    exact k_P_parseNext_101 X hA zz N sT sR sP v8 v9 v5 _ hG adT adT_bytes adR adP adP_values _ _ hP hD hS _ (lv_sub hl [0, 4, 5] rfl)
set_option maxRecDepth 100000 in
set_option maxHeartbeats 4000000 in
theorem k_P_parseNext_0 {p : Program} {l : Launch} {e : Env} {R : Room} {s : State} {m : MethodId} {args : Array Value} {below : List Frame} {meth : Method} {c : Code} {dC : Nat → ClassId} {dI : Nat → Nat → Nat} {cB cI cL : ClassId} {A : Nat → Prop} (X : zx p s m args meth c R R_P b_P_parseNext (some .int) 12 3 70) (hA : ∀ q, s.heap.size ≤ q → A q) (zz : zk dC dI cB cI cL A s)  (N : Nat) (sT : zT) (sR : zR) (sP : zP) (v2 : Int32) (a : Int32 × zR × zP) (hG : g_P_parseNext N sT sR sP v2 = some a) (adT adT_bytes adR adP adP_values : Nat) (H : Heap) (locs : List Loc) (hP : va_P (dC, dI) zcl (zwT adT adT_bytes cB cI cL sT ++ zwR adR adT cB cI cL sR ++ zwP adP adP_values cB cI cL sP) H) (hD : va_D A (zwT adT adT_bytes cB cI cL sT ++ zwR adR adT cB cI cL sR ++ zwP adP adP_values cB cI cL sP)) (hS : va_S A s.heap H locs) (ls : Array Slot) (hl : lv_has ls 12 [(0, .ref adP), (1, .ref adR), (2, .int v2)]) : W p l e R s m args below meth c H locs 0 0 (MQ below (q_P_parseNext dC dI cB cI cL A adT adT_bytes adR adP adP_values sT a) args s 0 0 A) (F0 m 0 ls []) := by
  obtain ⟨hx, hb, hr, hml, hown, hts, hlocks, hRf, hRl⟩ := id X
  unfold g_P_parseNext at hG
  refine lv_aload_n hx hb d_P_parseNext_0 rfl (lv_at hl 1 rfl) ?_
  obtain ⟨a_1, hx_1, hG⟩ := zb hG
  have hr_1 := zrunV (p := p) (e := e) (below := below) (meth := meth) (As := []) (rest := []) (st0 := [.ref adR]) (cells := 0) (slots := 0) X zz hP hD hS hA [0, 1, 2] (by decide) rfl (c_R_takeNumber l dC dI cB cI cL H.size adT adT_bytes adR N sT sR _ hx_1) zy_R_takeNumber zv_R_takeNumber (hts (.methodLink R_P 34 y_R_takeNumber) zin_P_34) hl rfl rfl d_P_parseNext_1 (lv_room (Nat.le_of_ble_eq_true rfl)) rfl rfl ⟨Nat.le_trans (Nat.le_of_ble_eq_true rfl) hRf, Nat.le_trans (Nat.le_of_ble_eq_true rfl) hRl⟩ ⟨Nat.zero_le _, Nat.zero_le _⟩ 2 2 rfl rfl
  refine zcalll (wr := (zwP adP adP_values cB cI cL sP)) hr_1 hP hD hS hA [0, 1, 2] [3, 4] rfl rfl (by decide) (by decide) (fun r_1 u_1 H locs hw_1 hP hD hS => ?_)
  obtain ⟨sR_1, rfl⟩ : ∃ z, z = u_1 := ⟨_, rfl⟩
  subst hw_1
  have hP : va_P (dC, dI) zcl (zwP adP adP_values cB cI cL sP ++ zwT adT adT_bytes cB cI cL sT ++ zwR adR adT cB cI cL sR_1) H := hP
  have hD : va_D A (zwP adP adP_values cB cI cL sP ++ zwT adT adT_bytes cB cI cL sT ++ zwR adR adT cB cI cL sR_1) := hD
  have hG : g_P_parseNext_c1 N sT sP v2 sR_1 r_1 = some a := hG
  unfold g_P_parseNext_c1 at hG
  refine lv_lstore_n (lv' := [(3, .long r_1), (0, .ref adP), (1, .ref adR), (2, .int v2)]) hx hb d_P_parseNext_4 rfl hl (by decide) rfl (fun ls hl => ?_)
  refine lv_aload_n hx hb d_P_parseNext_5 rfl (lv_at hl 2 rfl) ?_
  obtain ⟨a_6, hx_6, hG⟩ := zb hG
  have hr_6 := zrunV (p := p) (e := e) (below := below) (meth := meth) (As := []) (rest := []) (st0 := [.ref adR]) (cells := 0) (slots := 0) X zz hP hD hS hA [2, 3, 4] (by decide) rfl (c_R_takeNumber l dC dI cB cI cL H.size adT adT_bytes adR N sT sR_1 _ hx_6) zy_R_takeNumber zv_R_takeNumber (hts (.methodLink R_P 34 y_R_takeNumber) zin_P_34) hl rfl rfl d_P_parseNext_6 (lv_room (Nat.le_of_ble_eq_true rfl)) rfl rfl ⟨Nat.le_trans (Nat.le_of_ble_eq_true rfl) hRf, Nat.le_trans (Nat.le_of_ble_eq_true rfl) hRl⟩ ⟨Nat.zero_le _, Nat.zero_le _⟩ 2 2 rfl rfl
  refine zcalll (wr := (zwP adP adP_values cB cI cL sP)) hr_6 hP hD hS hA [2, 3, 4] [0, 1] rfl rfl (by decide) (by decide) (fun r_6 u_6 H locs hw_6 hP hD hS => ?_)
  obtain ⟨sR_6, rfl⟩ : ∃ z, z = u_6 := ⟨_, rfl⟩
  subst hw_6
  have hP : va_P (dC, dI) zcl (zwP adP adP_values cB cI cL sP ++ zwT adT adT_bytes cB cI cL sT ++ zwR adR adT cB cI cL sR_6) H := hP
  have hD : va_D A (zwP adP adP_values cB cI cL sP ++ zwT adT adT_bytes cB cI cL sT ++ zwR adR adT cB cI cL sR_6) := hD
  have hG : g_P_parseNext_c6 N sT sP v2 r_1 sR_6 r_6 = some a := hG
  unfold g_P_parseNext_c6 at hG
  refine lv_lstore (lv' := [(5, .long r_6), (3, .long r_1), (0, .ref adP), (1, .ref adR), (2, .int v2)]) hx hb d_P_parseNext_9 hl (by decide) rfl (fun ls hl => ?_)
  refine lv_aload_n hx hb d_P_parseNext_11 rfl (lv_at hl 3 rfl) ?_
  refine lv_lload hx hb d_P_parseNext_12 (lv_at hl 0 rfl) ?_
  obtain ⟨a_14, hx_14, hG⟩ := zb hG
  have hr_14 := zrunV (p := p) (e := e) (below := below) (meth := meth) (As := [.long r_6]) (rest := []) (st0 := [.long r_6, .ref adR]) (cells := 0) (slots := 0) X zz hP hD hS hA [4] (by decide) rfl (c_R_takeBytes l dC dI cB cI cL H.size adR adT sR_6 r_6 _ hx_14) zy_R_takeBytes zv_R_takeBytes (hts (.methodLink R_P 40 y_R_takeBytes) zin_P_40) hl rfl rfl d_P_parseNext_14 (lv_room (Nat.le_of_ble_eq_true rfl)) rfl rfl ⟨Nat.le_trans (Nat.le_of_ble_eq_true rfl) hRf, Nat.le_trans (Nat.le_of_ble_eq_true rfl) hRl⟩ ⟨Nat.zero_le _, Nat.zero_le _⟩ 0 2 rfl rfl
  refine zcalli (wr := (zwP adP adP_values cB cI cL sP ++ zwT adT adT_bytes cB cI cL sT)) hr_14 hP hD hS hA [4] [0, 1, 2, 3] rfl rfl (by decide) (by decide) (fun r_14 u_14 H locs hw_14 hP hD hS => ?_)
  obtain ⟨sR_14, rfl⟩ : ∃ z, z = u_14 := ⟨_, rfl⟩
  subst hw_14
  have hP : va_P (dC, dI) zcl (zwP adP adP_values cB cI cL sP ++ zwT adT adT_bytes cB cI cL sT ++ zwR adR adT cB cI cL sR_14) H := hP
  have hD : va_D A (zwP adP adP_values cB cI cL sP ++ zwT adT adT_bytes cB cI cL sT ++ zwR adR adT cB cI cL sR_14) := hD
  have hG : g_P_parseNext_c14 N sT sP v2 r_1 r_6 sR_14 r_14 = some a := hG
  unfold g_P_parseNext_c14 at hG
  refine lv_istore (lv' := [(7, .int r_14), (5, .long r_6), (3, .long r_1), (0, .ref adP), (1, .ref adR), (2, .int v2)]) hx hb d_P_parseNext_17 hl (by decide) rfl (fun ls hl => ?_)
  refine lv_aload_n hx hb d_P_parseNext_19 rfl (lv_at hl 4 rfl) ?_
  refine va_get (D := (dC, dI)) (ci := 2) (v := .int (zR_over sR_14)) (C := R_R) (T := F_R) (N := 4) hx hb hts zi_R hown zz.1 hP 4 rfl rfl 3 (by decide) (hts (.fieldLink R_P 44 "WireCodec$Reader" "over" "Z") zin_P_44) (fun _ h9 => h9) rfl d_P_parseNext_20 ?_
  refine lv_if_eq (tgt := 28) hx hb d_P_parseNext_23 (by decide) (fun hc => ?_) (fun hc => ?_)
  · have hG := zt hG hc
    refine lv_lload_n hx hb d_P_parseNext_28 rfl (lv_at hl 2 rfl) ?_
    refine lv_lconst (v := (0 : Int64)) hx hb d_P_parseNext_29 (by decide) ?_
    refine W.lcmp hx hb d_P_parseNext_30 ?_
    refine lv_if_lt (tgt := 42) hx hb d_P_parseNext_31 (by decide) (fun hc => ?_) (fun hc => ?_)
    · have hG := zt hG hc
      exact k_P_parseNext_42 X hA zz N sT sR_14 sP _ hG adT adT_bytes adR adP adP_values _ _ (hP.sub [2, 3, 4, 0, 1] rfl) (hD.sub [2, 3, 4, 0, 1] (by decide) rfl) hS _ (lv_sub hl [] rfl)
    · have hG := zf hG hc
      refine lv_lload_n hx hb d_P_parseNext_34 rfl (lv_at hl 2 rfl) ?_
      refine lv_ldc2 (v := (16 : Int64)) hx hb hown (hts (.constantLong R_P 48 (16 : Int64)) zin_P_48) d_P_parseNext_35 ?_
      refine W.lcmp hx hb d_P_parseNext_38 ?_
      refine lv_if_le (tgt := 44) hx hb d_P_parseNext_39 (by decide) (fun hc => ?_) (fun hc => ?_)
      · have hG := zt hG hc
        refine lv_lload_n hx hb d_P_parseNext_44 rfl (lv_at hl 2 rfl) ?_
        refine lv_l2i hx hb d_P_parseNext_45 rfl ?_
        refine lv_istore (lv' := [(8, .int r_1.toInt32), (7, .int r_14), (5, .long r_6), (3, .long r_1), (0, .ref adP), (1, .ref adR), (2, .int v2)]) hx hb d_P_parseNext_46 hl (by decide) rfl (fun ls hl => ?_)
        refine lv_iconst (v := (1 : Int32)) hx hb d_P_parseNext_48 (by decide) ?_
        refine lv_iload hx hb d_P_parseNext_49 (lv_at hl 0 rfl) ?_
        refine lv_ishl hx hb d_P_parseNext_51 ?_
        refine lv_istore (lv' := [(9, .int ((1 : Int32) <<< (r_1.toInt32 &&& 31))), (8, .int r_1.toInt32), (7, .int r_14), (5, .long r_6), (3, .long r_1), (0, .ref adP), (1, .ref adR), (2, .int v2)]) hx hb d_P_parseNext_52 hl (by decide) rfl (fun ls hl => ?_)
        refine lv_aload_n hx hb d_P_parseNext_54 rfl (lv_at hl 5 rfl) ?_
        refine va_get (D := (dC, dI)) (ci := 7) (v := .int (zP_seen sP)) (C := R_P) (T := F_P) (N := 2) hx hb hts zi_P hown zz.1 hP 0 rfl rfl 1 (by decide) (hts (.fieldLink R_P 30 "WireCodec$Parameters" "seen" "I") zin_P_30) (fun _ h9 => h9) rfl d_P_parseNext_55 ?_
        refine lv_iload hx hb d_P_parseNext_58 (lv_at hl 0 rfl) ?_
        refine lv_iand hx hb d_P_parseNext_60 ?_
        refine lv_if_eq (tgt := 66) hx hb d_P_parseNext_61 (by decide) (fun hc => ?_) (fun hc => ?_)
        · have hG := zt hG hc
          refine lv_iload_n hx hb d_P_parseNext_66 rfl (lv_at hl 7 rfl) ?_
          refine lv_if_ne (tgt := 80) hx hb d_P_parseNext_67 (by decide) (fun hc => ?_) (fun hc => ?_)
          · have hG := zf hG hc
            exact k_P_parseNext_80 X hA zz N sT sR_14 sP r_6 r_14 r_1.toInt32 ((1 : Int32) <<< (r_1.toInt32 &&& 31)) _ hG adT adT_bytes adR adP adP_values _ _ (hP.sub [2, 3, 4, 0, 1] rfl) (hD.sub [2, 3, 4, 0, 1] (by decide) rfl) hS _ (lv_sub hl [5, 6, 3, 2, 1, 0] rfl)
          · have hG := zt hG hc
            refine lv_ldc (v := (73733 : Int32)) hx hb hown (hts (.constant R_P 50 (73733 : Int32)) zin_P_50) d_P_parseNext_70 ?_
            refine lv_iload hx hb d_P_parseNext_72 (lv_at hl 0 rfl) ?_
            refine lv_iand hx hb d_P_parseNext_74 ?_
            refine lv_if_eq (tgt := 80) hx hb d_P_parseNext_75 (by decide) (fun hc => ?_) (fun hc => ?_)
            · have hG := zt hG hc
              exact k_P_parseNext_80 X hA zz N sT sR_14 sP r_6 r_14 r_1.toInt32 ((1 : Int32) <<< (r_1.toInt32 &&& 31)) _ hG adT adT_bytes adR adP adP_values _ _ (hP.sub [2, 3, 4, 0, 1] rfl) (hD.sub [2, 3, 4, 0, 1] (by decide) rfl) hS _ (lv_sub hl [5, 6, 3, 2, 1, 0] rfl)
            · have hG := zf hG hc
              refine lv_iconst (v := (4 : Int32)) hx hb d_P_parseNext_78 (by decide) ?_
              exact W.iret (v := (4 : Int32)) hx hb hr (fun t9 ht9 hW9 => ⟨⟨(4 : Int32), (sR_14, sP), rfl, Option.some.inj hG, by rw [ht9]; exact (hP.sub [2, 3, 4, 0, 1] rfl), (hD.sub [2, 3, 4, 0, 1] (by decide) rfl)⟩, hS.F ht9⟩) hS.2.2 d_P_parseNext_79
        · have hG := zf hG hc
          refine lv_iconst (v := (2 : Int32)) hx hb d_P_parseNext_64 (by decide) ?_
          exact W.iret (v := (2 : Int32)) hx hb hr (fun t9 ht9 hW9 => ⟨⟨(2 : Int32), (sR_14, sP), rfl, Option.some.inj hG, by rw [ht9]; exact (hP.sub [2, 3, 4, 0, 1] rfl), (hD.sub [2, 3, 4, 0, 1] (by decide) rfl)⟩, hS.F ht9⟩) hS.2.2 d_P_parseNext_65
      · have hG := zf hG hc
        exact k_P_parseNext_42 X hA zz N sT sR_14 sP _ hG adT adT_bytes adR adP adP_values _ _ (hP.sub [2, 3, 4, 0, 1] rfl) (hD.sub [2, 3, 4, 0, 1] (by decide) rfl) hS _ (lv_sub hl [] rfl)
  · have hG := zf hG hc
    refine lv_iconst (v := (1 : Int32)) hx hb d_P_parseNext_26 (by decide) ?_
    exact W.iret (v := (1 : Int32)) hx hb hr (fun t9 ht9 hW9 => ⟨⟨(1 : Int32), (sR_14, sP), rfl, Option.some.inj hG, by rw [ht9]; exact (hP.sub [2, 3, 4, 0, 1] rfl), (hD.sub [2, 3, 4, 0, 1] (by decide) rfl)⟩, hS.F ht9⟩) hS.2.2 d_P_parseNext_27
set_option maxRecDepth 100000 in
set_option maxHeartbeats 4000000 in
theorem c_P_parseNext (l : Launch) (dC : Nat → ClassId) (dI : Nat → Nat → Nat) (cB cI cL : ClassId) (sz : Nat) (adT adT_bytes adR adP adP_values : Nat) (N : Nat) (sT : zT) (sR : zR) (sP : zP) (v2 : Int32) (a : Int32 × zR × zP) (hG : g_P_parseNext N sT sR sP v2 = some a) : Met l y_P_parseNext (zw y_P_parseNext b_P_parseNext 12 (some .int)) ({ frames := 3, cells := 0, slots := 0, locals := 70 }) (va_Pc [.ref adP, .ref adR, .int v2] (zpre dC dI cB cI cL sz (zwT adT adT_bytes cB cI cL sT ++ zwR adR adT cB cI cL sR ++ zwP adP adP_values cB cI cL sP))) (q_P_parseNext dC dI cB cI cL (va_A (zwT adT adT_bytes cB cI cL sT ++ zwR adR adT cB cI cL sR ++ zwP adP adP_values cB cI cL sP) sz) adT adT_bytes adR adP adP_values sT a) 0 0 (va_A (zwT adT adT_bytes cB cI cL sT ++ zwR adR adT cB cI cL sR ++ zwP adP adP_values cB cI cL sP) sz) := by
  refine Met.ofW (cc := b_P_parseNext) (maxL := 12) (ret := (some .int)) (by decide) rfl ?_
  intro p e s m args below meth c s₁ B hml hv
  obtain ⟨rfl, hsz, hP, zz, hD0⟩ := hv
  subst hsz
  have X := zx_of (F := 3) (L := 70) B hml (Nat.le_refl _) (Nat.le_refl _)
  have hD := hD0.self (sz := s.heap.size)
  have hA : ∀ q : Nat, s.heap.size ≤ q → va_A (zwT adT adT_bytes cB cI cL sT ++ zwR adR adT cB cI cL sR ++ zwP adP adP_values cB cI cL sP) s.heap.size q := fun q h => Or.inr h
  have hl := lv_entry ([.ref adP, .ref adR, .int v2]) (n := 12) (Nat.le_of_ble_eq_true rfl)
  rw [lg_entry_eq]
  generalize (lg_sl ([.ref adP, .ref adR, .int v2]) ++ List.replicate (12 - (lg_sl ([.ref adP, .ref adR, .int v2])).length) Slot.unset).toArray = ls at hl ⊢
  exact k_P_parseNext_0 X hA zz N sT sR sP v2 a hG adT adT_bytes adR adP adP_values _ _ hP hD va_S.rf ls hl
noncomputable def g_W_put_c41 (sT_41 : zT) (r_41 : Int32) : Option (((Int32 ⊕ Nat) × zT) × Nat × Nat) := some ((.inl r_41, sT_41), 0, 0)
noncomputable def g_W_put_c37 (sT_37 : zT) : Option (((Int32 ⊕ Nat) × zT) × Nat × Nat) := (g_W_keepWritten sT_37).bind (fun a => zca 1 6 (zmx (a.1) (fun r9 => g_W_put_c41 a.2 r9) (fun k9 => some ((.inr k9, a.2), 0, 0))))
noncomputable def g_W_put_c25 (N : Nat) (sD : zD) (v1 : Int32) (sT_25 : zT) : Option (((Int32 ⊕ Nat) × zT) × Nat × Nat) := zcbd (g_D_writeFrame N sT_25 sD v1) (fun a => g_W_put_c37 a)
noncomputable def g_W_put_c5 (N : Nat) (sT : zT) (sD : zD) (v1 : Int32) (r_5 : Int32) : Option (((Int32 ⊕ Nat) × zT) × Nat × Nat) := if r_5 = (0 : Int32) then (some ((.inr 1, sT), 1, 6)) else ((g_T_startWriting sT).bind (fun a => g_W_put_c25 N sD v1 a))
noncomputable def g_W_put (N : Nat) (sT : zT) (sD : zD) (v1 : Int32) : Option (((Int32 ⊕ Nat) × zT) × Nat × Nat) := (g_D_isFrame N sD v1).bind (fun a => g_W_put_c5 N sT sD v1 a)
def q_W_put (dC : Nat → ClassId) (dI : Nat → Nat → Nat) (cB cI cL : ClassId) (A : Nat → Prop) (adW : Nat) (adT : Nat) (adD : Nat) (adD_parts : Nat) (adD_bytes : Nat) (adD_lows : Nat) (adD_highs : Nat) (adR : Nat) (adG : Nat) (adF : Nat) (adH : Nat) (adP : Nat) (sD : zD) (a : (Int32 ⊕ Nat) × zT) : Array Value → State → Outcome → State → Prop := zQx (α := Int32) (fun r => some (.int r)) (fun r (u : zT × Nat) => (r, u.1) = a) (dC, dI) (fun u => (zwW adW adT adR adG adF adH adD adP ++ zwT adT u.2 cB cI cL u.1 ++ zwD adD adD_parts adD_bytes adD_lows adD_highs cB cI cL sD)) A
set_option maxRecDepth 100000 in
set_option maxHeartbeats 4000000 in
theorem k_W_put_0 {p : Program} {l : Launch} {e : Env} {R : Room} {s : State} {m : MethodId} {args : Array Value} {below : List Frame} {meth : Method} {c : Code} {dC : Nat → ClassId} {dI : Nat → Nat → Nat} {cB cI cL : ClassId} {A : Nat → Prop} {adR adG adF adH adP : Nat} (X : zx p s m args meth c R R_W b_W_put (some .int) 2 7 200) (hA : ∀ q, s.heap.size ≤ q → A q) (zz : zk dC dI cB cI cL A s) (htr : l.stackTraces = false) (hnh : c.exceptionTable.isEmpty = true) (hAs : ∀ q, A q → ∀ cell, s.heap[q]? = some cell → cell.vm.isStatics = false)  (N : Nat) (sT : zT) (sD : zD) (v1 : Int32) (a : (Int32 ⊕ Nat) × zT) (c9 z9 cells slots tc tz : Nat) (hG : g_W_put N sT sD v1 = some (a, c9, z9)) (kc : cells + c9 = tc) (kz : slots + z9 = tz) (hRc : tc ≤ R.cells) (hRz : tz ≤ R.slots) (adW adT adT_bytes adD adD_parts adD_bytes adD_lows adD_highs : Nat) (H : Heap) (locs : List Loc) (hP : va_P (dC, dI) zcl (zwW adW adT adR adG adF adH adD adP ++ zwT adT adT_bytes cB cI cL sT ++ zwD adD adD_parts adD_bytes adD_lows adD_highs cB cI cL sD) H) (hD : va_D A (zwW adW adT adR adG adF adH adD adP ++ zwT adT adT_bytes cB cI cL sT ++ zwD adD adD_parts adD_bytes adD_lows adD_highs cB cI cL sD)) (hS : va_S A s.heap H locs) (ls : Array Slot) (hl : lv_has ls 2 [(0, .ref adW), (1, .int v1)]) : W p l e R s m args below meth c H locs cells slots (zMQ below (q_W_put dC dI cB cI cL A adW adT adD adD_parts adD_bytes adD_lows adD_highs adR adG adF adH adP sD a) args s tc tz A) (F0 m 0 ls []) := by
  obtain ⟨hx, hb, hr, hml, hown, hts, hlocks, hRf, hRl⟩ := id X
  unfold g_W_put at hG
  refine lv_aload_n hx hb d_W_put_0 rfl (lv_at hl 0 rfl) ?_
  refine va_get (D := (dC, dI)) (ci := 0) (v := .ref adD) (C := R_W) (T := F_W) (N := 7) hx hb hts zi_W hown zz.1 hP 0 rfl rfl 5 (by decide) (hts (.fieldLink R_W 49 "WireCodec" "drafted" "LWireCodec$Draft;") zin_W_49) (fun _ h9 => h9) rfl d_W_put_1 ?_
  refine lv_iload_n hx hb d_W_put_4 rfl (lv_at hl 1 rfl) ?_
  obtain ⟨a_5, hx_5, hG⟩ := zb hG
  have hr_5 := zrunV (p := p) (e := e) (below := below) (meth := meth) (As := [.int v1]) (rest := []) (st0 := [.int v1, .ref adD]) (cells := cells) (slots := slots) X zz hP hD hS hA [3, 4, 5, 6, 7] (by decide) rfl (c_D_isFrame l dC dI cB cI cL H.size adD adD_parts adD_bytes adD_lows adD_highs N sD v1 _ hx_5) zy_D_isFrame zv_D_isFrame (hts (.methodLink R_W 229 y_D_isFrame) zin_W_229) hl rfl rfl d_W_put_5 (lv_room (Nat.le_of_ble_eq_true rfl)) rfl rfl ⟨Nat.le_trans (Nat.le_of_ble_eq_true rfl) hRf, Nat.le_trans (Nat.le_of_ble_eq_true rfl) hRl⟩ ⟨zle kc hRc, zle kz hRz⟩ 0 6 rfl rfl
  refine zcalli (wr := (zwW adW adT adR adG adF adH adD adP ++ zwT adT adT_bytes cB cI cL sT)) hr_5 hP hD hS hA [3, 4, 5, 6, 7] [0, 1, 2] rfl rfl (by decide) (by decide) (fun r_5 u_5 H locs hw_5 hP hD hS => ?_)
  subst hw_5
  have hP : va_P (dC, dI) zcl (zwW adW adT adR adG adF adH adD adP ++ zwT adT adT_bytes cB cI cL sT ++ zwD adD adD_parts adD_bytes adD_lows adD_highs cB cI cL sD) H := hP
  have hD : va_D A (zwW adW adT adR adG adF adH adD adP ++ zwT adT adT_bytes cB cI cL sT ++ zwD adD adD_parts adD_bytes adD_lows adD_highs cB cI cL sD) := hD
  have hG : g_W_put_c5 N sT sD v1 r_5 = some (a, c9, z9) := hG
  unfold g_W_put_c5 at hG
  refine lv_if_ne (tgt := 21) hx hb d_W_put_8 (by decide) (fun hc => ?_) (fun hc => ?_)
  · have hG := zf hG hc
    refine lv_aload_n hx hb d_W_put_21 rfl (lv_at hl 0 rfl) ?_
    refine va_get (D := (dC, dI)) (ci := 0) (v := .ref adT) (C := R_W) (T := F_W) (N := 7) hx hb hts zi_W hown zz.1 hP 0 rfl rfl 0 (by decide) (hts (.fieldLink R_W 12 "WireCodec" "tape" "LWireCodec$Tape;") zin_W_12) (fun _ h9 => h9) rfl d_W_put_22 ?_
    obtain ⟨a_25, hx_25, hG⟩ := zb hG
    have hr_25 := zrunV (p := p) (e := e) (below := below) (meth := meth) (As := []) (rest := []) (st0 := [.ref adT]) (cells := cells) (slots := slots) X zz hP hD hS hA [1, 2] (by decide) rfl (c_T_startWriting l dC dI cB cI cL H.size adT adT_bytes sT _ hx_25) zy_T_startWriting zv_T_startWriting (hts (.methodLink R_W 67 y_T_startWriting) zin_W_67) hl rfl rfl d_W_put_25 (lv_room (Nat.le_of_ble_eq_true rfl)) rfl rfl ⟨Nat.le_trans (Nat.le_of_ble_eq_true rfl) hRf, Nat.le_trans (Nat.le_of_ble_eq_true rfl) hRl⟩ ⟨zle kc hRc, zle kz hRz⟩ 0 1 rfl rfl
    refine zcallv (wr := (zwW adW adT adR adG adF adH adD adP ++ zwD adD adD_parts adD_bytes adD_lows adD_highs cB cI cL sD)) hr_25 hP hD hS hA [1, 2] [0, 3, 4, 5, 6, 7] rfl rfl (by decide) (by decide) (fun u_25 H locs hw_25 hP hD hS => ?_)
    obtain ⟨sT_25, rfl⟩ : ∃ z, z = u_25 := ⟨_, rfl⟩
    subst hw_25
    have hP : va_P (dC, dI) zcl (zwW adW adT adR adG adF adH adD adP ++ zwD adD adD_parts adD_bytes adD_lows adD_highs cB cI cL sD ++ zwT adT adT_bytes cB cI cL sT_25) H := hP
    have hD : va_D A (zwW adW adT adR adG adF adH adD adP ++ zwD adD adD_parts adD_bytes adD_lows adD_highs cB cI cL sD ++ zwT adT adT_bytes cB cI cL sT_25) := hD
    have hG : g_W_put_c25 N sD v1 sT_25 = some (a, c9, z9) := hG
    unfold g_W_put_c25 at hG
    refine lv_aload_n hx hb d_W_put_28 rfl (lv_at hl 0 rfl) ?_
    refine va_get (D := (dC, dI)) (ci := 0) (v := .ref adD) (C := R_W) (T := F_W) (N := 7) hx hb hts zi_W hown zz.1 hP 0 rfl rfl 5 (by decide) (hts (.fieldLink R_W 49 "WireCodec" "drafted" "LWireCodec$Draft;") zin_W_49) (fun _ h9 => h9) rfl d_W_put_29 ?_
    refine lv_aload_n hx hb d_W_put_32 rfl (lv_at hl 0 rfl) ?_
    refine va_get (D := (dC, dI)) (ci := 0) (v := .ref adT) (C := R_W) (T := F_W) (N := 7) hx hb hts zi_W hown zz.1 hP 0 rfl rfl 0 (by decide) (hts (.fieldLink R_W 12 "WireCodec" "tape" "LWireCodec$Tape;") zin_W_12) (fun _ h9 => h9) rfl d_W_put_33 ?_
    refine lv_iload_n hx hb d_W_put_36 rfl (lv_at hl 1 rfl) ?_
    obtain ⟨a_37, c_37, z_37, c9, z9, hx_37, hG, kc, kz⟩ := zcbde hG kc kz
    have hr_37 := zrunV (p := p) (e := e) (below := below) (meth := meth) (As := [.ref adT, .int v1]) (rest := []) (st0 := [.int v1, .ref adT, .ref adD]) (cells := cells) (slots := slots) X zz hP hD hS hA [6, 7, 1, 2, 3, 4, 5] (by decide) rfl (c_D_writeFrame l dC dI cB cI cL H.size adT adT_bytes adD adD_parts adD_bytes adD_lows adD_highs N sT_25 sD v1 _ _ _ hx_37) zy_D_writeFrame zv_D_writeFrame (hts (.methodLink R_W 234 y_D_writeFrame) zin_W_234) hl rfl rfl d_W_put_37 (lv_room (Nat.le_of_ble_eq_true rfl)) rfl rfl ⟨Nat.le_trans (Nat.le_of_ble_eq_true rfl) hRf, Nat.le_trans (Nat.le_of_ble_eq_true rfl) hRl⟩ ⟨zle kc hRc, zle kz hRz⟩ 2 6 rfl rfl
    refine zcallv (wr := (zwW adW adT adR adG adF adH adD adP)) hr_37 hP hD hS hA [6, 7, 1, 2, 3, 4, 5] [0] rfl rfl (by decide) (by decide) (fun u_37 H locs hw_37 hP hD hS => ?_)
    obtain ⟨sT_37, qT_bytes_37⟩ := u_37
    subst hw_37
    have hP : va_P (dC, dI) zcl (zwW adW adT adR adG adF adH adD adP ++ zwT adT qT_bytes_37 cB cI cL sT_37 ++ zwD adD adD_parts adD_bytes adD_lows adD_highs cB cI cL sD) H := hP
    have hD : va_D A (zwW adW adT adR adG adF adH adD adP ++ zwT adT qT_bytes_37 cB cI cL sT_37 ++ zwD adD adD_parts adD_bytes adD_lows adD_highs cB cI cL sD) := hD
    have hG : g_W_put_c37 sT_37 = some (a, c9, z9) := hG
    unfold g_W_put_c37 at hG
    generalize cells + c_37 = cells at kc ⊢
    generalize slots + z_37 = slots at kz ⊢
    refine lv_aload_n hx hb d_W_put_40 rfl (lv_at hl 0 rfl) ?_
    obtain ⟨a_41, hx_41, hG⟩ := zb hG
    obtain ⟨c9, z9, hG, kc, kz⟩ := zcae hG kc kz
    have hr_41 := zrunXV (p := p) (e := e) (below := below) (meth := meth) (As := []) (rest := []) (st0 := [.ref adW]) (cells := cells) (slots := slots) X zz hP hD hS hA [0, 1, 2] (by decide) rfl (c_W_keepWritten l dC dI cB cI cL H.size adW adT qT_bytes_37 adR adG adF adH adD adP sT_37 _ hx_41 htr) zy_W_keepWritten zv_W_keepWritten (hts (.methodLink R_W 74 y_W_keepWritten) zin_W_74) hl rfl rfl d_W_put_41 (lv_room (Nat.le_of_ble_eq_true rfl)) rfl rfl ⟨Nat.le_trans (Nat.le_of_ble_eq_true rfl) hRf, Nat.le_trans (Nat.le_of_ble_eq_true rfl) hRl⟩ ⟨zle kc hRc, zle kz hRz⟩ 0 0 rfl rfl
    refine zcallX (wr := (zwD adD adD_parts adD_bytes adD_lows adD_highs cB cI cL sD)) hr_41 hP hD hS hA [0, 1, 2] [3, 4, 5, 6, 7] rfl rfl (by decide) (by decide) hnh hlocks (Nat.le.intro kc) (Nat.le.intro kz) (fun k_41 u_41 t9 q9 hw_41 hP hD hF9 ht9 => ?_) (fun r_41 u_41 H locs hw_41 hP hD hS => ?_)
    · obtain ⟨sT_41, rfl⟩ : ∃ z, z = u_41 := ⟨_, rfl⟩
      subst hw_41
      have hP : va_P (dC, dI) zcl (zwD adD adD_parts adD_bytes adD_lows adD_highs cB cI cL sD ++ zwW adW adT adR adG adF adH adD adP ++ zwT adT qT_bytes_37 cB cI cL sT_41) t9.heap := hP
      have hD : va_D A (zwD adD adD_parts adD_bytes adD_lows adD_highs cB cI cL sD ++ zwW adW adT adR adG adF adH adD adP ++ zwT adT qT_bytes_37 cB cI cL sT_41) := hD
      obtain ⟨hG, e91, e92⟩ := zc0 (show some _ = some _ from hG)
      exact ⟨(sT_41, qT_bytes_37), (hP.sub [5, 6, 7, 0, 1, 2, 3, 4] rfl), (hD.sub [5, 6, 7, 0, 1, 2, 3, 4] (by decide) rfl), hF9, Or.inr ⟨k_41, q9, rfl, hG, ht9⟩⟩
    obtain ⟨sT_41, rfl⟩ : ∃ z, z = u_41 := ⟨_, rfl⟩
    subst hw_41
    have hP : va_P (dC, dI) zcl (zwD adD adD_parts adD_bytes adD_lows adD_highs cB cI cL sD ++ zwW adW adT adR adG adF adH adD adP ++ zwT adT qT_bytes_37 cB cI cL sT_41) H := hP
    have hD : va_D A (zwD adD adD_parts adD_bytes adD_lows adD_highs cB cI cL sD ++ zwW adW adT adR adG adF adH adD adP ++ zwT adT qT_bytes_37 cB cI cL sT_41) := hD
    have hG : g_W_put_c41 sT_41 r_41 = some (a, c9, z9) := hG
    unfold g_W_put_c41 at hG
    generalize cells + 1 = cells at kc ⊢
    generalize slots + 6 = slots at kz ⊢
    obtain ⟨hG, e91, e92⟩ := zc0 hG
    refine W.widen (k := tc) (n := tz) (Nat.le.intro kc) (Nat.le.intro kz) ?_
    exact zxreti (u := (sT_41, qT_bytes_37)) (v := r_41) X hlocks (hG) (hP.sub [5, 6, 7, 0, 1, 2, 3, 4] rfl) (hD.sub [5, 6, 7, 0, 1, 2, 3, 4] (by decide) rfl) hS d_W_put_44
  · have hG := zt hG hc
    obtain ⟨hG, e91, e92⟩ := zc0 hG
    exact zthrow htr X zz hnh hAs hA hS 1 (text := "the draft is no such frame") zin_W_60 zini_1 (by decide +kernel) zat_W_64 zfit_1 hl d_W_put_11 d_W_put_14 d_W_put_15 d_W_put_17 d_W_put_20 (Nat.le_trans (Nat.le_of_ble_eq_true rfl) hRf) (Nat.le_trans (Nat.le_of_ble_eq_true rfl) hRl) hRc hRz (by omega) (by omega) (fun t9 q9 hz9 ho9 ht9 => ⟨(sT, adT_bytes), va_P.kept hP (zold hP ho9), hD, zFr hS hz9 ho9, Or.inr ⟨1, q9, rfl, hG, ht9⟩⟩)
set_option maxRecDepth 100000 in
set_option maxHeartbeats 4000000 in
theorem c_W_put (l : Launch) (dC : Nat → ClassId) (dI : Nat → Nat → Nat) (cB cI cL : ClassId) (sz : Nat) (adW adT adT_bytes adD adD_parts adD_bytes adD_lows adD_highs adR adG adF adH adP : Nat) (N : Nat) (sT : zT) (sD : zD) (v1 : Int32) (a : (Int32 ⊕ Nat) × zT) (c9 z9 : Nat) (hG : g_W_put N sT sD v1 = some (a, c9, z9)) (htr : l.stackTraces = false) : zMet l y_W_put (zw y_W_put b_W_put 2 (some .int)) ({ frames := 7, cells := c9, slots := z9, locals := 200 }) (va_Pc [.ref adW, .int v1] (zpre dC dI cB cI cL sz (zwW adW adT adR adG adF adH adD adP ++ zwT adT adT_bytes cB cI cL sT ++ zwD adD adD_parts adD_bytes adD_lows adD_highs cB cI cL sD))) (q_W_put dC dI cB cI cL (va_A (zwW adW adT adR adG adF adH adD adP ++ zwT adT adT_bytes cB cI cL sT ++ zwD adD adD_parts adD_bytes adD_lows adD_highs cB cI cL sD) sz) adW adT adD adD_parts adD_bytes adD_lows adD_highs adR adG adF adH adP sD a) c9 z9 (va_A (zwW adW adT adR adG adF adH adD adP ++ zwT adT adT_bytes cB cI cL sT ++ zwD adD adD_parts adD_bytes adD_lows adD_highs cB cI cL sD) sz) := by
  refine zMet.ofW (cc := b_W_put) (maxL := 2) (ret := (some .int)) (by decide) rfl ?_
  intro p e s m args below meth c s₁ B hml hv
  obtain ⟨rfl, hsz, hP, zz, hD0⟩ := hv
  subst hsz
  have X := zx_of (F := 7) (L := 200) B hml (Nat.le_refl _) (Nat.le_refl _)
  have hD := hD0.self (sz := s.heap.size)
  have hA : ∀ q : Nat, s.heap.size ≤ q → va_A (zwW adW adT adR adG adF adH adD adP ++ zwT adT adT_bytes cB cI cL sT ++ zwD adD adD_parts adD_bytes adD_lows adD_highs cB cI cL sD) s.heap.size q := fun q h => Or.inr h
  have hl := lv_entry ([.ref adW, .int v1]) (n := 2) (Nat.le_of_ble_eq_true rfl)
  rw [lg_entry_eq]
  generalize (lg_sl ([.ref adW, .int v1]) ++ List.replicate (2 - (lg_sl ([.ref adW, .int v1])).length) Slot.unset).toArray = ls at hl ⊢
  have hnh := BodyLoose.noHandlers B (atoms_spec (ws := zw y_W_put b_W_put 2 (some .int)) B.pre _ List.mem_cons_self)
  have hAs := zstatics hP
  exact k_W_put_0 X hA zz htr hnh hAs N sT sD v1 a c9 z9 0 0 c9 z9 hG (Nat.zero_add _) (Nat.zero_add _) (Nat.le_refl _) (Nat.le_refl _) adW adT adT_bytes adD adD_parts adD_bytes adD_lows adD_highs _ _ hP hD va_S.rf ls hl
noncomputable def g_W_parameters_c121 (sR : zR) (sG : zG) (sP : zP) (r_121 : Int32) : Option ((Int32 ⊕ Nat) × zR × zG × zP) := some (.inl r_121, sR, sG, sP)
noncomputable def g_W_parameters_114 (N : Nat) (sT : zT) (sR : zR) (sG : zG) (sP : zP) : Option ((Int32 ⊕ Nat) × zR × zG × zP) := (g_In_bitCount (zP_seen sP)).bind (fun a => g_W_parameters_c121 sR sG sP a)
noncomputable def g_W_parameters_c103 (sR_78 : zR) (sG_96 : zG) (sP_103 : zP) : Option ((Int32 ⊕ Nat) × zR × zG × zP) := some (.inl (-1 : Int32), sR_78, sG_96, sP_103)
noncomputable def g_W_parameters_c96 (sR_78 : zR) (sP_78 : zP) (sG_96 : zG) : Option ((Int32 ⊕ Nat) × zR × zG × zP) := (g_P_forget sP_78).bind (fun a => g_W_parameters_c103 sR_78 sG_96 a)
noncomputable def g_W_parameters_c78 (kr : zT → zR → zG → zP → Int32 → Int32 → Option ((Int32 ⊕ Nat) × zR × zG × zP)) (sT : zT) (sR : zR) (sG : zG) (v2 : Int32) (v3 : Int32) (sR_78 : zR) (sP_78 : zP) (r_78 : Int32) : Option ((Int32 ⊕ Nat) × zR × zG × zP) := if r_78 = (0 : Int32) then (kr sT sR_78 sG sP_78 v2 (v3 + 1)) else ((g_G_fail sG r_78 (zR_place sR)).bind (fun a => g_W_parameters_c96 sR_78 sP_78 a))
noncomputable def g_W_parameters_c54 (N : Nat) (kr : zT → zR → zG → zP → Int32 → Int32 → Option ((Int32 ⊕ Nat) × zR × zG × zP)) (sT : zT) (sR : zR) (sG : zG) (sP : zP) (v2 : Int32) (v3 : Int32) (r_54 : Int32) : Option ((Int32 ⊕ Nat) × zR × zG × zP) := if r_54 ≤ (0 : Int32) then (g_W_parameters_114 N sT sR sG sP) else ((g_P_parseNext N sT sR sP v2).bind (fun a => g_W_parameters_c78 kr sT sR sG v2 v3 a.2.1 a.2.2 a.1))
noncomputable def g_W_parameters_44_b (N : Nat) (kr : zT → zR → zG → zP → Int32 → Int32 → Option ((Int32 ⊕ Nat) × zR × zG × zP)) (sT : zT) (sR : zR) (sG : zG) (sP : zP) (v2 : Int32) (v3 : Int32) : Option ((Int32 ⊕ Nat) × zR × zG × zP) := if (65536 : Int32) ≤ v3 then (g_W_parameters_114 N sT sR sG sP) else ((g_R_left sR).bind (fun a => g_W_parameters_c54 N kr sT sR sG sP v2 v3 a))
noncomputable def g_W_parameters_44 (N : Nat) : Nat → zT → zR → zG → zP → Int32 → Int32 → Option ((Int32 ⊕ Nat) × zR × zG × zP)
  | 0 => fun _ _ _ _ _ _ => none
  | k + 1 => fun sT sR sG sP v2 v3 => g_W_parameters_44_b N (g_W_parameters_44 N k) sT sR sG sP v2 v3
noncomputable def g_W_parameters_c39 (N : Nat) (sT : zT) (v2 : Int32) (sG_17 : zG) (sP_24 : zP) (sR_39 : zR) : Option ((Int32 ⊕ Nat) × zR × zG × zP) := g_W_parameters_44 N N sT sR_39 sG_17 sP_24 v2 (0 : Int32)
noncomputable def g_W_parameters_c24 (N : Nat) (sT : zT) (sR : zR) (v1 : Int32) (v2 : Int32) (sG_17 : zG) (sP_24 : zP) : Option ((Int32 ⊕ Nat) × zR × zG × zP) := (g_R_start sR v1 (zG_limit sG_17)).bind (fun a => g_W_parameters_c39 N sT v2 sG_17 sP_24 a)
noncomputable def g_W_parameters_c17 (N : Nat) (sT : zT) (sR : zR) (sP : zP) (v1 : Int32) (v2 : Int32) (sG_17 : zG) : Option ((Int32 ⊕ Nat) × zR × zG × zP) := (g_P_forget sP).bind (fun a => g_W_parameters_c24 N sT sR v1 v2 sG_17 a)
noncomputable def g_W_parameters_c2 (N : Nat) (sT : zT) (sR : zR) (sG : zG) (sP : zP) (v1 : Int32) (v2 : Int32) : Option ((Int32 ⊕ Nat) × zR × zG × zP) := (g_G_restart sG (zT_length sT) (0 : Int32)).bind (fun a => g_W_parameters_c17 N sT sR sP v1 v2 a)
noncomputable def g_W_parameters (N : Nat) (sT : zT) (sR : zR) (sG : zG) (sP : zP) (v1 : Int32) (v2 : Int32) : Option ((Int32 ⊕ Nat) × zR × zG × zP) := (g_W_requirePlace sT v1).bind (fun a => zmx (a) (fun r9 => g_W_parameters_c2 N sT sR sG sP v1 v2) (fun k9 => some (.inr k9, sR, sG, sP)))
def q_W_parameters (dC : Nat → ClassId) (dI : Nat → Nat → Nat) (cB cI cL : ClassId) (A : Nat → Prop) (adW : Nat) (adT : Nat) (adT_bytes : Nat) (adR : Nat) (adG : Nat) (adG_places : Nat) (adP : Nat) (adP_values : Nat) (adF : Nat) (adH : Nat) (adD : Nat) (sT : zT) (a : (Int32 ⊕ Nat) × zR × zG × zP) : Array Value → State → Outcome → State → Prop := zQx (α := Int32) (fun r => some (.int r)) (fun r (u : zR × zG × zP) => (r, u.1, u.2.1, u.2.2) = a) (dC, dI) (fun u => (zwW adW adT adR adG adF adH adD adP ++ zwT adT adT_bytes cB cI cL sT ++ zwR adR adT cB cI cL u.1 ++ zwG adG adG_places cB cI cL u.2.1 ++ zwP adP adP_values cB cI cL u.2.2)) A
set_option maxRecDepth 100000 in
set_option maxHeartbeats 4000000 in
theorem k_W_parameters_114 {p : Program} {l : Launch} {e : Env} {R : Room} {s : State} {m : MethodId} {args : Array Value} {below : List Frame} {meth : Method} {c : Code} {dC : Nat → ClassId} {dI : Nat → Nat → Nat} {cB cI cL : ClassId} {A : Nat → Prop} {adF adH adD : Nat} (X : zx p s m args meth c R R_W b_W_parameters (some .int) 6 7 119) (hA : ∀ q, s.heap.size ≤ q → A q) (zz : zk dC dI cB cI cL A s) (htr : l.stackTraces = false) (hnh : c.exceptionTable.isEmpty = true) (hAs : ∀ q, A q → ∀ cell, s.heap[q]? = some cell → cell.vm.isStatics = false) (hRc : 1 ≤ R.cells) (hRz : 6 ≤ R.slots)  (N : Nat) (sT : zT) (sR : zR) (sG : zG) (sP : zP) (a : (Int32 ⊕ Nat) × zR × zG × zP) (hG : g_W_parameters_114 N sT sR sG sP = some a) (adW adT adT_bytes adR adG adG_places adP adP_values : Nat) (H : Heap) (locs : List Loc) (hP : va_P (dC, dI) zcl (zwW adW adT adR adG adF adH adD adP ++ zwT adT adT_bytes cB cI cL sT ++ zwR adR adT cB cI cL sR ++ zwG adG adG_places cB cI cL sG ++ zwP adP adP_values cB cI cL sP) H) (hD : va_D A (zwW adW adT adR adG adF adH adD adP ++ zwT adT adT_bytes cB cI cL sT ++ zwR adR adT cB cI cL sR ++ zwG adG adG_places cB cI cL sG ++ zwP adP adP_values cB cI cL sP)) (hS : va_S A s.heap H locs) (ls : Array Slot) (hl : lv_has ls 6 [(0, .ref adW)]) : W p l e R s m args below meth c H locs 1 6 (zMQ below (q_W_parameters dC dI cB cI cL A adW adT adT_bytes adR adG adG_places adP adP_values adF adH adD sT a) args s 1 6 A) (F0 m 114 ls []) := by
  obtain ⟨hx, hb, hr, hml, hown, hts, hlocks, hRf, hRl⟩ := id X
  unfold g_W_parameters_114 at hG
  refine lv_aload_n hx hb d_W_parameters_114 rfl (lv_at hl 0 rfl) ?_
  refine va_get (D := (dC, dI)) (ci := 0) (v := .ref adP) (C := R_W) (T := F_W) (N := 7) hx hb hts zi_W hown zz.1 hP 0 rfl rfl 6 (by decide) (hts (.fieldLink R_W 56 "WireCodec" "told" "LWireCodec$Parameters;") zin_W_56) (fun _ h9 => h9) rfl d_W_parameters_115 ?_
  refine va_get (D := (dC, dI)) (ci := 7) (v := .int (zP_seen sP)) (C := R_P) (T := F_P) (N := 2) hx hb hts zi_P hown zz.1 hP 6 rfl rfl 1 (by decide) (hts (.fieldLink R_W 290 "WireCodec$Parameters" "seen" "I") zin_W_290) (fun _ h9 => h9) rfl d_W_parameters_118 ?_
  obtain ⟨a_121, hx_121, hG⟩ := zb hG
  have hr_121 := zrunS (p := p) (e := e) (below := below) (meth := meth) (As := [.int (zP_seen sP)]) (rest := []) (st0 := [.int (zP_seen sP)]) (cells := 1) (slots := 6) X zz hP hD hS hA [] (by decide) rfl (c_In_bitCount l dC dI cB cI cL H.size (zP_seen sP) _ hx_121) zy_In_bitCount zv_In_bitCount (hts (.methodLink R_W 293 y_In_bitCount) zin_W_293) hl rfl rfl d_W_parameters_121 (lv_room (Nat.le_of_ble_eq_true rfl)) rfl rfl ⟨Nat.le_trans (Nat.le_of_ble_eq_true rfl) hRf, Nat.le_trans (Nat.le_of_ble_eq_true rfl) hRl⟩ ⟨(Nat.le_trans (Nat.le_of_ble_eq_true rfl) hRc), (Nat.le_trans (Nat.le_of_ble_eq_true rfl) hRz)⟩
  refine zcalli (wr := (zwW adW adT adR adG adF adH adD adP ++ zwT adT adT_bytes cB cI cL sT ++ zwR adR adT cB cI cL sR ++ zwG adG adG_places cB cI cL sG ++ zwP adP adP_values cB cI cL sP)) hr_121 hP hD hS hA [] [0, 1, 2, 3, 4, 5, 6, 7] rfl rfl (by decide) (by decide) (fun r_121 u_121 H locs hw_121 hP hD hS => ?_)
  subst hw_121
  have hP : va_P (dC, dI) zcl (zwW adW adT adR adG adF adH adD adP ++ zwT adT adT_bytes cB cI cL sT ++ zwR adR adT cB cI cL sR ++ zwG adG adG_places cB cI cL sG ++ zwP adP adP_values cB cI cL sP) H := hP
  have hD : va_D A (zwW adW adT adR adG adF adH adD adP ++ zwT adT adT_bytes cB cI cL sT ++ zwR adR adT cB cI cL sR ++ zwG adG adG_places cB cI cL sG ++ zwP adP adP_values cB cI cL sP) := hD
  have hG : g_W_parameters_c121 sR sG sP r_121 = some a := hG
  unfold g_W_parameters_c121 at hG
  exact zxreti (u := (sR, sG, sP)) (v := r_121) X hlocks (Option.some.inj hG) hP hD hS d_W_parameters_124
set_option maxRecDepth 100000 in
set_option maxHeartbeats 4000000 in
theorem k_W_parameters_44_b {p : Program} {l : Launch} {e : Env} {R : Room} {s : State} {m : MethodId} {args : Array Value} {below : List Frame} {meth : Method} {c : Code} {dC : Nat → ClassId} {dI : Nat → Nat → Nat} {cB cI cL : ClassId} {A : Nat → Prop} {adF adH adD : Nat} (kr : zT → zR → zG → zP → Int32 → Int32 → Option ((Int32 ⊕ Nat) × zR × zG × zP)) (hrec : ∀ (sT : zT) (sR : zR) (sG : zG) (sP : zP) (v2 : Int32) (v3 : Int32) (a : (Int32 ⊕ Nat) × zR × zG × zP), kr sT sR sG sP v2 v3 = some a → ∀ (adW adT adT_bytes adR adG adG_places adP adP_values : Nat) (H : Heap) (locs : List Loc), va_P (dC, dI) zcl (zwW adW adT adR adG adF adH adD adP ++ zwT adT adT_bytes cB cI cL sT ++ zwR adR adT cB cI cL sR ++ zwG adG adG_places cB cI cL sG ++ zwP adP adP_values cB cI cL sP) H → va_D A (zwW adW adT adR adG adF adH adD adP ++ zwT adT adT_bytes cB cI cL sT ++ zwR adR adT cB cI cL sR ++ zwG adG adG_places cB cI cL sG ++ zwP adP adP_values cB cI cL sP) → va_S A s.heap H locs → ∀ ls : Array Slot, lv_has ls 6 [(0, .ref adW), (2, .int v2), (3, .int v3)] → W p l e R s m args below meth c H locs 1 6 (zMQ below (q_W_parameters dC dI cB cI cL A adW adT adT_bytes adR adG adG_places adP adP_values adF adH adD sT a) args s 1 6 A) (F0 m 44 ls [])) (X : zx p s m args meth c R R_W b_W_parameters (some .int) 6 7 119) (hA : ∀ q, s.heap.size ≤ q → A q) (zz : zk dC dI cB cI cL A s) (htr : l.stackTraces = false) (hnh : c.exceptionTable.isEmpty = true) (hAs : ∀ q, A q → ∀ cell, s.heap[q]? = some cell → cell.vm.isStatics = false) (hRc : 1 ≤ R.cells) (hRz : 6 ≤ R.slots)  (N : Nat) (sT : zT) (sR : zR) (sG : zG) (sP : zP) (v2 : Int32) (v3 : Int32) (a : (Int32 ⊕ Nat) × zR × zG × zP) (hG : g_W_parameters_44_b N kr sT sR sG sP v2 v3 = some a) (adW adT adT_bytes adR adG adG_places adP adP_values : Nat) (H : Heap) (locs : List Loc) (hP : va_P (dC, dI) zcl (zwW adW adT adR adG adF adH adD adP ++ zwT adT adT_bytes cB cI cL sT ++ zwR adR adT cB cI cL sR ++ zwG adG adG_places cB cI cL sG ++ zwP adP adP_values cB cI cL sP) H) (hD : va_D A (zwW adW adT adR adG adF adH adD adP ++ zwT adT adT_bytes cB cI cL sT ++ zwR adR adT cB cI cL sR ++ zwG adG adG_places cB cI cL sG ++ zwP adP adP_values cB cI cL sP)) (hS : va_S A s.heap H locs) (ls : Array Slot) (hl : lv_has ls 6 [(0, .ref adW), (2, .int v2), (3, .int v3)]) : W p l e R s m args below meth c H locs 1 6 (zMQ below (q_W_parameters dC dI cB cI cL A adW adT adT_bytes adR adG adG_places adP adP_values adF adH adD sT a) args s 1 6 A) (F0 m 44 ls []) := by
  obtain ⟨hx, hb, hr, hml, hown, hts, hlocks, hRf, hRl⟩ := id X
  unfold g_W_parameters_44_b at hG
  refine lv_iload_n hx hb d_W_parameters_44 rfl (lv_at hl 2 rfl) ?_
  refine lv_ldc (v := (65536 : Int32)) hx hb hown (hts (.constant R_W 135 (65536 : Int32)) zin_W_135) d_W_parameters_45 ?_
  refine lv_icmp_ge (tgt := 114) hx hb d_W_parameters_47 (by decide) (fun hc => ?_) (fun hc => ?_)
  · have hG := zt hG hc
    exact k_W_parameters_114 X hA zz htr hnh hAs hRc hRz N sT sR sG sP _ hG adW adT adT_bytes adR adG adG_places adP adP_values _ _ hP hD hS _ (lv_sub hl [0] rfl)
  · have hG := zf hG hc
    refine lv_aload_n hx hb d_W_parameters_50 rfl (lv_at hl 0 rfl) ?_
    refine va_get (D := (dC, dI)) (ci := 0) (v := .ref adR) (C := R_W) (T := F_W) (N := 7) hx hb hts zi_W hown zz.1 hP 0 rfl rfl 1 (by decide) (hts (.fieldLink R_W 21 "WireCodec" "reader" "LWireCodec$Reader;") zin_W_21) (fun _ h9 => h9) rfl d_W_parameters_51 ?_
    obtain ⟨a_54, hx_54, hG⟩ := zb hG
    have hr_54 := zrunV (p := p) (e := e) (below := below) (meth := meth) (As := []) (rest := []) (st0 := [.ref adR]) (cells := 1) (slots := 6) X zz hP hD hS hA [3] (by decide) rfl (c_R_left l dC dI cB cI cL H.size adR adT sR _ hx_54) zy_R_left zv_R_left (hts (.methodLink R_W 136 y_R_left) zin_W_136) hl rfl rfl d_W_parameters_54 (lv_room (Nat.le_of_ble_eq_true rfl)) rfl rfl ⟨Nat.le_trans (Nat.le_of_ble_eq_true rfl) hRf, Nat.le_trans (Nat.le_of_ble_eq_true rfl) hRl⟩ ⟨(Nat.le_trans (Nat.le_of_ble_eq_true rfl) hRc), (Nat.le_trans (Nat.le_of_ble_eq_true rfl) hRz)⟩ 0 2 rfl rfl
    refine zcalli (wr := (zwW adW adT adR adG adF adH adD adP ++ zwT adT adT_bytes cB cI cL sT ++ zwG adG adG_places cB cI cL sG ++ zwP adP adP_values cB cI cL sP)) hr_54 hP hD hS hA [3] [0, 1, 2, 4, 5, 6, 7] rfl rfl (by decide) (by decide) (fun r_54 u_54 H locs hw_54 hP hD hS => ?_)
    subst hw_54
    have hP : va_P (dC, dI) zcl (zwW adW adT adR adG adF adH adD adP ++ zwT adT adT_bytes cB cI cL sT ++ zwG adG adG_places cB cI cL sG ++ zwP adP adP_values cB cI cL sP ++ zwR adR adT cB cI cL sR) H := hP
    have hD : va_D A (zwW adW adT adR adG adF adH adD adP ++ zwT adT adT_bytes cB cI cL sT ++ zwG adG adG_places cB cI cL sG ++ zwP adP adP_values cB cI cL sP ++ zwR adR adT cB cI cL sR) := hD
    have hG : g_W_parameters_c54 N kr sT sR sG sP v2 v3 r_54 = some a := hG
    unfold g_W_parameters_c54 at hG
    refine lv_if_le (tgt := 114) hx hb d_W_parameters_57 (by decide) (fun hc => ?_) (fun hc => ?_)
    · have hG := zt hG hc
      exact k_W_parameters_114 X hA zz htr hnh hAs hRc hRz N sT sR sG sP _ hG adW adT adT_bytes adR adG adG_places adP adP_values _ _ (hP.sub [0, 1, 2, 7, 3, 4, 5, 6] rfl) (hD.sub [0, 1, 2, 7, 3, 4, 5, 6] (by decide) rfl) hS _ (lv_sub hl [0] rfl)
    · have hG := zf hG hc
      refine lv_aload_n hx hb d_W_parameters_60 rfl (lv_at hl 0 rfl) ?_
      refine va_get (D := (dC, dI)) (ci := 0) (v := .ref adR) (C := R_W) (T := F_W) (N := 7) hx hb hts zi_W hown zz.1 hP 0 rfl rfl 1 (by decide) (hts (.fieldLink R_W 21 "WireCodec" "reader" "LWireCodec$Reader;") zin_W_21) (fun _ h9 => h9) rfl d_W_parameters_61 ?_
      refine va_get (D := (dC, dI)) (ci := 2) (v := .int (zR_place sR)) (C := R_R) (T := F_R) (N := 4) hx hb hts zi_R hown zz.1 hP 7 rfl rfl 1 (by decide) (hts (.fieldLink R_W 139 "WireCodec$Reader" "place" "I") zin_W_139) (fun _ h9 => h9) rfl d_W_parameters_64 ?_
      refine lv_istore (lv' := [(4, .int (zR_place sR)), (0, .ref adW), (2, .int v2), (3, .int v3)]) hx hb d_W_parameters_67 hl (by decide) rfl (fun ls hl => ?_)
      refine lv_aload_n hx hb d_W_parameters_69 rfl (lv_at hl 1 rfl) ?_
      refine va_get (D := (dC, dI)) (ci := 0) (v := .ref adP) (C := R_W) (T := F_W) (N := 7) hx hb hts zi_W hown zz.1 hP 0 rfl rfl 6 (by decide) (hts (.fieldLink R_W 56 "WireCodec" "told" "LWireCodec$Parameters;") zin_W_56) (fun _ h9 => h9) rfl d_W_parameters_70 ?_
      refine lv_aload_n hx hb d_W_parameters_73 rfl (lv_at hl 1 rfl) ?_
      refine va_get (D := (dC, dI)) (ci := 0) (v := .ref adR) (C := R_W) (T := F_W) (N := 7) hx hb hts zi_W hown zz.1 hP 0 rfl rfl 1 (by decide) (hts (.fieldLink R_W 21 "WireCodec" "reader" "LWireCodec$Reader;") zin_W_21) (fun _ h9 => h9) rfl d_W_parameters_74 ?_
      refine lv_iload_n hx hb d_W_parameters_77 rfl (lv_at hl 2 rfl) ?_
      obtain ⟨a_78, hx_78, hG⟩ := zb hG
      have hr_78 := zrunV (p := p) (e := e) (below := below) (meth := meth) (As := [.ref adR, .int v2]) (rest := []) (st0 := [.int v2, .ref adR, .ref adP]) (cells := 1) (slots := 6) X zz hP hD hS hA [1, 2, 7, 5, 6] (by decide) rfl (c_P_parseNext l dC dI cB cI cL H.size adT adT_bytes adR adP adP_values N sT sR sP v2 _ hx_78) zy_P_parseNext zv_P_parseNext (hts (.methodLink R_W 286 y_P_parseNext) zin_W_286) hl rfl rfl d_W_parameters_78 (lv_room (Nat.le_of_ble_eq_true rfl)) rfl rfl ⟨Nat.le_trans (Nat.le_of_ble_eq_true rfl) hRf, Nat.le_trans (Nat.le_of_ble_eq_true rfl) hRl⟩ ⟨(Nat.le_trans (Nat.le_of_ble_eq_true rfl) hRc), (Nat.le_trans (Nat.le_of_ble_eq_true rfl) hRz)⟩ 3 7 rfl rfl
      refine zcalli (wr := (zwW adW adT adR adG adF adH adD adP ++ zwG adG adG_places cB cI cL sG)) hr_78 hP hD hS hA [1, 2, 7, 5, 6] [0, 3, 4] rfl rfl (by decide) (by decide) (fun r_78 u_78 H locs hw_78 hP hD hS => ?_)
      obtain ⟨sR_78, sP_78⟩ := u_78
      subst hw_78
      have hP : va_P (dC, dI) zcl (zwW adW adT adR adG adF adH adD adP ++ zwG adG adG_places cB cI cL sG ++ zwT adT adT_bytes cB cI cL sT ++ zwR adR adT cB cI cL sR_78 ++ zwP adP adP_values cB cI cL sP_78) H := hP
      have hD : va_D A (zwW adW adT adR adG adF adH adD adP ++ zwG adG adG_places cB cI cL sG ++ zwT adT adT_bytes cB cI cL sT ++ zwR adR adT cB cI cL sR_78 ++ zwP adP adP_values cB cI cL sP_78) := hD
      have hG : g_W_parameters_c78 kr sT sR sG v2 v3 sR_78 sP_78 r_78 = some a := hG
      unfold g_W_parameters_c78 at hG
      refine lv_istore (lv' := [(5, .int r_78), (4, .int (zR_place sR)), (0, .ref adW), (2, .int v2), (3, .int v3)]) hx hb d_W_parameters_81 hl (by decide) rfl (fun ls hl => ?_)
      refine lv_iload hx hb d_W_parameters_83 (lv_at hl 0 rfl) ?_
      refine lv_if_eq (tgt := 108) hx hb d_W_parameters_85 (by decide) (fun hc => ?_) (fun hc => ?_)
      · have hG := zt hG hc
        refine lv_iinc (v := v3 + 1) (lv' := [(3, .int (v3 + 1)), (5, .int r_78), (4, .int (zR_place sR)), (0, .ref adW), (2, .int v2)]) hx hb d_W_parameters_108 hl (k := 4) rfl rfl (by decide) rfl (fun ls hl => ?_)
        refine lv_goto (tgt := 44) hx hb d_W_parameters_111 (by decide) ?_
        exact hrec sT sR_78 sG sP_78 v2 (v3 + 1) _ hG adW adT adT_bytes adR adG adG_places adP adP_values _ _ (hP.sub [0, 3, 4, 5, 1, 2, 6, 7] rfl) (hD.sub [0, 3, 4, 5, 1, 2, 6, 7] (by decide) rfl) hS _ (lv_sub hl [3, 4, 0] rfl)
      · have hG := zf hG hc
        refine lv_aload_n hx hb d_W_parameters_88 rfl (lv_at hl 2 rfl) ?_
        refine va_get (D := (dC, dI)) (ci := 0) (v := .ref adG) (C := R_W) (T := F_W) (N := 7) hx hb hts zi_W hown zz.1 hP 0 rfl rfl 2 (by decide) (hts (.fieldLink R_W 28 "WireCodec" "reading" "LWireCodec$Reading;") zin_W_28) (fun _ h9 => h9) rfl d_W_parameters_89 ?_
        refine lv_iload hx hb d_W_parameters_92 (lv_at hl 0 rfl) ?_
        refine lv_iload hx hb d_W_parameters_94 (lv_at hl 1 rfl) ?_
        obtain ⟨a_96, hx_96, hG⟩ := zb hG
        have hr_96 := zrunV (p := p) (e := e) (below := below) (meth := meth) (As := [.int r_78, .int (zR_place sR)]) (rest := []) (st0 := [.int (zR_place sR), .int r_78, .ref adG]) (cells := 1) (slots := 6) X zz hP hD hS hA [1, 2] (by decide) rfl (c_G_fail l dC dI cB cI cL H.size adG adG_places sG r_78 (zR_place sR) _ hx_96) zy_G_fail zv_G_fail (hts (.methodLink R_W 146 y_G_fail) zin_W_146) hl rfl rfl d_W_parameters_96 (lv_room (Nat.le_of_ble_eq_true rfl)) rfl rfl ⟨Nat.le_trans (Nat.le_of_ble_eq_true rfl) hRf, Nat.le_trans (Nat.le_of_ble_eq_true rfl) hRl⟩ ⟨(Nat.le_trans (Nat.le_of_ble_eq_true rfl) hRc), (Nat.le_trans (Nat.le_of_ble_eq_true rfl) hRz)⟩ 0 3 rfl rfl
        refine zcallv (wr := (zwW adW adT adR adG adF adH adD adP ++ zwT adT adT_bytes cB cI cL sT ++ zwR adR adT cB cI cL sR_78 ++ zwP adP adP_values cB cI cL sP_78)) hr_96 hP hD hS hA [1, 2] [0, 3, 4, 5, 6, 7] rfl rfl (by decide) (by decide) (fun u_96 H locs hw_96 hP hD hS => ?_)
        obtain ⟨sG_96, rfl⟩ : ∃ z, z = u_96 := ⟨_, rfl⟩
        subst hw_96
        have hP : va_P (dC, dI) zcl (zwW adW adT adR adG adF adH adD adP ++ zwT adT adT_bytes cB cI cL sT ++ zwR adR adT cB cI cL sR_78 ++ zwP adP adP_values cB cI cL sP_78 ++ zwG adG adG_places cB cI cL sG_96) H := hP
        have hD : va_D A (zwW adW adT adR adG adF adH adD adP ++ zwT adT adT_bytes cB cI cL sT ++ zwR adR adT cB cI cL sR_78 ++ zwP adP adP_values cB cI cL sP_78 ++ zwG adG adG_places cB cI cL sG_96) := hD
        have hG : g_W_parameters_c96 sR_78 sP_78 sG_96 = some a := hG
        unfold g_W_parameters_c96 at hG
        refine lv_aload_n hx hb d_W_parameters_99 rfl (lv_at hl 2 rfl) ?_
        refine va_get (D := (dC, dI)) (ci := 0) (v := .ref adP) (C := R_W) (T := F_W) (N := 7) hx hb hts zi_W hown zz.1 hP 0 rfl rfl 6 (by decide) (hts (.fieldLink R_W 56 "WireCodec" "told" "LWireCodec$Parameters;") zin_W_56) (fun _ h9 => h9) rfl d_W_parameters_100 ?_
        obtain ⟨a_103, hx_103, hG⟩ := zb hG
        have hr_103 := zrunV (p := p) (e := e) (below := below) (meth := meth) (As := []) (rest := []) (st0 := [.ref adP]) (cells := 1) (slots := 6) X zz hP hD hS hA [4, 5] (by decide) rfl (c_P_forget l dC dI cB cI cL H.size adP adP_values sP_78 _ hx_103) zy_P_forget zv_P_forget (hts (.methodLink R_W 103 y_P_forget) zin_W_103) hl rfl rfl d_W_parameters_103 (lv_room (Nat.le_of_ble_eq_true rfl)) rfl rfl ⟨Nat.le_trans (Nat.le_of_ble_eq_true rfl) hRf, Nat.le_trans (Nat.le_of_ble_eq_true rfl) hRl⟩ ⟨(Nat.le_trans (Nat.le_of_ble_eq_true rfl) hRc), (Nat.le_trans (Nat.le_of_ble_eq_true rfl) hRz)⟩ 0 7 rfl rfl
        refine zcallv (wr := (zwW adW adT adR adG adF adH adD adP ++ zwT adT adT_bytes cB cI cL sT ++ zwR adR adT cB cI cL sR_78 ++ zwG adG adG_places cB cI cL sG_96)) hr_103 hP hD hS hA [4, 5] [0, 1, 2, 3, 6, 7] rfl rfl (by decide) (by decide) (fun u_103 H locs hw_103 hP hD hS => ?_)
        obtain ⟨sP_103, rfl⟩ : ∃ z, z = u_103 := ⟨_, rfl⟩
        subst hw_103
        have hP : va_P (dC, dI) zcl (zwW adW adT adR adG adF adH adD adP ++ zwT adT adT_bytes cB cI cL sT ++ zwR adR adT cB cI cL sR_78 ++ zwG adG adG_places cB cI cL sG_96 ++ zwP adP adP_values cB cI cL sP_103) H := hP
        have hD : va_D A (zwW adW adT adR adG adF adH adD adP ++ zwT adT adT_bytes cB cI cL sT ++ zwR adR adT cB cI cL sR_78 ++ zwG adG adG_places cB cI cL sG_96 ++ zwP adP adP_values cB cI cL sP_103) := hD
        have hG : g_W_parameters_c103 sR_78 sG_96 sP_103 = some a := hG
        unfold g_W_parameters_c103 at hG
        refine lv_iconst (v := (-1 : Int32)) hx hb d_W_parameters_106 (by decide) ?_
        exact zxreti (u := (sR_78, sG_96, sP_103)) (v := (-1 : Int32)) X hlocks (Option.some.inj hG) hP hD hS d_W_parameters_107
theorem k_W_parameters_44 {p : Program} {l : Launch} {e : Env} {R : Room} {s : State} {m : MethodId} {args : Array Value} {below : List Frame} {meth : Method} {c : Code} {dC : Nat → ClassId} {dI : Nat → Nat → Nat} {cB cI cL : ClassId} {A : Nat → Prop} {adF adH adD : Nat} (X : zx p s m args meth c R R_W b_W_parameters (some .int) 6 7 119) (hA : ∀ q, s.heap.size ≤ q → A q) (zz : zk dC dI cB cI cL A s) (htr : l.stackTraces = false) (hnh : c.exceptionTable.isEmpty = true) (hAs : ∀ q, A q → ∀ cell, s.heap[q]? = some cell → cell.vm.isStatics = false) (hRc : 1 ≤ R.cells) (hRz : 6 ≤ R.slots)  (N : Nat) : ∀ (k : Nat) (sT : zT) (sR : zR) (sG : zG) (sP : zP) (v2 : Int32) (v3 : Int32) (a : (Int32 ⊕ Nat) × zR × zG × zP) (hG : g_W_parameters_44 N k sT sR sG sP v2 v3 = some a) (adW adT adT_bytes adR adG adG_places adP adP_values : Nat) (H : Heap) (locs : List Loc) (hP : va_P (dC, dI) zcl (zwW adW adT adR adG adF adH adD adP ++ zwT adT adT_bytes cB cI cL sT ++ zwR adR adT cB cI cL sR ++ zwG adG adG_places cB cI cL sG ++ zwP adP adP_values cB cI cL sP) H) (hD : va_D A (zwW adW adT adR adG adF adH adD adP ++ zwT adT adT_bytes cB cI cL sT ++ zwR adR adT cB cI cL sR ++ zwG adG adG_places cB cI cL sG ++ zwP adP adP_values cB cI cL sP)) (hS : va_S A s.heap H locs) (ls : Array Slot) (hl : lv_has ls 6 [(0, .ref adW), (2, .int v2), (3, .int v3)]), W p l e R s m args below meth c H locs 1 6 (zMQ below (q_W_parameters dC dI cB cI cL A adW adT adT_bytes adR adG adG_places adP adP_values adF adH adD sT a) args s 1 6 A) (F0 m 44 ls []) := by
  intro k
  induction k with
  | zero => intro sT sR sG sP v2 v3 a hG; exact absurd hG (by unfold g_W_parameters_44; simp)
  | succ k ih => intro sT sR sG sP v2 v3 a hG adW adT adT_bytes adR adG adG_places adP adP_values H locs hP hD hS ls hl; exact k_W_parameters_44_b _ ih X hA zz htr hnh hAs hRc hRz N sT sR sG sP v2 v3 a hG adW adT adT_bytes adR adG adG_places adP adP_values H locs hP hD hS ls hl
set_option maxRecDepth 100000 in
set_option maxHeartbeats 4000000 in
theorem k_W_parameters_0 {p : Program} {l : Launch} {e : Env} {R : Room} {s : State} {m : MethodId} {args : Array Value} {below : List Frame} {meth : Method} {c : Code} {dC : Nat → ClassId} {dI : Nat → Nat → Nat} {cB cI cL : ClassId} {A : Nat → Prop} {adF adH adD : Nat} (X : zx p s m args meth c R R_W b_W_parameters (some .int) 6 7 119) (hA : ∀ q, s.heap.size ≤ q → A q) (zz : zk dC dI cB cI cL A s) (htr : l.stackTraces = false) (hnh : c.exceptionTable.isEmpty = true) (hAs : ∀ q, A q → ∀ cell, s.heap[q]? = some cell → cell.vm.isStatics = false) (hRc : 1 ≤ R.cells) (hRz : 6 ≤ R.slots)  (N : Nat) (sT : zT) (sR : zR) (sG : zG) (sP : zP) (v1 : Int32) (v2 : Int32) (a : (Int32 ⊕ Nat) × zR × zG × zP) (hG : g_W_parameters N sT sR sG sP v1 v2 = some a) (adW adT adT_bytes adR adG adG_places adP adP_values : Nat) (H : Heap) (locs : List Loc) (hP : va_P (dC, dI) zcl (zwW adW adT adR adG adF adH adD adP ++ zwT adT adT_bytes cB cI cL sT ++ zwR adR adT cB cI cL sR ++ zwG adG adG_places cB cI cL sG ++ zwP adP adP_values cB cI cL sP) H) (hD : va_D A (zwW adW adT adR adG adF adH adD adP ++ zwT adT adT_bytes cB cI cL sT ++ zwR adR adT cB cI cL sR ++ zwG adG adG_places cB cI cL sG ++ zwP adP adP_values cB cI cL sP)) (hS : va_S A s.heap H locs) (ls : Array Slot) (hl : lv_has ls 6 [(0, .ref adW), (1, .int v1), (2, .int v2)]) : W p l e R s m args below meth c H locs 0 0 (zMQ below (q_W_parameters dC dI cB cI cL A adW adT adT_bytes adR adG adG_places adP adP_values adF adH adD sT a) args s 1 6 A) (F0 m 0 ls []) := by
  obtain ⟨hx, hb, hr, hml, hown, hts, hlocks, hRf, hRl⟩ := id X
  unfold g_W_parameters at hG
  refine lv_aload_n hx hb d_W_parameters_0 rfl (lv_at hl 0 rfl) ?_
  refine lv_iload_n hx hb d_W_parameters_1 rfl (lv_at hl 1 rfl) ?_
  obtain ⟨a_2, hx_2, hG⟩ := zb hG
  have hr_2 := zrunXV (p := p) (e := e) (below := below) (meth := meth) (As := [.int v1]) (rest := []) (st0 := [.int v1, .ref adW]) (cells := 0) (slots := 0) X zz hP hD hS hA [0, 1, 2] (by decide) rfl (c_W_requirePlace l dC dI cB cI cL H.size adW adT adT_bytes adR adG adF adH adD adP sT v1 _ hx_2 htr) zy_W_requirePlace zv_W_requirePlace (hts (.methodLink R_W 127 y_W_requirePlace) zin_W_127) hl rfl rfl d_W_parameters_2 (lv_room (Nat.le_of_ble_eq_true rfl)) rfl rfl ⟨Nat.le_trans (Nat.le_of_ble_eq_true rfl) hRf, Nat.le_trans (Nat.le_of_ble_eq_true rfl) hRl⟩ ⟨(Nat.le_trans (Nat.le_of_ble_eq_true rfl) hRc), (Nat.le_trans (Nat.le_of_ble_eq_true rfl) hRz)⟩ 0 0 rfl rfl
  refine zcallX (wr := (zwR adR adT cB cI cL sR ++ zwG adG adG_places cB cI cL sG ++ zwP adP adP_values cB cI cL sP)) hr_2 hP hD hS hA [0, 1, 2] [3, 4, 5, 6, 7] rfl rfl (by decide) (by decide) hnh hlocks (by decide) (by decide) (fun k_2 u_2 t9 q9 hw_2 hP hD hF9 ht9 => ?_) (fun r_2 u_2 H locs hw_2 hP hD hS => ?_)
  · subst hw_2
    have hP : va_P (dC, dI) zcl (zwR adR adT cB cI cL sR ++ zwG adG adG_places cB cI cL sG ++ zwP adP adP_values cB cI cL sP ++ zwW adW adT adR adG adF adH adD adP ++ zwT adT adT_bytes cB cI cL sT) t9.heap := hP
    have hD : va_D A (zwR adR adT cB cI cL sR ++ zwG adG adG_places cB cI cL sG ++ zwP adP adP_values cB cI cL sP ++ zwW adW adT adR adG adF adH adD adP ++ zwT adT adT_bytes cB cI cL sT) := hD
    exact ⟨(sR, sG, sP), (hP.sub [5, 6, 7, 0, 1, 2, 3, 4] rfl), (hD.sub [5, 6, 7, 0, 1, 2, 3, 4] (by decide) rfl), hF9, Or.inr ⟨k_2, q9, rfl, Option.some.inj hG, ht9⟩⟩
  subst hw_2
  have hP : va_P (dC, dI) zcl (zwR adR adT cB cI cL sR ++ zwG adG adG_places cB cI cL sG ++ zwP adP adP_values cB cI cL sP ++ zwW adW adT adR adG adF adH adD adP ++ zwT adT adT_bytes cB cI cL sT) H := hP
  have hD : va_D A (zwR adR adT cB cI cL sR ++ zwG adG adG_places cB cI cL sG ++ zwP adP adP_values cB cI cL sP ++ zwW adW adT adR adG adF adH adD adP ++ zwT adT adT_bytes cB cI cL sT) := hD
  have hG : g_W_parameters_c2 N sT sR sG sP v1 v2 = some a := hG
  unfold g_W_parameters_c2 at hG
  refine lv_aload_n hx hb d_W_parameters_5 rfl (lv_at hl 0 rfl) ?_
  refine va_get (D := (dC, dI)) (ci := 0) (v := .ref adG) (C := R_W) (T := F_W) (N := 7) hx hb hts zi_W hown zz.1 hP 5 rfl rfl 2 (by decide) (hts (.fieldLink R_W 28 "WireCodec" "reading" "LWireCodec$Reading;") zin_W_28) (fun _ h9 => h9) rfl d_W_parameters_6 ?_
  refine lv_aload_n hx hb d_W_parameters_9 rfl (lv_at hl 0 rfl) ?_
  refine va_get (D := (dC, dI)) (ci := 0) (v := .ref adT) (C := R_W) (T := F_W) (N := 7) hx hb hts zi_W hown zz.1 hP 5 rfl rfl 0 (by decide) (hts (.fieldLink R_W 12 "WireCodec" "tape" "LWireCodec$Tape;") zin_W_12) (fun _ h9 => h9) rfl d_W_parameters_10 ?_
  refine va_get (D := (dC, dI)) (ci := 1) (v := .int (zT_length sT)) (C := R_T) (T := F_T) (N := 3) hx hb hts zi_T hown zz.1 hP 6 rfl rfl 2 (by decide) (hts (.fieldLink R_W 95 "WireCodec$Tape" "length" "I") zin_W_95) (fun _ h9 => h9) rfl d_W_parameters_13 ?_
  refine lv_iconst (v := (0 : Int32)) hx hb d_W_parameters_16 (by decide) ?_
  obtain ⟨a_17, hx_17, hG⟩ := zb hG
  have hr_17 := zrunV (p := p) (e := e) (below := below) (meth := meth) (As := [.int (zT_length sT), .int (0 : Int32)]) (rest := []) (st0 := [.int (0 : Int32), .int (zT_length sT), .ref adG]) (cells := 1) (slots := 6) X zz hP hD hS hA [1, 2] (by decide) rfl (c_G_restart l dC dI cB cI cL H.size adG adG_places sG (zT_length sT) (0 : Int32) _ hx_17) zy_G_restart zv_G_restart (hts (.methodLink R_W 99 y_G_restart) zin_W_99) hl rfl rfl d_W_parameters_17 (lv_room (Nat.le_of_ble_eq_true rfl)) rfl rfl ⟨Nat.le_trans (Nat.le_of_ble_eq_true rfl) hRf, Nat.le_trans (Nat.le_of_ble_eq_true rfl) hRl⟩ ⟨(Nat.le_trans (Nat.le_of_ble_eq_true rfl) hRc), (Nat.le_trans (Nat.le_of_ble_eq_true rfl) hRz)⟩ 0 3 rfl rfl
  refine zcallv (wr := (zwR adR adT cB cI cL sR ++ zwP adP adP_values cB cI cL sP ++ zwW adW adT adR adG adF adH adD adP ++ zwT adT adT_bytes cB cI cL sT)) hr_17 hP hD hS hA [1, 2] [0, 3, 4, 5, 6, 7] rfl rfl (by decide) (by decide) (fun u_17 H locs hw_17 hP hD hS => ?_)
  obtain ⟨sG_17, rfl⟩ : ∃ z, z = u_17 := ⟨_, rfl⟩
  subst hw_17
  have hP : va_P (dC, dI) zcl (zwR adR adT cB cI cL sR ++ zwP adP adP_values cB cI cL sP ++ zwW adW adT adR adG adF adH adD adP ++ zwT adT adT_bytes cB cI cL sT ++ zwG adG adG_places cB cI cL sG_17) H := hP
  have hD : va_D A (zwR adR adT cB cI cL sR ++ zwP adP adP_values cB cI cL sP ++ zwW adW adT adR adG adF adH adD adP ++ zwT adT adT_bytes cB cI cL sT ++ zwG adG adG_places cB cI cL sG_17) := hD
  have hG : g_W_parameters_c17 N sT sR sP v1 v2 sG_17 = some a := hG
  unfold g_W_parameters_c17 at hG
  refine lv_aload_n hx hb d_W_parameters_20 rfl (lv_at hl 0 rfl) ?_
  refine va_get (D := (dC, dI)) (ci := 0) (v := .ref adP) (C := R_W) (T := F_W) (N := 7) hx hb hts zi_W hown zz.1 hP 3 rfl rfl 6 (by decide) (hts (.fieldLink R_W 56 "WireCodec" "told" "LWireCodec$Parameters;") zin_W_56) (fun _ h9 => h9) rfl d_W_parameters_21 ?_
  obtain ⟨a_24, hx_24, hG⟩ := zb hG
  have hr_24 := zrunV (p := p) (e := e) (below := below) (meth := meth) (As := []) (rest := []) (st0 := [.ref adP]) (cells := 1) (slots := 6) X zz hP hD hS hA [1, 2] (by decide) rfl (c_P_forget l dC dI cB cI cL H.size adP adP_values sP _ hx_24) zy_P_forget zv_P_forget (hts (.methodLink R_W 103 y_P_forget) zin_W_103) hl rfl rfl d_W_parameters_24 (lv_room (Nat.le_of_ble_eq_true rfl)) rfl rfl ⟨Nat.le_trans (Nat.le_of_ble_eq_true rfl) hRf, Nat.le_trans (Nat.le_of_ble_eq_true rfl) hRl⟩ ⟨(Nat.le_trans (Nat.le_of_ble_eq_true rfl) hRc), (Nat.le_trans (Nat.le_of_ble_eq_true rfl) hRz)⟩ 0 7 rfl rfl
  refine zcallv (wr := (zwR adR adT cB cI cL sR ++ zwW adW adT adR adG adF adH adD adP ++ zwT adT adT_bytes cB cI cL sT ++ zwG adG adG_places cB cI cL sG_17)) hr_24 hP hD hS hA [1, 2] [0, 3, 4, 5, 6, 7] rfl rfl (by decide) (by decide) (fun u_24 H locs hw_24 hP hD hS => ?_)
  obtain ⟨sP_24, rfl⟩ : ∃ z, z = u_24 := ⟨_, rfl⟩
  subst hw_24
  have hP : va_P (dC, dI) zcl (zwR adR adT cB cI cL sR ++ zwW adW adT adR adG adF adH adD adP ++ zwT adT adT_bytes cB cI cL sT ++ zwG adG adG_places cB cI cL sG_17 ++ zwP adP adP_values cB cI cL sP_24) H := hP
  have hD : va_D A (zwR adR adT cB cI cL sR ++ zwW adW adT adR adG adF adH adD adP ++ zwT adT adT_bytes cB cI cL sT ++ zwG adG adG_places cB cI cL sG_17 ++ zwP adP adP_values cB cI cL sP_24) := hD
  have hG : g_W_parameters_c24 N sT sR v1 v2 sG_17 sP_24 = some a := hG
  unfold g_W_parameters_c24 at hG
  refine lv_aload_n hx hb d_W_parameters_27 rfl (lv_at hl 0 rfl) ?_
  refine va_get (D := (dC, dI)) (ci := 0) (v := .ref adR) (C := R_W) (T := F_W) (N := 7) hx hb hts zi_W hown zz.1 hP 1 rfl rfl 1 (by decide) (hts (.fieldLink R_W 21 "WireCodec" "reader" "LWireCodec$Reader;") zin_W_21) (fun _ h9 => h9) rfl d_W_parameters_28 ?_
  refine lv_iload_n hx hb d_W_parameters_31 rfl (lv_at hl 1 rfl) ?_
  refine lv_aload_n hx hb d_W_parameters_32 rfl (lv_at hl 0 rfl) ?_
  refine va_get (D := (dC, dI)) (ci := 0) (v := .ref adG) (C := R_W) (T := F_W) (N := 7) hx hb hts zi_W hown zz.1 hP 1 rfl rfl 2 (by decide) (hts (.fieldLink R_W 28 "WireCodec" "reading" "LWireCodec$Reading;") zin_W_28) (fun _ h9 => h9) rfl d_W_parameters_33 ?_
  refine va_get (D := (dC, dI)) (ci := 3) (v := .int (zG_limit sG_17)) (C := R_G) (T := F_G) (N := 7) hx hb hts zi_G hown zz.1 hP 4 rfl rfl 3 (by decide) (hts (.fieldLink R_W 132 "WireCodec$Reading" "limit" "I") zin_W_132) (fun _ h9 => h9) rfl d_W_parameters_36 ?_
  obtain ⟨a_39, hx_39, hG⟩ := zb hG
  have hr_39 := zrunV (p := p) (e := e) (below := below) (meth := meth) (As := [.int v1, .int (zG_limit sG_17)]) (rest := []) (st0 := [.int (zG_limit sG_17), .int v1, .ref adR]) (cells := 1) (slots := 6) X zz hP hD hS hA [0] (by decide) rfl (c_R_start l dC dI cB cI cL H.size adR adT sR v1 (zG_limit sG_17) _ hx_39) zy_R_start zv_R_start (hts (.methodLink R_W 114 y_R_start) zin_W_114) hl rfl rfl d_W_parameters_39 (lv_room (Nat.le_of_ble_eq_true rfl)) rfl rfl ⟨Nat.le_trans (Nat.le_of_ble_eq_true rfl) hRf, Nat.le_trans (Nat.le_of_ble_eq_true rfl) hRl⟩ ⟨(Nat.le_trans (Nat.le_of_ble_eq_true rfl) hRc), (Nat.le_trans (Nat.le_of_ble_eq_true rfl) hRz)⟩ 0 2 rfl rfl
  refine zcallv (wr := (zwW adW adT adR adG adF adH adD adP ++ zwT adT adT_bytes cB cI cL sT ++ zwG adG adG_places cB cI cL sG_17 ++ zwP adP adP_values cB cI cL sP_24)) hr_39 hP hD hS hA [0] [1, 2, 3, 4, 5, 6, 7] rfl rfl (by decide) (by decide) (fun u_39 H locs hw_39 hP hD hS => ?_)
  obtain ⟨sR_39, rfl⟩ : ∃ z, z = u_39 := ⟨_, rfl⟩
  subst hw_39
  have hP : va_P (dC, dI) zcl (zwW adW adT adR adG adF adH adD adP ++ zwT adT adT_bytes cB cI cL sT ++ zwG adG adG_places cB cI cL sG_17 ++ zwP adP adP_values cB cI cL sP_24 ++ zwR adR adT cB cI cL sR_39) H := hP
  have hD : va_D A (zwW adW adT adR adG adF adH adD adP ++ zwT adT adT_bytes cB cI cL sT ++ zwG adG adG_places cB cI cL sG_17 ++ zwP adP adP_values cB cI cL sP_24 ++ zwR adR adT cB cI cL sR_39) := hD
  have hG : g_W_parameters_c39 N sT v2 sG_17 sP_24 sR_39 = some a := hG
  unfold g_W_parameters_c39 at hG
  refine lv_iconst (v := (0 : Int32)) hx hb d_W_parameters_42 (by decide) ?_
  refine lv_istore_n (lv' := [(3, .int (0 : Int32)), (0, .ref adW), (1, .int v1), (2, .int v2)]) hx hb d_W_parameters_43 rfl hl (by decide) rfl (fun ls hl => ?_)
  exact k_W_parameters_44 X hA zz htr hnh hAs hRc hRz N N sT sR_39 sG_17 sP_24 v2 (0 : Int32) _ hG adW adT adT_bytes adR adG adG_places adP adP_values _ _ (hP.sub [0, 1, 2, 7, 3, 4, 5, 6] rfl) (hD.sub [0, 1, 2, 7, 3, 4, 5, 6] (by decide) rfl) hS _ (lv_sub hl [1, 3, 0] rfl)
set_option maxRecDepth 100000 in
set_option maxHeartbeats 4000000 in
theorem c_W_parameters (l : Launch) (dC : Nat → ClassId) (dI : Nat → Nat → Nat) (cB cI cL : ClassId) (sz : Nat) (adW adT adT_bytes adR adG adG_places adP adP_values adF adH adD : Nat) (N : Nat) (sT : zT) (sR : zR) (sG : zG) (sP : zP) (v1 : Int32) (v2 : Int32) (a : (Int32 ⊕ Nat) × zR × zG × zP) (hG : g_W_parameters N sT sR sG sP v1 v2 = some a) (htr : l.stackTraces = false) : zMet l y_W_parameters (zw y_W_parameters b_W_parameters 6 (some .int)) ({ frames := 7, cells := 1, slots := 6, locals := 119 }) (va_Pc [.ref adW, .int v1, .int v2] (zpre dC dI cB cI cL sz (zwW adW adT adR adG adF adH adD adP ++ zwT adT adT_bytes cB cI cL sT ++ zwR adR adT cB cI cL sR ++ zwG adG adG_places cB cI cL sG ++ zwP adP adP_values cB cI cL sP))) (q_W_parameters dC dI cB cI cL (va_A (zwW adW adT adR adG adF adH adD adP ++ zwT adT adT_bytes cB cI cL sT ++ zwR adR adT cB cI cL sR ++ zwG adG adG_places cB cI cL sG ++ zwP adP adP_values cB cI cL sP) sz) adW adT adT_bytes adR adG adG_places adP adP_values adF adH adD sT a) 1 6 (va_A (zwW adW adT adR adG adF adH adD adP ++ zwT adT adT_bytes cB cI cL sT ++ zwR adR adT cB cI cL sR ++ zwG adG adG_places cB cI cL sG ++ zwP adP adP_values cB cI cL sP) sz) := by
  refine zMet.ofW (cc := b_W_parameters) (maxL := 6) (ret := (some .int)) (by decide) rfl ?_
  intro p e s m args below meth c s₁ B hml hv
  obtain ⟨rfl, hsz, hP, zz, hD0⟩ := hv
  subst hsz
  have X := zx_of (F := 7) (L := 119) B hml (Nat.le_refl _) (Nat.le_refl _)
  have hD := hD0.self (sz := s.heap.size)
  have hA : ∀ q : Nat, s.heap.size ≤ q → va_A (zwW adW adT adR adG adF adH adD adP ++ zwT adT adT_bytes cB cI cL sT ++ zwR adR adT cB cI cL sR ++ zwG adG adG_places cB cI cL sG ++ zwP adP adP_values cB cI cL sP) s.heap.size q := fun q h => Or.inr h
  have hl := lv_entry ([.ref adW, .int v1, .int v2]) (n := 6) (Nat.le_of_ble_eq_true rfl)
  rw [lg_entry_eq]
  generalize (lg_sl ([.ref adW, .int v1, .int v2]) ++ List.replicate (6 - (lg_sl ([.ref adW, .int v1, .int v2])).length) Slot.unset).toArray = ls at hl ⊢
  have hnh := BodyLoose.noHandlers B (atoms_spec (ws := zw y_W_parameters b_W_parameters 6 (some .int)) B.pre _ List.mem_cons_self)
  have hAs := zstatics hP
  exact k_W_parameters_0 X hA zz htr hnh hAs (Nat.le_refl _) (Nat.le_refl _) N sT sR sG sP v1 v2 a hG adW adT adT_bytes adR adG adG_places adP adP_values _ _ hP hD va_S.rf ls hl
noncomputable def g_F_takeRest_167 (N : Nat) (sT : zT) (sR : zR) (sF : zF) : Option (zR × zF) := some (sR, sF)
noncomputable def g_F_takeRest_w80 (N : Nat) (sT : zT) (sR_75 : zR) (sF_80 : zF) : Option (zR × zF) := g_F_takeRest_167 N sT sR_75 sF_80
noncomputable def g_F_takeRest_c75 (N : Nat) (sT : zT) (sF : zF) (sR_75 : zR) (r_75 : Int32) : Option (zR × zF) := zg (vp_in (0 : Int32) 12) (g_F_takeRest_w80 N sT sR_75 (zF_parts' sF (vp_updL (zF_parts sF) ((0 : Int32).toNatClampNeg) (((1 : Int32) + r_75).toInt64))))
noncomputable def g_F_takeRest_c107 (N : Nat) (sT : zT) (sR_107 : zR) (sF_107 : zF) : Option (zR × zF) := g_F_takeRest_167 N sT sR_107 sF_107
noncomputable def g_F_takeRest_c101 (N : Nat) (sT : zT) (v2 : Int32) (sR_101 : zR) (sF_101 : zF) : Option (zR × zF) := (g_F_takeCounts N sT sR_101 sF_101 v2).bind (fun a => g_F_takeRest_c107 N sT a.1 a.2)
noncomputable def g_F_takeRest_c86 (N : Nat) (sT : zT) (v2 : Int32) (sR_86 : zR) (sF_86 : zF) : Option (zR × zF) := zg (vp_in (6 : Int32) 12) ((g_F_walkRanges N sT sR_86 sF_86 ((((zF_parts sF_86) (6 : Int32).toNatClampNeg).toInt32) - (1 : Int32))).bind (fun a => g_F_takeRest_c101 N sT v2 a.1 a.2))
noncomputable def g_F_takeRest_84 (N : Nat) (sT : zT) (sR : zR) (sF : zF) (v2 : Int32) : Option (zR × zF) := (g_F_takeRangeCount N sT sR sF).bind (fun a => g_F_takeRest_c86 N sT v2 a.1 a.2)
noncomputable def g_F_takeRest_c116 (N : Nat) (sT : zT) (sR_116 : zR) (sF_116 : zF) : Option (zR × zF) := g_F_takeRest_167 N sT sR_116 sF_116
noncomputable def g_F_takeRest_w146 (N : Nat) (sT : zT) (sR_137 : zR) (sF_146 : zF) : Option (zR × zF) := g_F_takeRest_167 N sT sR_137 sF_146
noncomputable def g_F_takeRest_w140 (N : Nat) (sT : zT) (sR_137 : zR) (sF_140 : zF) : Option (zR × zF) := g_F_takeRest_w146 N sT sR_137 (zF_secretBytes' sF_140 (16 : Int32))
noncomputable def g_F_takeRest_c137 (N : Nat) (sT : zT) (sF_129 : zF) (sR_137 : zR) (r_137 : Int32) : Option (zR × zF) := g_F_takeRest_w140 N sT sR_137 (zF_secretPlace' sF_129 r_137)
noncomputable def g_F_takeRest_c129 (N : Nat) (sT : zT) (sR_129 : zR) (sF_129 : zF) : Option (zR × zF) := (g_R_takeBytes sR_129 (16 : Int64)).bind (fun a => g_F_takeRest_c137 N sT sF_129 a.2 a.1)
noncomputable def g_F_takeRest_c126 (N : Nat) (sT : zT) (sF : zF) (sR_126 : zR) (r_126 : Int64) : Option (zR × zF) := (g_F_takeData sR_126 sF r_126).bind (fun a => g_F_takeRest_c129 N sT a.1 a.2)
noncomputable def g_F_takeRest_w163 (N : Nat) (sT : zT) (sR_160 : zR) (sF_163 : zF) : Option (zR × zF) := g_F_takeRest_167 N sT sR_160 sF_163
noncomputable def g_F_takeRest_c160 (N : Nat) (sT : zT) (sF : zF) (sR_160 : zR) (r_160 : Int64) : Option (zR × zF) := zg (vp_in (0 : Int32) 12) (g_F_takeRest_w163 N sT sR_160 (zF_parts' sF (vp_updL (zF_parts sF) ((0 : Int32).toNatClampNeg) r_160)))
noncomputable def g_F_takeRest_152 (N : Nat) (sT : zT) (sR : zR) (sF : zF) : Option (zR × zF) := (g_R_takeWord N sT sR (8 : Int32)).bind (fun a => g_F_takeRest_c160 N sT sF a.2 a.1)
noncomputable def g_F_takeRest (N : Nat) (sT : zT) (sR : zR) (sF : zF) (v2 : Int32) (v3 : Int32) : Option (zR × zF) := if v2 = (0 : Int32) then ((g_R_takeZeros N sT sR).bind (fun a => g_F_takeRest_c75 N sT sF a.2 a.1)) else if v2 = (2 : Int32) then (g_F_takeRest_84 N sT sR sF v2) else if v2 = (3 : Int32) then (g_F_takeRest_84 N sT sR sF v2) else if v2 = (8 : Int32) then ((g_F_takeStream sR sF v3).bind (fun a => g_F_takeRest_c116 N sT a.1 a.2)) else if v2 = (24 : Int32) then ((g_R_takeWord N sT sR (1 : Int32)).bind (fun a => g_F_takeRest_c126 N sT sF a.2 a.1)) else if v2 = (26 : Int32) then (g_F_takeRest_152 N sT sR sF) else if v2 = (27 : Int32) then (g_F_takeRest_152 N sT sR sF) else (g_F_takeRest_167 N sT sR sF)
def q_F_takeRest (dC : Nat → ClassId) (dI : Nat → Nat → Nat) (cB cI cL : ClassId) (A : Nat → Prop) (adT : Nat) (adT_bytes : Nat) (adR : Nat) (adF : Nat) (adF_parts : Nat) (sT : zT) (a : zR × zF) : Array Value → State → Outcome → State → Prop := va_Qv (fun (u : zR × zF) => (u.1, u.2) = a) (fun u U => va_P (dC, dI) zcl (zwT adT adT_bytes cB cI cL sT ++ zwR adR adT cB cI cL u.1 ++ zwF adF adF_parts cB cI cL u.2) U.heap ∧ va_D A (zwT adT adT_bytes cB cI cL sT ++ zwR adR adT cB cI cL u.1 ++ zwF adF adF_parts cB cI cL u.2)) A
set_option maxRecDepth 100000 in
set_option maxHeartbeats 4000000 in
theorem k_F_takeRest_167 {p : Program} {l : Launch} {e : Env} {R : Room} {s : State} {m : MethodId} {args : Array Value} {below : List Frame} {meth : Method} {c : Code} {dC : Nat → ClassId} {dI : Nat → Nat → Nat} {cB cI cL : ClassId} {A : Nat → Prop} (X : zx p s m args meth c R R_F b_F_takeRest none 4 4 97) (hA : ∀ q, s.heap.size ≤ q → A q) (zz : zk dC dI cB cI cL A s)  (N : Nat) (sT : zT) (sR : zR) (sF : zF) (a : zR × zF) (hG : g_F_takeRest_167 N sT sR sF = some a) (adT adT_bytes adR adF adF_parts : Nat) (H : Heap) (locs : List Loc) (hP : va_P (dC, dI) zcl (zwT adT adT_bytes cB cI cL sT ++ zwR adR adT cB cI cL sR ++ zwF adF adF_parts cB cI cL sF) H) (hD : va_D A (zwT adT adT_bytes cB cI cL sT ++ zwR adR adT cB cI cL sR ++ zwF adF adF_parts cB cI cL sF)) (hS : va_S A s.heap H locs) (ls : Array Slot) (hl : lv_has ls 4 []) : W p l e R s m args below meth c H locs 0 0 (MQ below (q_F_takeRest dC dI cB cI cL A adT adT_bytes adR adF adF_parts sT a) args s 0 0 A) (F0 m 167 ls []) := by
  obtain ⟨hx, hb, hr, hml, hown, hts, hlocks, hRf, hRl⟩ := id X
  unfold g_F_takeRest_167 at hG
  exact W.vret hx hb hr (fun t9 ht9 hW9 => ⟨⟨(sR, sF), rfl, Option.some.inj hG, by rw [ht9]; exact hP, hD⟩, hS.F ht9⟩) hS.2.2 d_F_takeRest_167
set_option maxRecDepth 100000 in
set_option maxHeartbeats 4000000 in
theorem k_F_takeRest_84 {p : Program} {l : Launch} {e : Env} {R : Room} {s : State} {m : MethodId} {args : Array Value} {below : List Frame} {meth : Method} {c : Code} {dC : Nat → ClassId} {dI : Nat → Nat → Nat} {cB cI cL : ClassId} {A : Nat → Prop} (X : zx p s m args meth c R R_F b_F_takeRest none 4 4 97) (hA : ∀ q, s.heap.size ≤ q → A q) (zz : zk dC dI cB cI cL A s)  (N : Nat) (sT : zT) (sR : zR) (sF : zF) (v2 : Int32) (a : zR × zF) (hG : g_F_takeRest_84 N sT sR sF v2 = some a) (adT adT_bytes adR adF adF_parts : Nat) (H : Heap) (locs : List Loc) (hP : va_P (dC, dI) zcl (zwT adT adT_bytes cB cI cL sT ++ zwR adR adT cB cI cL sR ++ zwF adF adF_parts cB cI cL sF) H) (hD : va_D A (zwT adT adT_bytes cB cI cL sT ++ zwR adR adT cB cI cL sR ++ zwF adF adF_parts cB cI cL sF)) (hS : va_S A s.heap H locs) (ls : Array Slot) (hl : lv_has ls 4 [(0, .ref adF), (1, .ref adR), (2, .int v2)]) : W p l e R s m args below meth c H locs 0 0 (MQ below (q_F_takeRest dC dI cB cI cL A adT adT_bytes adR adF adF_parts sT a) args s 0 0 A) (F0 m 84 ls []) := by
  obtain ⟨hx, hb, hr, hml, hown, hts, hlocks, hRf, hRl⟩ := id X
  unfold g_F_takeRest_84 at hG
  refine lv_aload_n hx hb d_F_takeRest_84 rfl (lv_at hl 0 rfl) ?_
  refine lv_aload_n hx hb d_F_takeRest_85 rfl (lv_at hl 1 rfl) ?_
  obtain ⟨a_86, hx_86, hG⟩ := zb hG
  have hr_86 := zrunV (p := p) (e := e) (below := below) (meth := meth) (As := [.ref adR]) (rest := []) (st0 := [.ref adR, .ref adF]) (cells := 0) (slots := 0) X zz hP hD hS hA [0, 1, 2, 3, 4] (by decide) rfl (c_F_takeRangeCount l dC dI cB cI cL H.size adT adT_bytes adR adF adF_parts N sT sR sF _ hx_86) zy_F_takeRangeCount zv_F_takeRangeCount (hts (.methodLink R_F 79 y_F_takeRangeCount) zin_F_79) hl rfl rfl d_F_takeRest_86 (lv_room (Nat.le_of_ble_eq_true rfl)) rfl rfl ⟨Nat.le_trans (Nat.le_of_ble_eq_true rfl) hRf, Nat.le_trans (Nat.le_of_ble_eq_true rfl) hRl⟩ ⟨Nat.zero_le _, Nat.zero_le _⟩ 3 4 rfl rfl
  refine zcallv (wr := ([] : va_W)) hr_86 hP hD hS hA [0, 1, 2, 3, 4] [] rfl rfl (by decide) (by decide) (fun u_86 H locs hw_86 hP hD hS => ?_)
  obtain ⟨sR_86, sF_86⟩ := u_86
  subst hw_86
  have hP : va_P (dC, dI) zcl (zwT adT adT_bytes cB cI cL sT ++ zwR adR adT cB cI cL sR_86 ++ zwF adF adF_parts cB cI cL sF_86) H := hP
  have hD : va_D A (zwT adT adT_bytes cB cI cL sT ++ zwR adR adT cB cI cL sR_86 ++ zwF adF adF_parts cB cI cL sF_86) := hD
  have hG : g_F_takeRest_c86 N sT v2 sR_86 sF_86 = some a := hG
  unfold g_F_takeRest_c86 at hG
  refine lv_aload_n hx hb d_F_takeRest_89 rfl (lv_at hl 0 rfl) ?_
  refine lv_aload_n hx hb d_F_takeRest_90 rfl (lv_at hl 1 rfl) ?_
  refine lv_aload_n hx hb d_F_takeRest_91 rfl (lv_at hl 0 rfl) ?_
  refine va_get (D := (dC, dI)) (ci := 4) (v := .ref adF_parts) (C := R_F) (T := F_F) (N := 7) hx hb hts zi_F hown zz.1 hP 3 rfl rfl 0 (by decide) (hts (.fieldLink R_F 9 "WireCodec$Frame" "parts" "[J") zin_F_9) (fun _ h9 => h9) rfl d_F_takeRest_92 ?_
  refine lv_bipush (v := (6 : Int32)) hx hb d_F_takeRest_95 (by decide) ?_
  obtain ⟨hin, hG⟩ := zgd hG
  refine va_lald hx hb zz.1 hP 4 2 rfl rfl hin d_F_takeRest_97 ?_
  refine lv_l2i hx hb d_F_takeRest_98 rfl ?_
  refine lv_iconst (v := (1 : Int32)) hx hb d_F_takeRest_99 (by decide) ?_
  refine lv_isub hx hb d_F_takeRest_100 ?_
  obtain ⟨a_101, hx_101, hG⟩ := zb hG
  have hr_101 := zrunV (p := p) (e := e) (below := below) (meth := meth) (As := [.ref adR, .int ((((zF_parts sF_86) (6 : Int32).toNatClampNeg).toInt32) - (1 : Int32))]) (rest := []) (st0 := [.int ((((zF_parts sF_86) (6 : Int32).toNatClampNeg).toInt32) - (1 : Int32)), .ref adR, .ref adF]) (cells := 0) (slots := 0) X zz hP hD hS hA [0, 1, 2, 3, 4] (by decide) rfl (c_F_walkRanges l dC dI cB cI cL H.size adT adT_bytes adR adF adF_parts N sT sR_86 sF_86 ((((zF_parts sF_86) (6 : Int32).toNatClampNeg).toInt32) - (1 : Int32)) _ hx_101) zy_F_walkRanges zv_F_walkRanges (hts (.methodLink R_F 83 y_F_walkRanges) zin_F_83) hl rfl rfl d_F_takeRest_101 (lv_room (Nat.le_of_ble_eq_true rfl)) rfl rfl ⟨Nat.le_trans (Nat.le_of_ble_eq_true rfl) hRf, Nat.le_trans (Nat.le_of_ble_eq_true rfl) hRl⟩ ⟨Nat.zero_le _, Nat.zero_le _⟩ 3 4 rfl rfl
  refine zcallv (wr := ([] : va_W)) hr_101 hP hD hS hA [0, 1, 2, 3, 4] [] rfl rfl (by decide) (by decide) (fun u_101 H locs hw_101 hP hD hS => ?_)
  obtain ⟨sR_101, sF_101⟩ := u_101
  subst hw_101
  have hP : va_P (dC, dI) zcl (zwT adT adT_bytes cB cI cL sT ++ zwR adR adT cB cI cL sR_101 ++ zwF adF adF_parts cB cI cL sF_101) H := hP
  have hD : va_D A (zwT adT adT_bytes cB cI cL sT ++ zwR adR adT cB cI cL sR_101 ++ zwF adF adF_parts cB cI cL sF_101) := hD
  have hG : g_F_takeRest_c101 N sT v2 sR_101 sF_101 = some a := hG
  unfold g_F_takeRest_c101 at hG
  refine lv_aload_n hx hb d_F_takeRest_104 rfl (lv_at hl 0 rfl) ?_
  refine lv_aload_n hx hb d_F_takeRest_105 rfl (lv_at hl 1 rfl) ?_
  refine lv_iload_n hx hb d_F_takeRest_106 rfl (lv_at hl 2 rfl) ?_
  obtain ⟨a_107, hx_107, hG⟩ := zb hG
  have hr_107 := zrunV (p := p) (e := e) (below := below) (meth := meth) (As := [.ref adR, .int v2]) (rest := []) (st0 := [.int v2, .ref adR, .ref adF]) (cells := 0) (slots := 0) X zz hP hD hS hA [0, 1, 2, 3, 4] (by decide) rfl (c_F_takeCounts l dC dI cB cI cL H.size adT adT_bytes adR adF adF_parts N sT sR_101 sF_101 v2 _ hx_107) zy_F_takeCounts zv_F_takeCounts (hts (.methodLink R_F 86 y_F_takeCounts) zin_F_86) hl rfl rfl d_F_takeRest_107 (lv_room (Nat.le_of_ble_eq_true rfl)) rfl rfl ⟨Nat.le_trans (Nat.le_of_ble_eq_true rfl) hRf, Nat.le_trans (Nat.le_of_ble_eq_true rfl) hRl⟩ ⟨Nat.zero_le _, Nat.zero_le _⟩ 3 4 rfl rfl
  refine zcallv (wr := ([] : va_W)) hr_107 hP hD hS hA [0, 1, 2, 3, 4] [] rfl rfl (by decide) (by decide) (fun u_107 H locs hw_107 hP hD hS => ?_)
  obtain ⟨sR_107, sF_107⟩ := u_107
  subst hw_107
  have hP : va_P (dC, dI) zcl (zwT adT adT_bytes cB cI cL sT ++ zwR adR adT cB cI cL sR_107 ++ zwF adF adF_parts cB cI cL sF_107) H := hP
  have hD : va_D A (zwT adT adT_bytes cB cI cL sT ++ zwR adR adT cB cI cL sR_107 ++ zwF adF adF_parts cB cI cL sF_107) := hD
  have hG : g_F_takeRest_c107 N sT sR_107 sF_107 = some a := hG
  unfold g_F_takeRest_c107 at hG
  refine lv_goto (tgt := 167) hx hb d_F_takeRest_110 (by decide) ?_
  exact k_F_takeRest_167 X hA zz N sT sR_107 sF_107 _ hG adT adT_bytes adR adF adF_parts _ _ hP hD hS _ (lv_sub hl [] rfl)
set_option maxRecDepth 100000 in
set_option maxHeartbeats 4000000 in
theorem k_F_takeRest_152 {p : Program} {l : Launch} {e : Env} {R : Room} {s : State} {m : MethodId} {args : Array Value} {below : List Frame} {meth : Method} {c : Code} {dC : Nat → ClassId} {dI : Nat → Nat → Nat} {cB cI cL : ClassId} {A : Nat → Prop} (X : zx p s m args meth c R R_F b_F_takeRest none 4 4 97) (hA : ∀ q, s.heap.size ≤ q → A q) (zz : zk dC dI cB cI cL A s)  (N : Nat) (sT : zT) (sR : zR) (sF : zF) (a : zR × zF) (hG : g_F_takeRest_152 N sT sR sF = some a) (adT adT_bytes adR adF adF_parts : Nat) (H : Heap) (locs : List Loc) (hP : va_P (dC, dI) zcl (zwT adT adT_bytes cB cI cL sT ++ zwR adR adT cB cI cL sR ++ zwF adF adF_parts cB cI cL sF) H) (hD : va_D A (zwT adT adT_bytes cB cI cL sT ++ zwR adR adT cB cI cL sR ++ zwF adF adF_parts cB cI cL sF)) (hS : va_S A s.heap H locs) (ls : Array Slot) (hl : lv_has ls 4 [(0, .ref adF), (1, .ref adR)]) : W p l e R s m args below meth c H locs 0 0 (MQ below (q_F_takeRest dC dI cB cI cL A adT adT_bytes adR adF adF_parts sT a) args s 0 0 A) (F0 m 152 ls []) := by
  obtain ⟨hx, hb, hr, hml, hown, hts, hlocks, hRf, hRl⟩ := id X
  unfold g_F_takeRest_152 at hG
  refine lv_aload_n hx hb d_F_takeRest_152 rfl (lv_at hl 0 rfl) ?_
  refine va_get (D := (dC, dI)) (ci := 4) (v := .ref adF_parts) (C := R_F) (T := F_F) (N := 7) hx hb hts zi_F hown zz.1 hP 3 rfl rfl 0 (by decide) (hts (.fieldLink R_F 9 "WireCodec$Frame" "parts" "[J") zin_F_9) (fun _ h9 => h9) rfl d_F_takeRest_153 ?_
  refine lv_iconst (v := (0 : Int32)) hx hb d_F_takeRest_156 (by decide) ?_
  refine lv_aload_n hx hb d_F_takeRest_157 rfl (lv_at hl 1 rfl) ?_
  refine lv_bipush (v := (8 : Int32)) hx hb d_F_takeRest_158 (by decide) ?_
  obtain ⟨a_160, hx_160, hG⟩ := zb hG
  have hr_160 := zrunV (p := p) (e := e) (below := below) (meth := meth) (As := [.int (8 : Int32)]) (rest := [.int (0 : Int32), .ref adF_parts]) (st0 := [.int (8 : Int32), .ref adR, .int (0 : Int32), .ref adF_parts]) (cells := 0) (slots := 0) X zz hP hD hS hA [0, 1, 2] (by decide) rfl (c_R_takeWord l dC dI cB cI cL H.size adT adT_bytes adR N sT sR (8 : Int32) _ hx_160) zy_R_takeWord zv_R_takeWord (hts (.methodLink R_F 24 y_R_takeWord) zin_F_24) hl rfl rfl d_F_takeRest_160 (lv_room (Nat.le_of_ble_eq_true rfl)) rfl rfl ⟨Nat.le_trans (Nat.le_of_ble_eq_true rfl) hRf, Nat.le_trans (Nat.le_of_ble_eq_true rfl) hRl⟩ ⟨Nat.zero_le _, Nat.zero_le _⟩ 2 2 rfl rfl
  refine zcalll (wr := (zwF adF adF_parts cB cI cL sF)) hr_160 hP hD hS hA [0, 1, 2] [3, 4] rfl rfl (by decide) (by decide) (fun r_160 u_160 H locs hw_160 hP hD hS => ?_)
  obtain ⟨sR_160, rfl⟩ : ∃ z, z = u_160 := ⟨_, rfl⟩
  subst hw_160
  have hP : va_P (dC, dI) zcl (zwF adF adF_parts cB cI cL sF ++ zwT adT adT_bytes cB cI cL sT ++ zwR adR adT cB cI cL sR_160) H := hP
  have hD : va_D A (zwF adF adF_parts cB cI cL sF ++ zwT adT adT_bytes cB cI cL sT ++ zwR adR adT cB cI cL sR_160) := hD
  have hG : g_F_takeRest_c160 N sT sF sR_160 r_160 = some a := hG
  unfold g_F_takeRest_c160 at hG
  obtain ⟨hin, hG⟩ := zgd hG
  refine va_last hx hb zz.1 hP hD hS 1 2 rfl rfl hin d_F_takeRest_163 (fun H locs hP hD hS => ?_)
  have hP : va_P (dC, dI) zcl (zwF adF adF_parts cB cI cL (zF_parts' sF (vp_updL (zF_parts sF) ((0 : Int32).toNatClampNeg) r_160)) ++ zwT adT adT_bytes cB cI cL sT ++ zwR adR adT cB cI cL sR_160) H := hP
  have hD : va_D A (zwF adF adF_parts cB cI cL (zF_parts' sF (vp_updL (zF_parts sF) ((0 : Int32).toNatClampNeg) r_160)) ++ zwT adT adT_bytes cB cI cL sT ++ zwR adR adT cB cI cL sR_160) := hD
  have hG : g_F_takeRest_w163 N sT sR_160 (zF_parts' sF (vp_updL (zF_parts sF) ((0 : Int32).toNatClampNeg) r_160)) = some a := hG
  generalize zF_parts' sF (vp_updL (zF_parts sF) ((0 : Int32).toNatClampNeg) r_160) = sF_163 at hP hD hG
  unfold g_F_takeRest_w163 at hG
  refine lv_goto (tgt := 167) hx hb d_F_takeRest_164 (by decide) ?_
  exact k_F_takeRest_167 X hA zz N sT sR_160 sF_163 _ hG adT adT_bytes adR adF adF_parts _ _ (hP.sub [2, 3, 4, 0, 1] rfl) (hD.sub [2, 3, 4, 0, 1] (by decide) rfl) hS _ (lv_sub hl [] rfl)
set_option maxRecDepth 100000 in
set_option maxHeartbeats 4000000 in
theorem k_F_takeRest_0 {p : Program} {l : Launch} {e : Env} {R : Room} {s : State} {m : MethodId} {args : Array Value} {below : List Frame} {meth : Method} {c : Code} {dC : Nat → ClassId} {dI : Nat → Nat → Nat} {cB cI cL : ClassId} {A : Nat → Prop} (X : zx p s m args meth c R R_F b_F_takeRest none 4 4 97) (hA : ∀ q, s.heap.size ≤ q → A q) (zz : zk dC dI cB cI cL A s)  (N : Nat) (sT : zT) (sR : zR) (sF : zF) (v2 : Int32) (v3 : Int32) (a : zR × zF) (hG : g_F_takeRest N sT sR sF v2 v3 = some a) (adT adT_bytes adR adF adF_parts : Nat) (H : Heap) (locs : List Loc) (hP : va_P (dC, dI) zcl (zwT adT adT_bytes cB cI cL sT ++ zwR adR adT cB cI cL sR ++ zwF adF adF_parts cB cI cL sF) H) (hD : va_D A (zwT adT adT_bytes cB cI cL sT ++ zwR adR adT cB cI cL sR ++ zwF adF adF_parts cB cI cL sF)) (hS : va_S A s.heap H locs) (ls : Array Slot) (hl : lv_has ls 4 [(0, .ref adF), (1, .ref adR), (2, .int v2), (3, .int v3)]) : W p l e R s m args below meth c H locs 0 0 (MQ below (q_F_takeRest dC dI cB cI cL A adT adT_bytes adR adF adF_parts sT a) args s 0 0 A) (F0 m 0 ls []) := by
  obtain ⟨hx, hb, hr, hml, hown, hts, hlocks, hRf, hRl⟩ := id X
  unfold g_F_takeRest at hG
  refine lv_iload_n hx hb d_F_takeRest_0 rfl (lv_at hl 2 rfl) ?_
  by_cases hc : v2 = (0 : Int32)
  · have hG := zt hG hc
    refine lv_lookup (tgt := 68) hx hb d_F_takeRest_1 (by decide) (by rw [hc]) (by decide) ?_
    refine lv_aload_n hx hb d_F_takeRest_68 rfl (lv_at hl 0 rfl) ?_
    refine va_get (D := (dC, dI)) (ci := 4) (v := .ref adF_parts) (C := R_F) (T := F_F) (N := 7) hx hb hts zi_F hown zz.1 hP 3 rfl rfl 0 (by decide) (hts (.fieldLink R_F 9 "WireCodec$Frame" "parts" "[J") zin_F_9) (fun _ h9 => h9) rfl d_F_takeRest_69 ?_
    refine lv_iconst (v := (0 : Int32)) hx hb d_F_takeRest_72 (by decide) ?_
    refine lv_iconst (v := (1 : Int32)) hx hb d_F_takeRest_73 (by decide) ?_
    refine lv_aload_n hx hb d_F_takeRest_74 rfl (lv_at hl 1 rfl) ?_
    obtain ⟨a_75, hx_75, hG⟩ := zb hG
    have hr_75 := zrunV (p := p) (e := e) (below := below) (meth := meth) (As := []) (rest := [.int (1 : Int32), .int (0 : Int32), .ref adF_parts]) (st0 := [.ref adR, .int (1 : Int32), .int (0 : Int32), .ref adF_parts]) (cells := 0) (slots := 0) X zz hP hD hS hA [0, 1, 2] (by decide) rfl (c_R_takeZeros l dC dI cB cI cL H.size adT adT_bytes adR N sT sR _ hx_75) zy_R_takeZeros zv_R_takeZeros (hts (.methodLink R_F 75 y_R_takeZeros) zin_F_75) hl rfl rfl d_F_takeRest_75 (lv_room (Nat.le_of_ble_eq_true rfl)) rfl rfl ⟨Nat.le_trans (Nat.le_of_ble_eq_true rfl) hRf, Nat.le_trans (Nat.le_of_ble_eq_true rfl) hRl⟩ ⟨Nat.zero_le _, Nat.zero_le _⟩ 2 2 rfl rfl
    refine zcalli (wr := (zwF adF adF_parts cB cI cL sF)) hr_75 hP hD hS hA [0, 1, 2] [3, 4] rfl rfl (by decide) (by decide) (fun r_75 u_75 H locs hw_75 hP hD hS => ?_)
    obtain ⟨sR_75, rfl⟩ : ∃ z, z = u_75 := ⟨_, rfl⟩
    subst hw_75
    have hP : va_P (dC, dI) zcl (zwF adF adF_parts cB cI cL sF ++ zwT adT adT_bytes cB cI cL sT ++ zwR adR adT cB cI cL sR_75) H := hP
    have hD : va_D A (zwF adF adF_parts cB cI cL sF ++ zwT adT adT_bytes cB cI cL sT ++ zwR adR adT cB cI cL sR_75) := hD
    have hG : g_F_takeRest_c75 N sT sF sR_75 r_75 = some a := hG
    unfold g_F_takeRest_c75 at hG
    refine lv_iadd hx hb d_F_takeRest_78 ?_
    refine lv_i2l hx hb d_F_takeRest_79 rfl ?_
    obtain ⟨hin, hG⟩ := zgd hG
    refine va_last hx hb zz.1 hP hD hS 1 2 rfl rfl hin d_F_takeRest_80 (fun H locs hP hD hS => ?_)
    have hP : va_P (dC, dI) zcl (zwF adF adF_parts cB cI cL (zF_parts' sF (vp_updL (zF_parts sF) ((0 : Int32).toNatClampNeg) (((1 : Int32) + r_75).toInt64))) ++ zwT adT adT_bytes cB cI cL sT ++ zwR adR adT cB cI cL sR_75) H := hP
    have hD : va_D A (zwF adF adF_parts cB cI cL (zF_parts' sF (vp_updL (zF_parts sF) ((0 : Int32).toNatClampNeg) (((1 : Int32) + r_75).toInt64))) ++ zwT adT adT_bytes cB cI cL sT ++ zwR adR adT cB cI cL sR_75) := hD
    have hG : g_F_takeRest_w80 N sT sR_75 (zF_parts' sF (vp_updL (zF_parts sF) ((0 : Int32).toNatClampNeg) (((1 : Int32) + r_75).toInt64))) = some a := hG
    generalize zF_parts' sF (vp_updL (zF_parts sF) ((0 : Int32).toNatClampNeg) (((1 : Int32) + r_75).toInt64)) = sF_80 at hP hD hG
    unfold g_F_takeRest_w80 at hG
    refine lv_goto (tgt := 167) hx hb d_F_takeRest_81 (by decide) ?_
    exact k_F_takeRest_167 X hA zz N sT sR_75 sF_80 _ hG adT adT_bytes adR adF adF_parts _ _ (hP.sub [2, 3, 4, 0, 1] rfl) (hD.sub [2, 3, 4, 0, 1] (by decide) rfl) hS _ (lv_sub hl [] rfl)
  have hG := zf hG hc
  have hk0 := zne hc
  by_cases hc : v2 = (2 : Int32)
  · have hG := zt hG hc
    refine lv_lookup (tgt := 84) hx hb d_F_takeRest_1 (by decide) (by rw [hc]) (by decide) ?_
    exact k_F_takeRest_84 X hA zz N sT sR sF v2 _ hG adT adT_bytes adR adF adF_parts _ _ hP hD hS _ (lv_sub hl [0, 1, 2] rfl)
  have hG := zf hG hc
  have hk1 := zne hc
  by_cases hc : v2 = (3 : Int32)
  · have hG := zt hG hc
    refine lv_lookup (tgt := 84) hx hb d_F_takeRest_1 (by decide) (by rw [hc]) (by decide) ?_
    exact k_F_takeRest_84 X hA zz N sT sR sF v2 _ hG adT adT_bytes adR adF adF_parts _ _ hP hD hS _ (lv_sub hl [0, 1, 2] rfl)
  have hG := zf hG hc
  have hk2 := zne hc
  by_cases hc : v2 = (8 : Int32)
  · have hG := zt hG hc
    refine lv_lookup (tgt := 113) hx hb d_F_takeRest_1 (by decide) (by rw [hc]) (by decide) ?_
    refine lv_aload_n hx hb d_F_takeRest_113 rfl (lv_at hl 0 rfl) ?_
    refine lv_aload_n hx hb d_F_takeRest_114 rfl (lv_at hl 1 rfl) ?_
    refine lv_iload_n hx hb d_F_takeRest_115 rfl (lv_at hl 3 rfl) ?_
    obtain ⟨a_116, hx_116, hG⟩ := zb hG
    have hr_116 := zrunV (p := p) (e := e) (below := below) (meth := meth) (As := [.ref adR, .int v3]) (rest := []) (st0 := [.int v3, .ref adR, .ref adF]) (cells := 0) (slots := 0) X zz hP hD hS hA [2, 3, 4] (by decide) rfl (c_F_takeStream l dC dI cB cI cL H.size adR adF adF_parts adT sR sF v3 _ hx_116) zy_F_takeStream zv_F_takeStream (hts (.methodLink R_F 89 y_F_takeStream) zin_F_89) hl rfl rfl d_F_takeRest_116 (lv_room (Nat.le_of_ble_eq_true rfl)) rfl rfl ⟨Nat.le_trans (Nat.le_of_ble_eq_true rfl) hRf, Nat.le_trans (Nat.le_of_ble_eq_true rfl) hRl⟩ ⟨Nat.zero_le _, Nat.zero_le _⟩ 1 4 rfl rfl
    refine zcallv (wr := (zwT adT adT_bytes cB cI cL sT)) hr_116 hP hD hS hA [2, 3, 4] [0, 1] rfl rfl (by decide) (by decide) (fun u_116 H locs hw_116 hP hD hS => ?_)
    obtain ⟨sR_116, sF_116⟩ := u_116
    subst hw_116
    have hP : va_P (dC, dI) zcl (zwT adT adT_bytes cB cI cL sT ++ zwR adR adT cB cI cL sR_116 ++ zwF adF adF_parts cB cI cL sF_116) H := hP
    have hD : va_D A (zwT adT adT_bytes cB cI cL sT ++ zwR adR adT cB cI cL sR_116 ++ zwF adF adF_parts cB cI cL sF_116) := hD
    have hG : g_F_takeRest_c116 N sT sR_116 sF_116 = some a := hG
    unfold g_F_takeRest_c116 at hG
    refine lv_goto (tgt := 167) hx hb d_F_takeRest_119 (by decide) ?_
    exact k_F_takeRest_167 X hA zz N sT sR_116 sF_116 _ hG adT adT_bytes adR adF adF_parts _ _ hP hD hS _ (lv_sub hl [] rfl)
  have hG := zf hG hc
  have hk3 := zne hc
  by_cases hc : v2 = (24 : Int32)
  · have hG := zt hG hc
    refine lv_lookup (tgt := 122) hx hb d_F_takeRest_1 (by decide) (by rw [hc]) (by decide) ?_
    refine lv_aload_n hx hb d_F_takeRest_122 rfl (lv_at hl 0 rfl) ?_
    refine lv_aload_n hx hb d_F_takeRest_123 rfl (lv_at hl 1 rfl) ?_
    refine lv_aload_n hx hb d_F_takeRest_124 rfl (lv_at hl 1 rfl) ?_
    refine lv_iconst (v := (1 : Int32)) hx hb d_F_takeRest_125 (by decide) ?_
    obtain ⟨a_126, hx_126, hG⟩ := zb hG
    have hr_126 := zrunV (p := p) (e := e) (below := below) (meth := meth) (As := [.int (1 : Int32)]) (rest := [.ref adR, .ref adF]) (st0 := [.int (1 : Int32), .ref adR, .ref adR, .ref adF]) (cells := 0) (slots := 0) X zz hP hD hS hA [0, 1, 2] (by decide) rfl (c_R_takeWord l dC dI cB cI cL H.size adT adT_bytes adR N sT sR (1 : Int32) _ hx_126) zy_R_takeWord zv_R_takeWord (hts (.methodLink R_F 24 y_R_takeWord) zin_F_24) hl rfl rfl d_F_takeRest_126 (lv_room (Nat.le_of_ble_eq_true rfl)) rfl rfl ⟨Nat.le_trans (Nat.le_of_ble_eq_true rfl) hRf, Nat.le_trans (Nat.le_of_ble_eq_true rfl) hRl⟩ ⟨Nat.zero_le _, Nat.zero_le _⟩ 2 2 rfl rfl
    refine zcalll (wr := (zwF adF adF_parts cB cI cL sF)) hr_126 hP hD hS hA [0, 1, 2] [3, 4] rfl rfl (by decide) (by decide) (fun r_126 u_126 H locs hw_126 hP hD hS => ?_)
    obtain ⟨sR_126, rfl⟩ : ∃ z, z = u_126 := ⟨_, rfl⟩
    subst hw_126
    have hP : va_P (dC, dI) zcl (zwF adF adF_parts cB cI cL sF ++ zwT adT adT_bytes cB cI cL sT ++ zwR adR adT cB cI cL sR_126) H := hP
    have hD : va_D A (zwF adF adF_parts cB cI cL sF ++ zwT adT adT_bytes cB cI cL sT ++ zwR adR adT cB cI cL sR_126) := hD
    have hG : g_F_takeRest_c126 N sT sF sR_126 r_126 = some a := hG
    unfold g_F_takeRest_c126 at hG
    obtain ⟨a_129, hx_129, hG⟩ := zb hG
    have hr_129 := zrunV (p := p) (e := e) (below := below) (meth := meth) (As := [.ref adR, .long r_126]) (rest := []) (st0 := [.long r_126, .ref adR, .ref adF]) (cells := 0) (slots := 0) X zz hP hD hS hA [4, 0, 1] (by decide) rfl (c_F_takeData l dC dI cB cI cL H.size adR adF adF_parts adT sR_126 sF r_126 _ hx_129) zy_F_takeData zv_F_takeData (hts (.methodLink R_F 71 y_F_takeData) zin_F_71) hl rfl rfl d_F_takeRest_129 (lv_room (Nat.le_of_ble_eq_true rfl)) rfl rfl ⟨Nat.le_trans (Nat.le_of_ble_eq_true rfl) hRf, Nat.le_trans (Nat.le_of_ble_eq_true rfl) hRl⟩ ⟨Nat.zero_le _, Nat.zero_le _⟩ 1 4 rfl rfl
    refine zcallv (wr := (zwT adT adT_bytes cB cI cL sT)) hr_129 hP hD hS hA [4, 0, 1] [2, 3] rfl rfl (by decide) (by decide) (fun u_129 H locs hw_129 hP hD hS => ?_)
    obtain ⟨sR_129, sF_129⟩ := u_129
    subst hw_129
    have hP : va_P (dC, dI) zcl (zwT adT adT_bytes cB cI cL sT ++ zwR adR adT cB cI cL sR_129 ++ zwF adF adF_parts cB cI cL sF_129) H := hP
    have hD : va_D A (zwT adT adT_bytes cB cI cL sT ++ zwR adR adT cB cI cL sR_129 ++ zwF adF adF_parts cB cI cL sF_129) := hD
    have hG : g_F_takeRest_c129 N sT sR_129 sF_129 = some a := hG
    unfold g_F_takeRest_c129 at hG
    refine lv_aload_n hx hb d_F_takeRest_132 rfl (lv_at hl 0 rfl) ?_
    refine lv_aload_n hx hb d_F_takeRest_133 rfl (lv_at hl 1 rfl) ?_
    refine lv_ldc2 (v := (16 : Int64)) hx hb hown (hts (.constantLong R_F 92 (16 : Int64)) zin_F_92) d_F_takeRest_134 ?_
    obtain ⟨a_137, hx_137, hG⟩ := zb hG
    have hr_137 := zrunV (p := p) (e := e) (below := below) (meth := meth) (As := [.long (16 : Int64)]) (rest := [.ref adF]) (st0 := [.long (16 : Int64), .ref adR, .ref adF]) (cells := 0) (slots := 0) X zz hP hD hS hA [2] (by decide) rfl (c_R_takeBytes l dC dI cB cI cL H.size adR adT sR_129 (16 : Int64) _ hx_137) zy_R_takeBytes zv_R_takeBytes (hts (.methodLink R_F 94 y_R_takeBytes) zin_F_94) hl rfl rfl d_F_takeRest_137 (lv_room (Nat.le_of_ble_eq_true rfl)) rfl rfl ⟨Nat.le_trans (Nat.le_of_ble_eq_true rfl) hRf, Nat.le_trans (Nat.le_of_ble_eq_true rfl) hRl⟩ ⟨Nat.zero_le _, Nat.zero_le _⟩ 0 2 rfl rfl
    refine zcalli (wr := (zwT adT adT_bytes cB cI cL sT ++ zwF adF adF_parts cB cI cL sF_129)) hr_137 hP hD hS hA [2] [0, 1, 3, 4] rfl rfl (by decide) (by decide) (fun r_137 u_137 H locs hw_137 hP hD hS => ?_)
    obtain ⟨sR_137, rfl⟩ : ∃ z, z = u_137 := ⟨_, rfl⟩
    subst hw_137
    have hP : va_P (dC, dI) zcl (zwT adT adT_bytes cB cI cL sT ++ zwF adF adF_parts cB cI cL sF_129 ++ zwR adR adT cB cI cL sR_137) H := hP
    have hD : va_D A (zwT adT adT_bytes cB cI cL sT ++ zwF adF adF_parts cB cI cL sF_129 ++ zwR adR adT cB cI cL sR_137) := hD
    have hG : g_F_takeRest_c137 N sT sF_129 sR_137 r_137 = some a := hG
    unfold g_F_takeRest_c137 at hG
    refine va_put (D := (dC, dI)) (ci := 4) (v := .int r_137) (ty := .int) (C := R_F) (T := F_F) (N := 7) hx hb hts zi_F zty_F zty_F_ok znm_F hown zz.1 hP hD hS 2 rfl rfl 2 (by decide) (hts (.fieldLink R_F 98 "WireCodec$Frame" "secretPlace" "I") zin_F_98) (fun _ h9 => h9) rfl (by decide +kernel) rfl rfl (Nat.le_of_ble_eq_true rfl) d_F_takeRest_140 (fun H locs hP hD hS => ?_)
    have hP : va_P (dC, dI) zcl (zwT adT adT_bytes cB cI cL sT ++ zwF adF adF_parts cB cI cL (zF_secretPlace' sF_129 r_137) ++ zwR adR adT cB cI cL sR_137) H := hP
    have hD : va_D A (zwT adT adT_bytes cB cI cL sT ++ zwF adF adF_parts cB cI cL (zF_secretPlace' sF_129 r_137) ++ zwR adR adT cB cI cL sR_137) := hD
    have hG : g_F_takeRest_w140 N sT sR_137 (zF_secretPlace' sF_129 r_137) = some a := hG
    generalize zF_secretPlace' sF_129 r_137 = sF_140 at hP hD hG
    unfold g_F_takeRest_w140 at hG
    refine lv_aload_n hx hb d_F_takeRest_143 rfl (lv_at hl 0 rfl) ?_
    refine lv_bipush (v := (16 : Int32)) hx hb d_F_takeRest_144 (by decide) ?_
    refine va_put (D := (dC, dI)) (ci := 4) (v := .int (16 : Int32)) (ty := .int) (C := R_F) (T := F_F) (N := 7) hx hb hts zi_F zty_F zty_F_ok znm_F hown zz.1 hP hD hS 2 rfl rfl 3 (by decide) (hts (.fieldLink R_F 68 "WireCodec$Frame" "secretBytes" "I") zin_F_68) (fun _ h9 => h9) rfl (by decide +kernel) rfl rfl (Nat.le_of_ble_eq_true rfl) d_F_takeRest_146 (fun H locs hP hD hS => ?_)
    have hP : va_P (dC, dI) zcl (zwT adT adT_bytes cB cI cL sT ++ zwF adF adF_parts cB cI cL (zF_secretBytes' sF_140 (16 : Int32)) ++ zwR adR adT cB cI cL sR_137) H := hP
    have hD : va_D A (zwT adT adT_bytes cB cI cL sT ++ zwF adF adF_parts cB cI cL (zF_secretBytes' sF_140 (16 : Int32)) ++ zwR adR adT cB cI cL sR_137) := hD
    have hG : g_F_takeRest_w146 N sT sR_137 (zF_secretBytes' sF_140 (16 : Int32)) = some a := hG
    generalize zF_secretBytes' sF_140 (16 : Int32) = sF_146 at hP hD hG
    unfold g_F_takeRest_w146 at hG
    refine lv_goto (tgt := 167) hx hb d_F_takeRest_149 (by decide) ?_
    exact k_F_takeRest_167 X hA zz N sT sR_137 sF_146 _ hG adT adT_bytes adR adF adF_parts _ _ (hP.sub [0, 1, 4, 2, 3] rfl) (hD.sub [0, 1, 4, 2, 3] (by decide) rfl) hS _ (lv_sub hl [] rfl)
  have hG := zf hG hc
  have hk4 := zne hc
  by_cases hc : v2 = (26 : Int32)
  · have hG := zt hG hc
    refine lv_lookup (tgt := 152) hx hb d_F_takeRest_1 (by decide) (by rw [hc]) (by decide) ?_
    exact k_F_takeRest_152 X hA zz N sT sR sF _ hG adT adT_bytes adR adF adF_parts _ _ hP hD hS _ (lv_sub hl [0, 1] rfl)
  have hG := zf hG hc
  have hk5 := zne hc
  by_cases hc : v2 = (27 : Int32)
  · have hG := zt hG hc
    refine lv_lookup (tgt := 152) hx hb d_F_takeRest_1 (by decide) (by rw [hc]) (by decide) ?_
    exact k_F_takeRest_152 X hA zz N sT sR sF _ hG adT adT_bytes adR adF adF_parts _ _ hP hD hS _ (lv_sub hl [0, 1] rfl)
  have hG := zf hG hc
  have hk6 := zne hc
  refine lv_lookup (tgt := 167) hx hb d_F_takeRest_1 (by decide) (zlook (by intro q9 hq9; simp only [List.mem_cons, List.not_mem_nil, or_false] at hq9; rcases hq9 with rfl | rfl | rfl | rfl | rfl | rfl | rfl <;> first | exact hk0 | exact hk1 | exact hk2 | exact hk3 | exact hk4 | exact hk5 | exact hk6)) (by decide) ?_
  exact k_F_takeRest_167 X hA zz N sT sR sF _ hG adT adT_bytes adR adF adF_parts _ _ hP hD hS _ (lv_sub hl [] rfl)
set_option maxRecDepth 100000 in
set_option maxHeartbeats 4000000 in
theorem c_F_takeRest (l : Launch) (dC : Nat → ClassId) (dI : Nat → Nat → Nat) (cB cI cL : ClassId) (sz : Nat) (adT adT_bytes adR adF adF_parts : Nat) (N : Nat) (sT : zT) (sR : zR) (sF : zF) (v2 : Int32) (v3 : Int32) (a : zR × zF) (hG : g_F_takeRest N sT sR sF v2 v3 = some a) : Met l y_F_takeRest (zw y_F_takeRest b_F_takeRest 4 none) ({ frames := 4, cells := 0, slots := 0, locals := 97 }) (va_Pc [.ref adF, .ref adR, .int v2, .int v3] (zpre dC dI cB cI cL sz (zwT adT adT_bytes cB cI cL sT ++ zwR adR adT cB cI cL sR ++ zwF adF adF_parts cB cI cL sF))) (q_F_takeRest dC dI cB cI cL (va_A (zwT adT adT_bytes cB cI cL sT ++ zwR adR adT cB cI cL sR ++ zwF adF adF_parts cB cI cL sF) sz) adT adT_bytes adR adF adF_parts sT a) 0 0 (va_A (zwT adT adT_bytes cB cI cL sT ++ zwR adR adT cB cI cL sR ++ zwF adF adF_parts cB cI cL sF) sz) := by
  refine Met.ofW (cc := b_F_takeRest) (maxL := 4) (ret := none) (by decide) rfl ?_
  intro p e s m args below meth c s₁ B hml hv
  obtain ⟨rfl, hsz, hP, zz, hD0⟩ := hv
  subst hsz
  have X := zx_of (F := 4) (L := 97) B hml (Nat.le_refl _) (Nat.le_refl _)
  have hD := hD0.self (sz := s.heap.size)
  have hA : ∀ q : Nat, s.heap.size ≤ q → va_A (zwT adT adT_bytes cB cI cL sT ++ zwR adR adT cB cI cL sR ++ zwF adF adF_parts cB cI cL sF) s.heap.size q := fun q h => Or.inr h
  have hl := lv_entry ([.ref adF, .ref adR, .int v2, .int v3]) (n := 4) (Nat.le_of_ble_eq_true rfl)
  rw [lg_entry_eq]
  generalize (lg_sl ([.ref adF, .ref adR, .int v2, .int v3]) ++ List.replicate (4 - (lg_sl ([.ref adF, .ref adR, .int v2, .int v3])).length) Slot.unset).toArray = ls at hl ⊢
  exact k_F_takeRest_0 X hA zz N sT sR sF v2 v3 a hG adT adT_bytes adR adF adF_parts _ _ hP hD va_S.rf ls hl
noncomputable def g_H_parseLong_172 (N : Nat) (sT : zT) (sR : zR) (sH : zH) (s0 : Int32) : Option (Int32 × zR × zH) := some (s0, sR, sH)
noncomputable def g_H_parseLong_c169 (N : Nat) (sT : zT) (sR_169 : zR) (sH_169 : zH) (r_169 : Int32) : Option (Int32 × zR × zH) := g_H_parseLong_172 N sT sR_169 sH_169 r_169
noncomputable def g_H_parseLong_156 (N : Nat) (sT : zT) (sR : zR) (sH : zH) (s0 : Int32) : Option (Int32 × zR × zH) := if s0 = (0 : Int32) then ((g_H_parseTokenAndLength N sT sR sH).bind (fun a => g_H_parseLong_c169 N sT a.2.1 a.2.2 a.1)) else (g_H_parseLong_172 N sT sR sH (4 : Int32))
noncomputable def g_H_parseLong_151 (N : Nat) (sT : zT) (sR : zR) (sH : zH) : Option (Int32 × zR × zH) := g_H_parseLong_156 N sT sR sH (1 : Int32)
noncomputable def g_H_parseLong_w121 (N : Nat) (sT : zT) (sR_118 : zR) (sH_121 : zH) : Option (Int32 × zR × zH) := if (zR_over sR_118) = (0 : Int32) then (zg (vp_in (0 : Int32) 12) (if ((zH_parts sH_121) (0 : Int32).toNatClampNeg) = (1 : Int32) then (g_H_parseLong_151 N sT sR_118 sH_121) else (zg (vp_in (0 : Int32) 12) (if ((zH_parts sH_121) (0 : Int32).toNatClampNeg) = (3 : Int32) then (g_H_parseLong_151 N sT sR_118 sH_121) else (g_H_parseLong_156 N sT sR_118 sH_121 (0 : Int32)))))) else (some ((1 : Int32), sR_118, sH_121))
noncomputable def g_H_parseLong_c118 (N : Nat) (sT : zT) (sH_90 : zH) (sR_118 : zR) (r_118 : Int32) : Option (Int32 × zR × zH) := zg (vp_in (8 : Int32) 12) (g_H_parseLong_w121 N sT sR_118 (zH_parts' sH_90 (upd (zH_parts sH_90) ((8 : Int32).toNatClampNeg) r_118)))
noncomputable def g_H_parseLong_c90 (N : Nat) (sT : zT) (sR_90 : zR) (sH_90 : zH) (r_90 : Int32) : Option (Int32 × zR × zH) := if r_90 = (0 : Int32) then (zg (vp_in (9 : Int32) 12) ((g_R_takeBytes sR_90 (((zH_parts sH_90) (9 : Int32).toNatClampNeg).toInt64)).bind (fun a => g_H_parseLong_c118 N sT sH_90 a.2 a.1))) else (some (r_90, sR_90, sH_90))
noncomputable def g_H_parseLong_w85 (N : Nat) (sT : zT) (sR_82 : zR) (sH_85 : zH) : Option (Int32 × zR × zH) := (g_H_sizeOfName N sT sR_82 sH_85 (9 : Int32)).bind (fun a => g_H_parseLong_c90 N sT a.2.1 a.2.2 a.1)
noncomputable def g_H_parseLong_c82 (N : Nat) (sT : zT) (sH_58 : zH) (sR_82 : zR) (r_82 : Int32) : Option (Int32 × zR × zH) := zg (vp_in (6 : Int32) 12) (g_H_parseLong_w85 N sT sR_82 (zH_parts' sH_58 (upd (zH_parts sH_58) ((6 : Int32).toNatClampNeg) r_82)))
noncomputable def g_H_parseLong_w58 (N : Nat) (sT : zT) (sR_31 : zR) (r_31 : Int32) (sH_58 : zH) : Option (Int32 × zR × zH) := if r_31 = (0 : Int32) then (zg (vp_in (7 : Int32) 12) ((g_R_takeBytes sR_31 (((zH_parts sH_58) (7 : Int32).toNatClampNeg).toInt64)).bind (fun a => g_H_parseLong_c82 N sT sH_58 a.2 a.1))) else (some (r_31, sR_31, sH_58))
noncomputable def g_H_parseLong_c31 (N : Nat) (sT : zT) (r_23 : Int64) (sR_31 : zR) (sH_31 : zH) (r_31 : Int32) : Option (Int32 × zR × zH) := if r_31 = (1 : Int32) then (some ((1 : Int32), sR_31, sH_31)) else (if (lg_cmp r_23 (1 : Int64)) = (0 : Int32) then (zg (vp_in (2 : Int32) 12) (g_H_parseLong_w58 N sT sR_31 r_31 (zH_parts' sH_31 (upd (zH_parts sH_31) ((2 : Int32).toNatClampNeg) (1 : Int32))))) else (some ((3 : Int32), sR_31, sH_31)))
noncomputable def g_H_parseLong_c23 (N : Nat) (sT : zT) (sH_20 : zH) (sR_23 : zR) (r_23 : Int64) : Option (Int32 × zR × zH) := (g_H_sizeOfName N sT sR_23 sH_20 (7 : Int32)).bind (fun a => g_H_parseLong_c31 N sT r_23 a.2.1 a.2.2 a.1)
noncomputable def g_H_parseLong_w20 (N : Nat) (sT : zT) (sR : zR) (sH_20 : zH) : Option (Int32 × zR × zH) := (g_R_takeWord N sT sR (4 : Int32)).bind (fun a => g_H_parseLong_c23 N sT sH_20 a.2 a.1)
noncomputable def g_H_parseLong_w10 (N : Nat) (sT : zT) (sR : zR) (v2 : Int32) (sH_10 : zH) : Option (Int32 × zR × zH) := zg (vp_in (1 : Int32) 12) (g_H_parseLong_w20 N sT sR (zH_parts' sH_10 (upd (zH_parts sH_10) ((1 : Int32).toNatClampNeg) (v2 &&& (15 : Int32)))))
noncomputable def g_H_parseLong (N : Nat) (sT : zT) (sR : zR) (sH : zH) (v2 : Int32) : Option (Int32 × zR × zH) := zg (vp_in (0 : Int32) 12) (g_H_parseLong_w10 N sT sR v2 (zH_parts' sH (upd (zH_parts sH) ((0 : Int32).toNatClampNeg) ((v2 >>> ((4 : Int32) &&& 31)) &&& (3 : Int32)))))
def q_H_parseLong (dC : Nat → ClassId) (dI : Nat → Nat → Nat) (cB cI cL : ClassId) (A : Nat → Prop) (adT : Nat) (adT_bytes : Nat) (adR : Nat) (adH : Nat) (adH_parts : Nat) (sT : zT) (a : Int32 × zR × zH) : Array Value → State → Outcome → State → Prop := va_Qi (fun (r : Int32) (u : zR × zH) => (r, u.1, u.2) = a) (fun u U => va_P (dC, dI) zcl (zwT adT adT_bytes cB cI cL sT ++ zwR adR adT cB cI cL u.1 ++ zwH adH adH_parts cB cI cL u.2) U.heap ∧ va_D A (zwT adT adT_bytes cB cI cL sT ++ zwR adR adT cB cI cL u.1 ++ zwH adH adH_parts cB cI cL u.2)) A
set_option maxRecDepth 100000 in
set_option maxHeartbeats 4000000 in
theorem k_H_parseLong_172 {p : Program} {l : Launch} {e : Env} {R : Room} {s : State} {m : MethodId} {args : Array Value} {below : List Frame} {meth : Method} {c : Code} {dC : Nat → ClassId} {dI : Nat → Nat → Nat} {cB cI cL : ClassId} {A : Nat → Prop} (X : zx p s m args meth c R R_H b_H_parseLong (some .int) 7 4 93) (hA : ∀ q, s.heap.size ≤ q → A q) (zz : zk dC dI cB cI cL A s)  (N : Nat) (sT : zT) (sR : zR) (sH : zH) (s0 : Int32) (a : Int32 × zR × zH) (hG : g_H_parseLong_172 N sT sR sH s0 = some a) (adT adT_bytes adR adH adH_parts : Nat) (H : Heap) (locs : List Loc) (hP : va_P (dC, dI) zcl (zwT adT adT_bytes cB cI cL sT ++ zwR adR adT cB cI cL sR ++ zwH adH adH_parts cB cI cL sH) H) (hD : va_D A (zwT adT adT_bytes cB cI cL sT ++ zwR adR adT cB cI cL sR ++ zwH adH adH_parts cB cI cL sH)) (hS : va_S A s.heap H locs) (ls : Array Slot) (hl : lv_has ls 7 []) : W p l e R s m args below meth c H locs 0 0 (MQ below (q_H_parseLong dC dI cB cI cL A adT adT_bytes adR adH adH_parts sT a) args s 0 0 A) (F0 m 172 ls [.int s0]) := by
  obtain ⟨hx, hb, hr, hml, hown, hts, hlocks, hRf, hRl⟩ := id X
  unfold g_H_parseLong_172 at hG
  exact W.iret (v := s0) hx hb hr (fun t9 ht9 hW9 => ⟨⟨s0, (sR, sH), rfl, Option.some.inj hG, by rw [ht9]; exact hP, hD⟩, hS.F ht9⟩) hS.2.2 d_H_parseLong_172
set_option maxRecDepth 100000 in
set_option maxHeartbeats 4000000 in
theorem k_H_parseLong_156 {p : Program} {l : Launch} {e : Env} {R : Room} {s : State} {m : MethodId} {args : Array Value} {below : List Frame} {meth : Method} {c : Code} {dC : Nat → ClassId} {dI : Nat → Nat → Nat} {cB cI cL : ClassId} {A : Nat → Prop} (X : zx p s m args meth c R R_H b_H_parseLong (some .int) 7 4 93) (hA : ∀ q, s.heap.size ≤ q → A q) (zz : zk dC dI cB cI cL A s)  (N : Nat) (sT : zT) (sR : zR) (sH : zH) (s0 : Int32) (a : Int32 × zR × zH) (hG : g_H_parseLong_156 N sT sR sH s0 = some a) (adT adT_bytes adR adH adH_parts : Nat) (H : Heap) (locs : List Loc) (hP : va_P (dC, dI) zcl (zwT adT adT_bytes cB cI cL sT ++ zwR adR adT cB cI cL sR ++ zwH adH adH_parts cB cI cL sH) H) (hD : va_D A (zwT adT adT_bytes cB cI cL sT ++ zwR adR adT cB cI cL sR ++ zwH adH adH_parts cB cI cL sH)) (hS : va_S A s.heap H locs) (ls : Array Slot) (hl : lv_has ls 7 [(0, .ref adH), (1, .ref adR)]) : W p l e R s m args below meth c H locs 0 0 (MQ below (q_H_parseLong dC dI cB cI cL A adT adT_bytes adR adH adH_parts sT a) args s 0 0 A) (F0 m 156 ls [.int s0]) := by
  obtain ⟨hx, hb, hr, hml, hown, hts, hlocks, hRf, hRl⟩ := id X
  unfold g_H_parseLong_156 at hG
  refine lv_istore (lv' := [(6, .int s0), (0, .ref adH), (1, .ref adR)]) hx hb d_H_parseLong_156 hl (by decide) rfl (fun ls hl => ?_)
  refine lv_iload hx hb d_H_parseLong_158 (lv_at hl 0 rfl) ?_
  refine lv_if_eq (tgt := 167) hx hb d_H_parseLong_160 (by decide) (fun hc => ?_) (fun hc => ?_)
  · have hG := zt hG hc
    refine lv_aload_n hx hb d_H_parseLong_167 rfl (lv_at hl 1 rfl) ?_
    refine lv_aload_n hx hb d_H_parseLong_168 rfl (lv_at hl 2 rfl) ?_
    obtain ⟨a_169, hx_169, hG⟩ := zb hG
    have hr_169 := zrunV (p := p) (e := e) (below := below) (meth := meth) (As := [.ref adR]) (rest := []) (st0 := [.ref adR, .ref adH]) (cells := 0) (slots := 0) X zz hP hD hS hA [0, 1, 2, 3, 4] (by decide) rfl (c_H_parseTokenAndLength l dC dI cB cI cL H.size adT adT_bytes adR adH adH_parts N sT sR sH _ hx_169) zy_H_parseTokenAndLength zv_H_parseTokenAndLength (hts (.methodLink R_H 63 y_H_parseTokenAndLength) zin_H_63) hl rfl rfl d_H_parseLong_169 (lv_room (Nat.le_of_ble_eq_true rfl)) rfl rfl ⟨Nat.le_trans (Nat.le_of_ble_eq_true rfl) hRf, Nat.le_trans (Nat.le_of_ble_eq_true rfl) hRl⟩ ⟨Nat.zero_le _, Nat.zero_le _⟩ 3 5 rfl rfl
    refine zcalli (wr := ([] : va_W)) hr_169 hP hD hS hA [0, 1, 2, 3, 4] [] rfl rfl (by decide) (by decide) (fun r_169 u_169 H locs hw_169 hP hD hS => ?_)
    obtain ⟨sR_169, sH_169⟩ := u_169
    subst hw_169
    have hP : va_P (dC, dI) zcl (zwT adT adT_bytes cB cI cL sT ++ zwR adR adT cB cI cL sR_169 ++ zwH adH adH_parts cB cI cL sH_169) H := hP
    have hD : va_D A (zwT adT adT_bytes cB cI cL sT ++ zwR adR adT cB cI cL sR_169 ++ zwH adH adH_parts cB cI cL sH_169) := hD
    have hG : g_H_parseLong_c169 N sT sR_169 sH_169 r_169 = some a := hG
    unfold g_H_parseLong_c169 at hG
    exact k_H_parseLong_172 X hA zz N sT sR_169 sH_169 r_169 _ hG adT adT_bytes adR adH adH_parts _ _ hP hD hS _ (lv_sub hl [] rfl)
  · have hG := zf hG hc
    refine lv_iconst (v := (4 : Int32)) hx hb d_H_parseLong_163 (by decide) ?_
    refine lv_goto (tgt := 172) hx hb d_H_parseLong_164 (by decide) ?_
    exact k_H_parseLong_172 X hA zz N sT sR sH (4 : Int32) _ hG adT adT_bytes adR adH adH_parts _ _ hP hD hS _ (lv_sub hl [] rfl)
set_option maxRecDepth 100000 in
set_option maxHeartbeats 4000000 in
theorem k_H_parseLong_151 {p : Program} {l : Launch} {e : Env} {R : Room} {s : State} {m : MethodId} {args : Array Value} {below : List Frame} {meth : Method} {c : Code} {dC : Nat → ClassId} {dI : Nat → Nat → Nat} {cB cI cL : ClassId} {A : Nat → Prop} (X : zx p s m args meth c R R_H b_H_parseLong (some .int) 7 4 93) (hA : ∀ q, s.heap.size ≤ q → A q) (zz : zk dC dI cB cI cL A s)  (N : Nat) (sT : zT) (sR : zR) (sH : zH) (a : Int32 × zR × zH) (hG : g_H_parseLong_151 N sT sR sH = some a) (adT adT_bytes adR adH adH_parts : Nat) (H : Heap) (locs : List Loc) (hP : va_P (dC, dI) zcl (zwT adT adT_bytes cB cI cL sT ++ zwR adR adT cB cI cL sR ++ zwH adH adH_parts cB cI cL sH) H) (hD : va_D A (zwT adT adT_bytes cB cI cL sT ++ zwR adR adT cB cI cL sR ++ zwH adH adH_parts cB cI cL sH)) (hS : va_S A s.heap H locs) (ls : Array Slot) (hl : lv_has ls 7 [(0, .ref adH), (1, .ref adR)]) : W p l e R s m args below meth c H locs 0 0 (MQ below (q_H_parseLong dC dI cB cI cL A adT adT_bytes adR adH adH_parts sT a) args s 0 0 A) (F0 m 151 ls []) := by
  obtain ⟨hx, hb, hr, hml, hown, hts, hlocks, hRf, hRl⟩ := id X
  unfold g_H_parseLong_151 at hG
  refine lv_iconst (v := (1 : Int32)) hx hb d_H_parseLong_151 (by decide) ?_
  refine lv_goto (tgt := 156) hx hb d_H_parseLong_152 (by decide) ?_
  exact k_H_parseLong_156 X hA zz N sT sR sH (1 : Int32) _ hG adT adT_bytes adR adH adH_parts _ _ hP hD hS _ (lv_sub hl [0, 1] rfl)
set_option maxRecDepth 100000 in
set_option maxHeartbeats 4000000 in
theorem k_H_parseLong_0 {p : Program} {l : Launch} {e : Env} {R : Room} {s : State} {m : MethodId} {args : Array Value} {below : List Frame} {meth : Method} {c : Code} {dC : Nat → ClassId} {dI : Nat → Nat → Nat} {cB cI cL : ClassId} {A : Nat → Prop} (X : zx p s m args meth c R R_H b_H_parseLong (some .int) 7 4 93) (hA : ∀ q, s.heap.size ≤ q → A q) (zz : zk dC dI cB cI cL A s)  (N : Nat) (sT : zT) (sR : zR) (sH : zH) (v2 : Int32) (a : Int32 × zR × zH) (hG : g_H_parseLong N sT sR sH v2 = some a) (adT adT_bytes adR adH adH_parts : Nat) (H : Heap) (locs : List Loc) (hP : va_P (dC, dI) zcl (zwT adT adT_bytes cB cI cL sT ++ zwR adR adT cB cI cL sR ++ zwH adH adH_parts cB cI cL sH) H) (hD : va_D A (zwT adT adT_bytes cB cI cL sT ++ zwR adR adT cB cI cL sR ++ zwH adH adH_parts cB cI cL sH)) (hS : va_S A s.heap H locs) (ls : Array Slot) (hl : lv_has ls 7 [(0, .ref adH), (1, .ref adR), (2, .int v2)]) : W p l e R s m args below meth c H locs 0 0 (MQ below (q_H_parseLong dC dI cB cI cL A adT adT_bytes adR adH adH_parts sT a) args s 0 0 A) (F0 m 0 ls []) := by
  obtain ⟨hx, hb, hr, hml, hown, hts, hlocks, hRf, hRl⟩ := id X
  unfold g_H_parseLong at hG
  refine lv_aload_n hx hb d_H_parseLong_0 rfl (lv_at hl 0 rfl) ?_
  refine va_get (D := (dC, dI)) (ci := 5) (v := .ref adH_parts) (C := R_H) (T := F_H) (N := 1) hx hb hts zi_H hown zz.1 hP 3 rfl rfl 0 (by decide) (hts (.fieldLink R_H 9 "WireCodec$Header" "parts" "[I") zin_H_9) (fun _ h9 => h9) rfl d_H_parseLong_1 ?_
  refine lv_iconst (v := (0 : Int32)) hx hb d_H_parseLong_4 (by decide) ?_
  refine lv_iload_n hx hb d_H_parseLong_5 rfl (lv_at hl 2 rfl) ?_
  refine lv_iconst (v := (4 : Int32)) hx hb d_H_parseLong_6 (by decide) ?_
  refine lv_ishr hx hb d_H_parseLong_7 ?_
  refine lv_iconst (v := (3 : Int32)) hx hb d_H_parseLong_8 (by decide) ?_
  refine lv_iand hx hb d_H_parseLong_9 ?_
  obtain ⟨hin, hG⟩ := zgd hG
  refine va_iast hx hb zz.1 hP hD hS 4 1 rfl rfl hin d_H_parseLong_10 (fun H locs hP hD hS => ?_)
  have hP : va_P (dC, dI) zcl (zwT adT adT_bytes cB cI cL sT ++ zwR adR adT cB cI cL sR ++ zwH adH adH_parts cB cI cL (zH_parts' sH (upd (zH_parts sH) ((0 : Int32).toNatClampNeg) ((v2 >>> ((4 : Int32) &&& 31)) &&& (3 : Int32))))) H := hP
  have hD : va_D A (zwT adT adT_bytes cB cI cL sT ++ zwR adR adT cB cI cL sR ++ zwH adH adH_parts cB cI cL (zH_parts' sH (upd (zH_parts sH) ((0 : Int32).toNatClampNeg) ((v2 >>> ((4 : Int32) &&& 31)) &&& (3 : Int32))))) := hD
  have hG : g_H_parseLong_w10 N sT sR v2 (zH_parts' sH (upd (zH_parts sH) ((0 : Int32).toNatClampNeg) ((v2 >>> ((4 : Int32) &&& 31)) &&& (3 : Int32)))) = some a := hG
  generalize zH_parts' sH (upd (zH_parts sH) ((0 : Int32).toNatClampNeg) ((v2 >>> ((4 : Int32) &&& 31)) &&& (3 : Int32))) = sH_10 at hP hD hG
  unfold g_H_parseLong_w10 at hG
  refine lv_aload_n hx hb d_H_parseLong_11 rfl (lv_at hl 0 rfl) ?_
  refine va_get (D := (dC, dI)) (ci := 5) (v := .ref adH_parts) (C := R_H) (T := F_H) (N := 1) hx hb hts zi_H hown zz.1 hP 3 rfl rfl 0 (by decide) (hts (.fieldLink R_H 9 "WireCodec$Header" "parts" "[I") zin_H_9) (fun _ h9 => h9) rfl d_H_parseLong_12 ?_
  refine lv_iconst (v := (1 : Int32)) hx hb d_H_parseLong_15 (by decide) ?_
  refine lv_iload_n hx hb d_H_parseLong_16 rfl (lv_at hl 2 rfl) ?_
  refine lv_bipush (v := (15 : Int32)) hx hb d_H_parseLong_17 (by decide) ?_
  refine lv_iand hx hb d_H_parseLong_19 ?_
  obtain ⟨hin, hG⟩ := zgd hG
  refine va_iast hx hb zz.1 hP hD hS 4 1 rfl rfl hin d_H_parseLong_20 (fun H locs hP hD hS => ?_)
  have hP : va_P (dC, dI) zcl (zwT adT adT_bytes cB cI cL sT ++ zwR adR adT cB cI cL sR ++ zwH adH adH_parts cB cI cL (zH_parts' sH_10 (upd (zH_parts sH_10) ((1 : Int32).toNatClampNeg) (v2 &&& (15 : Int32))))) H := hP
  have hD : va_D A (zwT adT adT_bytes cB cI cL sT ++ zwR adR adT cB cI cL sR ++ zwH adH adH_parts cB cI cL (zH_parts' sH_10 (upd (zH_parts sH_10) ((1 : Int32).toNatClampNeg) (v2 &&& (15 : Int32))))) := hD
  have hG : g_H_parseLong_w20 N sT sR (zH_parts' sH_10 (upd (zH_parts sH_10) ((1 : Int32).toNatClampNeg) (v2 &&& (15 : Int32)))) = some a := hG
  generalize zH_parts' sH_10 (upd (zH_parts sH_10) ((1 : Int32).toNatClampNeg) (v2 &&& (15 : Int32))) = sH_20 at hP hD hG
  unfold g_H_parseLong_w20 at hG
  refine lv_aload_n hx hb d_H_parseLong_21 rfl (lv_at hl 1 rfl) ?_
  refine lv_iconst (v := (4 : Int32)) hx hb d_H_parseLong_22 (by decide) ?_
  obtain ⟨a_23, hx_23, hG⟩ := zb hG
  have hr_23 := zrunV (p := p) (e := e) (below := below) (meth := meth) (As := [.int (4 : Int32)]) (rest := []) (st0 := [.int (4 : Int32), .ref adR]) (cells := 0) (slots := 0) X zz hP hD hS hA [0, 1, 2] (by decide) rfl (c_R_takeWord l dC dI cB cI cL H.size adT adT_bytes adR N sT sR (4 : Int32) _ hx_23) zy_R_takeWord zv_R_takeWord (hts (.methodLink R_H 27 y_R_takeWord) zin_H_27) hl rfl rfl d_H_parseLong_23 (lv_room (Nat.le_of_ble_eq_true rfl)) rfl rfl ⟨Nat.le_trans (Nat.le_of_ble_eq_true rfl) hRf, Nat.le_trans (Nat.le_of_ble_eq_true rfl) hRl⟩ ⟨Nat.zero_le _, Nat.zero_le _⟩ 2 2 rfl rfl
  refine zcalll (wr := (zwH adH adH_parts cB cI cL sH_20)) hr_23 hP hD hS hA [0, 1, 2] [3, 4] rfl rfl (by decide) (by decide) (fun r_23 u_23 H locs hw_23 hP hD hS => ?_)
  obtain ⟨sR_23, rfl⟩ : ∃ z, z = u_23 := ⟨_, rfl⟩
  subst hw_23
  have hP : va_P (dC, dI) zcl (zwH adH adH_parts cB cI cL sH_20 ++ zwT adT adT_bytes cB cI cL sT ++ zwR adR adT cB cI cL sR_23) H := hP
  have hD : va_D A (zwH adH adH_parts cB cI cL sH_20 ++ zwT adT adT_bytes cB cI cL sT ++ zwR adR adT cB cI cL sR_23) := hD
  have hG : g_H_parseLong_c23 N sT sH_20 sR_23 r_23 = some a := hG
  unfold g_H_parseLong_c23 at hG
  refine lv_lstore_n (lv' := [(3, .long r_23), (0, .ref adH), (1, .ref adR), (2, .int v2)]) hx hb d_H_parseLong_26 rfl hl (by decide) rfl (fun ls hl => ?_)
  refine lv_aload_n hx hb d_H_parseLong_27 rfl (lv_at hl 1 rfl) ?_
  refine lv_aload_n hx hb d_H_parseLong_28 rfl (lv_at hl 2 rfl) ?_
  refine lv_bipush (v := (7 : Int32)) hx hb d_H_parseLong_29 (by decide) ?_
  obtain ⟨a_31, hx_31, hG⟩ := zb hG
  have hr_31 := zrunV (p := p) (e := e) (below := below) (meth := meth) (As := [.ref adR, .int (7 : Int32)]) (rest := []) (st0 := [.int (7 : Int32), .ref adR, .ref adH]) (cells := 0) (slots := 0) X zz hP hD hS hA [2, 3, 4, 0, 1] (by decide) rfl (c_H_sizeOfName l dC dI cB cI cL H.size adT adT_bytes adR adH adH_parts N sT sR_23 sH_20 (7 : Int32) _ hx_31) zy_H_sizeOfName zv_H_sizeOfName (hts (.methodLink R_H 60 y_H_sizeOfName) zin_H_60) hl rfl rfl d_H_parseLong_31 (lv_room (Nat.le_of_ble_eq_true rfl)) rfl rfl ⟨Nat.le_trans (Nat.le_of_ble_eq_true rfl) hRf, Nat.le_trans (Nat.le_of_ble_eq_true rfl) hRl⟩ ⟨Nat.zero_le _, Nat.zero_le _⟩ 3 5 rfl rfl
  refine zcalli (wr := ([] : va_W)) hr_31 hP hD hS hA [2, 3, 4, 0, 1] [] rfl rfl (by decide) (by decide) (fun r_31 u_31 H locs hw_31 hP hD hS => ?_)
  obtain ⟨sR_31, sH_31⟩ := u_31
  subst hw_31
  have hP : va_P (dC, dI) zcl (zwT adT adT_bytes cB cI cL sT ++ zwR adR adT cB cI cL sR_31 ++ zwH adH adH_parts cB cI cL sH_31) H := hP
  have hD : va_D A (zwT adT adT_bytes cB cI cL sT ++ zwR adR adT cB cI cL sR_31 ++ zwH adH adH_parts cB cI cL sH_31) := hD
  have hG : g_H_parseLong_c31 N sT r_23 sR_31 sH_31 r_31 = some a := hG
  unfold g_H_parseLong_c31 at hG
  refine lv_istore (lv' := [(5, .int r_31), (3, .long r_23), (0, .ref adH), (1, .ref adR), (2, .int v2)]) hx hb d_H_parseLong_34 hl (by decide) rfl (fun ls hl => ?_)
  refine lv_iload hx hb d_H_parseLong_36 (lv_at hl 0 rfl) ?_
  refine lv_iconst (v := (1 : Int32)) hx hb d_H_parseLong_38 (by decide) ?_
  refine lv_icmp_ne (tgt := 44) hx hb d_H_parseLong_39 (by decide) (fun hc => ?_) (fun hc => ?_)
  · have hG := zf hG hc
    refine lv_lload_n hx hb d_H_parseLong_44 rfl (lv_at hl 1 rfl) ?_
    refine lv_lconst (v := (1 : Int64)) hx hb d_H_parseLong_45 (by decide) ?_
    refine W.lcmp hx hb d_H_parseLong_46 ?_
    refine lv_if_eq (tgt := 52) hx hb d_H_parseLong_47 (by decide) (fun hc => ?_) (fun hc => ?_)
    · have hG := zt hG hc
      refine lv_aload_n hx hb d_H_parseLong_52 rfl (lv_at hl 2 rfl) ?_
      refine va_get (D := (dC, dI)) (ci := 5) (v := .ref adH_parts) (C := R_H) (T := F_H) (N := 1) hx hb hts zi_H hown zz.1 hP 3 rfl rfl 0 (by decide) (hts (.fieldLink R_H 9 "WireCodec$Header" "parts" "[I") zin_H_9) (fun _ h9 => h9) rfl d_H_parseLong_53 ?_
      refine lv_iconst (v := (2 : Int32)) hx hb d_H_parseLong_56 (by decide) ?_
      refine lv_iconst (v := (1 : Int32)) hx hb d_H_parseLong_57 (by decide) ?_
      obtain ⟨hin, hG⟩ := zgd hG
      refine va_iast hx hb zz.1 hP hD hS 4 1 rfl rfl hin d_H_parseLong_58 (fun H locs hP hD hS => ?_)
      have hP : va_P (dC, dI) zcl (zwT adT adT_bytes cB cI cL sT ++ zwR adR adT cB cI cL sR_31 ++ zwH adH adH_parts cB cI cL (zH_parts' sH_31 (upd (zH_parts sH_31) ((2 : Int32).toNatClampNeg) (1 : Int32)))) H := hP
      have hD : va_D A (zwT adT adT_bytes cB cI cL sT ++ zwR adR adT cB cI cL sR_31 ++ zwH adH adH_parts cB cI cL (zH_parts' sH_31 (upd (zH_parts sH_31) ((2 : Int32).toNatClampNeg) (1 : Int32)))) := hD
      have hG : g_H_parseLong_w58 N sT sR_31 r_31 (zH_parts' sH_31 (upd (zH_parts sH_31) ((2 : Int32).toNatClampNeg) (1 : Int32))) = some a := hG
      generalize zH_parts' sH_31 (upd (zH_parts sH_31) ((2 : Int32).toNatClampNeg) (1 : Int32)) = sH_58 at hP hD hG
      unfold g_H_parseLong_w58 at hG
      refine lv_iload hx hb d_H_parseLong_59 (lv_at hl 0 rfl) ?_
      refine lv_if_eq (tgt := 67) hx hb d_H_parseLong_61 (by decide) (fun hc => ?_) (fun hc => ?_)
      · have hG := zt hG hc
        refine lv_aload_n hx hb d_H_parseLong_67 rfl (lv_at hl 2 rfl) ?_
        refine va_get (D := (dC, dI)) (ci := 5) (v := .ref adH_parts) (C := R_H) (T := F_H) (N := 1) hx hb hts zi_H hown zz.1 hP 3 rfl rfl 0 (by decide) (hts (.fieldLink R_H 9 "WireCodec$Header" "parts" "[I") zin_H_9) (fun _ h9 => h9) rfl d_H_parseLong_68 ?_
        refine lv_bipush (v := (6 : Int32)) hx hb d_H_parseLong_71 (by decide) ?_
        refine lv_aload_n hx hb d_H_parseLong_73 rfl (lv_at hl 3 rfl) ?_
        refine lv_aload_n hx hb d_H_parseLong_74 rfl (lv_at hl 2 rfl) ?_
        refine va_get (D := (dC, dI)) (ci := 5) (v := .ref adH_parts) (C := R_H) (T := F_H) (N := 1) hx hb hts zi_H hown zz.1 hP 3 rfl rfl 0 (by decide) (hts (.fieldLink R_H 9 "WireCodec$Header" "parts" "[I") zin_H_9) (fun _ h9 => h9) rfl d_H_parseLong_75 ?_
        refine lv_bipush (v := (7 : Int32)) hx hb d_H_parseLong_78 (by decide) ?_
        obtain ⟨hin, hG⟩ := zgd hG
        refine va_iald hx hb zz.1 hP 4 1 rfl rfl hin d_H_parseLong_80 ?_
        refine lv_i2l hx hb d_H_parseLong_81 rfl ?_
        obtain ⟨a_82, hx_82, hG⟩ := zb hG
        have hr_82 := zrunV (p := p) (e := e) (below := below) (meth := meth) (As := [.long (((zH_parts sH_58) (7 : Int32).toNatClampNeg).toInt64)]) (rest := [.int (6 : Int32), .ref adH_parts]) (st0 := [.long (((zH_parts sH_58) (7 : Int32).toNatClampNeg).toInt64), .ref adR, .int (6 : Int32), .ref adH_parts]) (cells := 0) (slots := 0) X zz hP hD hS hA [2] (by decide) rfl (c_R_takeBytes l dC dI cB cI cL H.size adR adT sR_31 (((zH_parts sH_58) (7 : Int32).toNatClampNeg).toInt64) _ hx_82) zy_R_takeBytes zv_R_takeBytes (hts (.methodLink R_H 49 y_R_takeBytes) zin_H_49) hl rfl rfl d_H_parseLong_82 (lv_room (Nat.le_of_ble_eq_true rfl)) rfl rfl ⟨Nat.le_trans (Nat.le_of_ble_eq_true rfl) hRf, Nat.le_trans (Nat.le_of_ble_eq_true rfl) hRl⟩ ⟨Nat.zero_le _, Nat.zero_le _⟩ 0 2 rfl rfl
        refine zcalli (wr := (zwT adT adT_bytes cB cI cL sT ++ zwH adH adH_parts cB cI cL sH_58)) hr_82 hP hD hS hA [2] [0, 1, 3, 4] rfl rfl (by decide) (by decide) (fun r_82 u_82 H locs hw_82 hP hD hS => ?_)
        obtain ⟨sR_82, rfl⟩ : ∃ z, z = u_82 := ⟨_, rfl⟩
        subst hw_82
        have hP : va_P (dC, dI) zcl (zwT adT adT_bytes cB cI cL sT ++ zwH adH adH_parts cB cI cL sH_58 ++ zwR adR adT cB cI cL sR_82) H := hP
        have hD : va_D A (zwT adT adT_bytes cB cI cL sT ++ zwH adH adH_parts cB cI cL sH_58 ++ zwR adR adT cB cI cL sR_82) := hD
        have hG : g_H_parseLong_c82 N sT sH_58 sR_82 r_82 = some a := hG
        unfold g_H_parseLong_c82 at hG
        obtain ⟨hin, hG⟩ := zgd hG
        refine va_iast hx hb zz.1 hP hD hS 3 1 rfl rfl hin d_H_parseLong_85 (fun H locs hP hD hS => ?_)
        have hP : va_P (dC, dI) zcl (zwT adT adT_bytes cB cI cL sT ++ zwH adH adH_parts cB cI cL (zH_parts' sH_58 (upd (zH_parts sH_58) ((6 : Int32).toNatClampNeg) r_82)) ++ zwR adR adT cB cI cL sR_82) H := hP
        have hD : va_D A (zwT adT adT_bytes cB cI cL sT ++ zwH adH adH_parts cB cI cL (zH_parts' sH_58 (upd (zH_parts sH_58) ((6 : Int32).toNatClampNeg) r_82)) ++ zwR adR adT cB cI cL sR_82) := hD
        have hG : g_H_parseLong_w85 N sT sR_82 (zH_parts' sH_58 (upd (zH_parts sH_58) ((6 : Int32).toNatClampNeg) r_82)) = some a := hG
        generalize zH_parts' sH_58 (upd (zH_parts sH_58) ((6 : Int32).toNatClampNeg) r_82) = sH_85 at hP hD hG
        unfold g_H_parseLong_w85 at hG
        refine lv_aload_n hx hb d_H_parseLong_86 rfl (lv_at hl 2 rfl) ?_
        refine lv_aload_n hx hb d_H_parseLong_87 rfl (lv_at hl 3 rfl) ?_
        refine lv_bipush (v := (9 : Int32)) hx hb d_H_parseLong_88 (by decide) ?_
        obtain ⟨a_90, hx_90, hG⟩ := zb hG
        have hr_90 := zrunV (p := p) (e := e) (below := below) (meth := meth) (As := [.ref adR, .int (9 : Int32)]) (rest := []) (st0 := [.int (9 : Int32), .ref adR, .ref adH]) (cells := 0) (slots := 0) X zz hP hD hS hA [0, 1, 4, 2, 3] (by decide) rfl (c_H_sizeOfName l dC dI cB cI cL H.size adT adT_bytes adR adH adH_parts N sT sR_82 sH_85 (9 : Int32) _ hx_90) zy_H_sizeOfName zv_H_sizeOfName (hts (.methodLink R_H 60 y_H_sizeOfName) zin_H_60) hl rfl rfl d_H_parseLong_90 (lv_room (Nat.le_of_ble_eq_true rfl)) rfl rfl ⟨Nat.le_trans (Nat.le_of_ble_eq_true rfl) hRf, Nat.le_trans (Nat.le_of_ble_eq_true rfl) hRl⟩ ⟨Nat.zero_le _, Nat.zero_le _⟩ 3 5 rfl rfl
        refine zcalli (wr := ([] : va_W)) hr_90 hP hD hS hA [0, 1, 4, 2, 3] [] rfl rfl (by decide) (by decide) (fun r_90 u_90 H locs hw_90 hP hD hS => ?_)
        obtain ⟨sR_90, sH_90⟩ := u_90
        subst hw_90
        have hP : va_P (dC, dI) zcl (zwT adT adT_bytes cB cI cL sT ++ zwR adR adT cB cI cL sR_90 ++ zwH adH adH_parts cB cI cL sH_90) H := hP
        have hD : va_D A (zwT adT adT_bytes cB cI cL sT ++ zwR adR adT cB cI cL sR_90 ++ zwH adH adH_parts cB cI cL sH_90) := hD
        have hG : g_H_parseLong_c90 N sT sR_90 sH_90 r_90 = some a := hG
        unfold g_H_parseLong_c90 at hG
        refine lv_istore (lv' := [(5, .int r_90), (3, .long r_23), (0, .ref adH), (1, .ref adR), (2, .int v2)]) hx hb d_H_parseLong_93 hl (by decide) rfl (fun ls hl => ?_)
        refine lv_iload hx hb d_H_parseLong_95 (lv_at hl 0 rfl) ?_
        refine lv_if_eq (tgt := 103) hx hb d_H_parseLong_97 (by decide) (fun hc => ?_) (fun hc => ?_)
        · have hG := zt hG hc
          refine lv_aload_n hx hb d_H_parseLong_103 rfl (lv_at hl 2 rfl) ?_
          refine va_get (D := (dC, dI)) (ci := 5) (v := .ref adH_parts) (C := R_H) (T := F_H) (N := 1) hx hb hts zi_H hown zz.1 hP 3 rfl rfl 0 (by decide) (hts (.fieldLink R_H 9 "WireCodec$Header" "parts" "[I") zin_H_9) (fun _ h9 => h9) rfl d_H_parseLong_104 ?_
          refine lv_bipush (v := (8 : Int32)) hx hb d_H_parseLong_107 (by decide) ?_
          refine lv_aload_n hx hb d_H_parseLong_109 rfl (lv_at hl 3 rfl) ?_
          refine lv_aload_n hx hb d_H_parseLong_110 rfl (lv_at hl 2 rfl) ?_
          refine va_get (D := (dC, dI)) (ci := 5) (v := .ref adH_parts) (C := R_H) (T := F_H) (N := 1) hx hb hts zi_H hown zz.1 hP 3 rfl rfl 0 (by decide) (hts (.fieldLink R_H 9 "WireCodec$Header" "parts" "[I") zin_H_9) (fun _ h9 => h9) rfl d_H_parseLong_111 ?_
          refine lv_bipush (v := (9 : Int32)) hx hb d_H_parseLong_114 (by decide) ?_
          obtain ⟨hin, hG⟩ := zgd hG
          refine va_iald hx hb zz.1 hP 4 1 rfl rfl hin d_H_parseLong_116 ?_
          refine lv_i2l hx hb d_H_parseLong_117 rfl ?_
          obtain ⟨a_118, hx_118, hG⟩ := zb hG
          have hr_118 := zrunV (p := p) (e := e) (below := below) (meth := meth) (As := [.long (((zH_parts sH_90) (9 : Int32).toNatClampNeg).toInt64)]) (rest := [.int (8 : Int32), .ref adH_parts]) (st0 := [.long (((zH_parts sH_90) (9 : Int32).toNatClampNeg).toInt64), .ref adR, .int (8 : Int32), .ref adH_parts]) (cells := 0) (slots := 0) X zz hP hD hS hA [2] (by decide) rfl (c_R_takeBytes l dC dI cB cI cL H.size adR adT sR_90 (((zH_parts sH_90) (9 : Int32).toNatClampNeg).toInt64) _ hx_118) zy_R_takeBytes zv_R_takeBytes (hts (.methodLink R_H 49 y_R_takeBytes) zin_H_49) hl rfl rfl d_H_parseLong_118 (lv_room (Nat.le_of_ble_eq_true rfl)) rfl rfl ⟨Nat.le_trans (Nat.le_of_ble_eq_true rfl) hRf, Nat.le_trans (Nat.le_of_ble_eq_true rfl) hRl⟩ ⟨Nat.zero_le _, Nat.zero_le _⟩ 0 2 rfl rfl
          refine zcalli (wr := (zwT adT adT_bytes cB cI cL sT ++ zwH adH adH_parts cB cI cL sH_90)) hr_118 hP hD hS hA [2] [0, 1, 3, 4] rfl rfl (by decide) (by decide) (fun r_118 u_118 H locs hw_118 hP hD hS => ?_)
          obtain ⟨sR_118, rfl⟩ : ∃ z, z = u_118 := ⟨_, rfl⟩
          subst hw_118
          have hP : va_P (dC, dI) zcl (zwT adT adT_bytes cB cI cL sT ++ zwH adH adH_parts cB cI cL sH_90 ++ zwR adR adT cB cI cL sR_118) H := hP
          have hD : va_D A (zwT adT adT_bytes cB cI cL sT ++ zwH adH adH_parts cB cI cL sH_90 ++ zwR adR adT cB cI cL sR_118) := hD
          have hG : g_H_parseLong_c118 N sT sH_90 sR_118 r_118 = some a := hG
          unfold g_H_parseLong_c118 at hG
          obtain ⟨hin, hG⟩ := zgd hG
          refine va_iast hx hb zz.1 hP hD hS 3 1 rfl rfl hin d_H_parseLong_121 (fun H locs hP hD hS => ?_)
          have hP : va_P (dC, dI) zcl (zwT adT adT_bytes cB cI cL sT ++ zwH adH adH_parts cB cI cL (zH_parts' sH_90 (upd (zH_parts sH_90) ((8 : Int32).toNatClampNeg) r_118)) ++ zwR adR adT cB cI cL sR_118) H := hP
          have hD : va_D A (zwT adT adT_bytes cB cI cL sT ++ zwH adH adH_parts cB cI cL (zH_parts' sH_90 (upd (zH_parts sH_90) ((8 : Int32).toNatClampNeg) r_118)) ++ zwR adR adT cB cI cL sR_118) := hD
          have hG : g_H_parseLong_w121 N sT sR_118 (zH_parts' sH_90 (upd (zH_parts sH_90) ((8 : Int32).toNatClampNeg) r_118)) = some a := hG
          generalize zH_parts' sH_90 (upd (zH_parts sH_90) ((8 : Int32).toNatClampNeg) r_118) = sH_121 at hP hD hG
          unfold g_H_parseLong_w121 at hG
          refine lv_aload_n hx hb d_H_parseLong_122 rfl (lv_at hl 3 rfl) ?_
          refine va_get (D := (dC, dI)) (ci := 2) (v := .int (zR_over sR_118)) (C := R_R) (T := F_R) (N := 4) hx hb hts zi_R hown zz.1 hP 4 rfl rfl 3 (by decide) (hts (.fieldLink R_H 31 "WireCodec$Reader" "over" "Z") zin_H_31) (fun _ h9 => h9) rfl d_H_parseLong_123 ?_
          refine lv_if_eq (tgt := 131) hx hb d_H_parseLong_126 (by decide) (fun hc => ?_) (fun hc => ?_)
          · have hG := zt hG hc
            refine lv_aload_n hx hb d_H_parseLong_131 rfl (lv_at hl 2 rfl) ?_
            refine va_get (D := (dC, dI)) (ci := 5) (v := .ref adH_parts) (C := R_H) (T := F_H) (N := 1) hx hb hts zi_H hown zz.1 hP 2 rfl rfl 0 (by decide) (hts (.fieldLink R_H 9 "WireCodec$Header" "parts" "[I") zin_H_9) (fun _ h9 => h9) rfl d_H_parseLong_132 ?_
            refine lv_iconst (v := (0 : Int32)) hx hb d_H_parseLong_135 (by decide) ?_
            obtain ⟨hin, hG⟩ := zgd hG
            refine va_iald hx hb zz.1 hP 3 1 rfl rfl hin d_H_parseLong_136 ?_
            refine lv_iconst (v := (1 : Int32)) hx hb d_H_parseLong_137 (by decide) ?_
            refine lv_icmp_eq (tgt := 151) hx hb d_H_parseLong_138 (by decide) (fun hc => ?_) (fun hc => ?_)
            · have hG := zt hG hc
              exact k_H_parseLong_151 X hA zz N sT sR_118 sH_121 _ hG adT adT_bytes adR adH adH_parts _ _ (hP.sub [0, 1, 4, 2, 3] rfl) (hD.sub [0, 1, 4, 2, 3] (by decide) rfl) hS _ (lv_sub hl [2, 3] rfl)
            · have hG := zf hG hc
              refine lv_aload_n hx hb d_H_parseLong_141 rfl (lv_at hl 2 rfl) ?_
              refine va_get (D := (dC, dI)) (ci := 5) (v := .ref adH_parts) (C := R_H) (T := F_H) (N := 1) hx hb hts zi_H hown zz.1 hP 2 rfl rfl 0 (by decide) (hts (.fieldLink R_H 9 "WireCodec$Header" "parts" "[I") zin_H_9) (fun _ h9 => h9) rfl d_H_parseLong_142 ?_
              refine lv_iconst (v := (0 : Int32)) hx hb d_H_parseLong_145 (by decide) ?_
              obtain ⟨hin, hG⟩ := zgd hG
              refine va_iald hx hb zz.1 hP 3 1 rfl rfl hin d_H_parseLong_146 ?_
              refine lv_iconst (v := (3 : Int32)) hx hb d_H_parseLong_147 (by decide) ?_
              refine lv_icmp_ne (tgt := 155) hx hb d_H_parseLong_148 (by decide) (fun hc => ?_) (fun hc => ?_)
              · have hG := zf hG hc
                refine lv_iconst (v := (0 : Int32)) hx hb d_H_parseLong_155 (by decide) ?_
                exact k_H_parseLong_156 X hA zz N sT sR_118 sH_121 (0 : Int32) _ hG adT adT_bytes adR adH adH_parts _ _ (hP.sub [0, 1, 4, 2, 3] rfl) (hD.sub [0, 1, 4, 2, 3] (by decide) rfl) hS _ (lv_sub hl [2, 3] rfl)
              · have hG := zt hG hc
                exact k_H_parseLong_151 X hA zz N sT sR_118 sH_121 _ hG adT adT_bytes adR adH adH_parts _ _ (hP.sub [0, 1, 4, 2, 3] rfl) (hD.sub [0, 1, 4, 2, 3] (by decide) rfl) hS _ (lv_sub hl [2, 3] rfl)
          · have hG := zf hG hc
            refine lv_iconst (v := (1 : Int32)) hx hb d_H_parseLong_129 (by decide) ?_
            exact W.iret (v := (1 : Int32)) hx hb hr (fun t9 ht9 hW9 => ⟨⟨(1 : Int32), (sR_118, sH_121), rfl, Option.some.inj hG, by rw [ht9]; exact (hP.sub [0, 1, 4, 2, 3] rfl), (hD.sub [0, 1, 4, 2, 3] (by decide) rfl)⟩, hS.F ht9⟩) hS.2.2 d_H_parseLong_130
        · have hG := zf hG hc
          refine lv_iload hx hb d_H_parseLong_100 (lv_at hl 0 rfl) ?_
          exact W.iret (v := r_90) hx hb hr (fun t9 ht9 hW9 => ⟨⟨r_90, (sR_90, sH_90), rfl, Option.some.inj hG, by rw [ht9]; exact hP, hD⟩, hS.F ht9⟩) hS.2.2 d_H_parseLong_102
      · have hG := zf hG hc
        refine lv_iload hx hb d_H_parseLong_64 (lv_at hl 0 rfl) ?_
        exact W.iret (v := r_31) hx hb hr (fun t9 ht9 hW9 => ⟨⟨r_31, (sR_31, sH_58), rfl, Option.some.inj hG, by rw [ht9]; exact hP, hD⟩, hS.F ht9⟩) hS.2.2 d_H_parseLong_66
    · have hG := zf hG hc
      refine lv_iconst (v := (3 : Int32)) hx hb d_H_parseLong_50 (by decide) ?_
      exact W.iret (v := (3 : Int32)) hx hb hr (fun t9 ht9 hW9 => ⟨⟨(3 : Int32), (sR_31, sH_31), rfl, Option.some.inj hG, by rw [ht9]; exact hP, hD⟩, hS.F ht9⟩) hS.2.2 d_H_parseLong_51
  · have hG := zt hG hc
    refine lv_iconst (v := (1 : Int32)) hx hb d_H_parseLong_42 (by decide) ?_
    exact W.iret (v := (1 : Int32)) hx hb hr (fun t9 ht9 hW9 => ⟨⟨(1 : Int32), (sR_31, sH_31), rfl, Option.some.inj hG, by rw [ht9]; exact hP, hD⟩, hS.F ht9⟩) hS.2.2 d_H_parseLong_43
set_option maxRecDepth 100000 in
set_option maxHeartbeats 4000000 in
theorem c_H_parseLong (l : Launch) (dC : Nat → ClassId) (dI : Nat → Nat → Nat) (cB cI cL : ClassId) (sz : Nat) (adT adT_bytes adR adH adH_parts : Nat) (N : Nat) (sT : zT) (sR : zR) (sH : zH) (v2 : Int32) (a : Int32 × zR × zH) (hG : g_H_parseLong N sT sR sH v2 = some a) : Met l y_H_parseLong (zw y_H_parseLong b_H_parseLong 7 (some .int)) ({ frames := 4, cells := 0, slots := 0, locals := 93 }) (va_Pc [.ref adH, .ref adR, .int v2] (zpre dC dI cB cI cL sz (zwT adT adT_bytes cB cI cL sT ++ zwR adR adT cB cI cL sR ++ zwH adH adH_parts cB cI cL sH))) (q_H_parseLong dC dI cB cI cL (va_A (zwT adT adT_bytes cB cI cL sT ++ zwR adR adT cB cI cL sR ++ zwH adH adH_parts cB cI cL sH) sz) adT adT_bytes adR adH adH_parts sT a) 0 0 (va_A (zwT adT adT_bytes cB cI cL sT ++ zwR adR adT cB cI cL sR ++ zwH adH adH_parts cB cI cL sH) sz) := by
  refine Met.ofW (cc := b_H_parseLong) (maxL := 7) (ret := (some .int)) (by decide) rfl ?_
  intro p e s m args below meth c s₁ B hml hv
  obtain ⟨rfl, hsz, hP, zz, hD0⟩ := hv
  subst hsz
  have X := zx_of (F := 4) (L := 93) B hml (Nat.le_refl _) (Nat.le_refl _)
  have hD := hD0.self (sz := s.heap.size)
  have hA : ∀ q : Nat, s.heap.size ≤ q → va_A (zwT adT adT_bytes cB cI cL sT ++ zwR adR adT cB cI cL sR ++ zwH adH adH_parts cB cI cL sH) s.heap.size q := fun q h => Or.inr h
  have hl := lv_entry ([.ref adH, .ref adR, .int v2]) (n := 7) (Nat.le_of_ble_eq_true rfl)
  rw [lg_entry_eq]
  generalize (lg_sl ([.ref adH, .ref adR, .int v2]) ++ List.replicate (7 - (lg_sl ([.ref adH, .ref adR, .int v2])).length) Slot.unset).toArray = ls at hl ⊢
  exact k_H_parseLong_0 X hA zz N sT sR sH v2 a hG adT adT_bytes adR adH adH_parts _ _ hP hD va_S.rf ls hl
noncomputable def g_F_parse_33 (N : Nat) (sT : zT) (sR : zR) (sF : zF) : Option (Int32 × zR × zF) := some ((2 : Int32), sR, sF)
noncomputable def g_F_parse_171 (N : Nat) (sT : zT) (sR : zR) (sF : zF) (s0 : Int32) : Option (Int32 × zR × zF) := some (s0, sR, sF)
noncomputable def g_F_parse_159 (N : Nat) (sT : zT) (sR : zR) (sF : zF) (s0 : Int32) : Option (Int32 × zR × zF) := if s0 = (0 : Int32) then (g_F_parse_171 N sT sR sF (3 : Int32)) else (g_F_parse_171 N sT sR sF (0 : Int32))
noncomputable def g_F_parse_158 (N : Nat) (sT : zT) (sR : zR) (sF : zF) : Option (Int32 × zR × zF) := g_F_parse_159 N sT sR sF (0 : Int32)
noncomputable def g_F_parse_c148 (N : Nat) (sT : zT) (sR_95 : zR) (sF_118 : zF) (r_148 : Int32) : Option (Int32 × zR × zF) := if r_148 = (0 : Int32) then (g_F_parse_158 N sT sR_95 sF_118) else (g_F_parse_159 N sT sR_95 sF_118 (1 : Int32))
noncomputable def g_F_parse_w118 (N : Nat) (sT : zT) (s0 : Int32) (sR_95 : zR) (sF_118 : zF) : Option (Int32 × zR × zF) := if (lg_cmp (zF_low sF_118) (0 : Int64)) < (0 : Int32) then (g_F_parse_158 N sT sR_95 sF_118) else (zg (vp_in (0 : Int32) 12) (zg (vp_in (1 : Int32) 12) (zg (vp_in (5 : Int32) 12) ((g_W_fieldsHold s0 ((zF_parts sF_118) (0 : Int32).toNatClampNeg) ((zF_parts sF_118) (1 : Int32).toNatClampNeg) ((zF_parts sF_118) (5 : Int32).toNatClampNeg)).bind (fun a => g_F_parse_c148 N sT sR_95 sF_118 a)))))
noncomputable def g_F_parse_c95 (N : Nat) (sT : zT) (s0 : Int32) (sR_95 : zR) (sF_95 : zF) : Option (Int32 × zR × zF) := if (zR_over sR_95) = (0 : Int32) then (zg (vp_in (8 : Int32) 12) (g_F_parse_w118 N sT s0 sR_95 (zF_parts' sF_95 (vp_updL (zF_parts sF_95) ((8 : Int32).toNatClampNeg) ((zR_place sR_95).toInt64))))) else (some ((1 : Int32), sR_95, sF_95))
noncomputable def g_F_parse_c87 (N : Nat) (sT : zT) (v3 : Int32) (s0 : Int32) (sR_87 : zR) (sF_87 : zF) : Option (Int32 × zR × zF) := (g_F_takeRest N sT sR_87 sF_87 s0 v3).bind (fun a => g_F_parse_c95 N sT s0 a.1 a.2)
noncomputable def g_F_parse_w79 (N : Nat) (sT : zT) (sR : zR) (v3 : Int32) (s0 : Int32) (sF_79 : zF) : Option (Int32 × zR × zF) := zg (vp_in v3 31) ((g_F_takeShape N sT sR sF_79 (zsS v3.toNatClampNeg)).bind (fun a => g_F_parse_c87 N sT v3 s0 a.1 a.2))
noncomputable def g_F_parse_69 (N : Nat) (sT : zT) (sR : zR) (sF : zF) (v3 : Int32) (s0 : Int32) : Option (Int32 × zR × zF) := zg (vp_in (4 : Int32) 12) (g_F_parse_w79 N sT sR v3 s0 (zF_parts' sF (vp_updL (zF_parts sF) ((4 : Int32).toNatClampNeg) s0.toInt64)))
noncomputable def g_F_parse_68 (N : Nat) (sT : zT) (sR : zR) (sF : zF) (v3 : Int32) : Option (Int32 × zR × zF) := g_F_parse_69 N sT sR sF v3 v3
noncomputable def g_F_parse_51 (N : Nat) (sT : zT) (sR : zR) (sF : zF) (v3 : Int32) : Option (Int32 × zR × zF) := if v3 ≤ (8 : Int32) then (g_F_parse_68 N sT sR sF v3) else (if (15 : Int32) < v3 then (g_F_parse_68 N sT sR sF v3) else (g_F_parse_69 N sT sR sF v3 (8 : Int32)))
noncomputable def g_F_parse_c18 (N : Nat) (sT : zT) (v2 : Int32) (sF_15 : zF) (sR_18 : zR) (r_18 : Int64) : Option (Int32 × zR × zF) := if r_18.toInt32 < (0 : Int32) then (g_F_parse_33 N sT sR_18 sF_15) else (if r_18.toInt32 ≤ (30 : Int32) then (if v2 = (2 : Int32) then (g_F_parse_51 N sT sR_18 sF_15 r_18.toInt32) else (if (((268435535 : Int32) >>> (r_18.toInt32 &&& 31)) &&& (1 : Int32)) = (0 : Int32) then (some ((4 : Int32), sR_18, sF_15)) else (g_F_parse_51 N sT sR_18 sF_15 r_18.toInt32))) else (g_F_parse_33 N sT sR_18 sF_15))
noncomputable def g_F_parse_w15 (N : Nat) (sT : zT) (sR : zR) (v2 : Int32) (sF_15 : zF) : Option (Int32 × zR × zF) := (g_R_takeWord N sT sR (1 : Int32)).bind (fun a => g_F_parse_c18 N sT v2 sF_15 a.2 a.1)
noncomputable def g_F_parse_c1 (N : Nat) (sT : zT) (sR : zR) (v2 : Int32) (sF_1 : zF) : Option (Int32 × zR × zF) := zg (vp_in (7 : Int32) 12) (g_F_parse_w15 N sT sR v2 (zF_parts' sF_1 (vp_updL (zF_parts sF_1) ((7 : Int32).toNatClampNeg) ((zR_place sR).toInt64))))
noncomputable def g_F_parse (N : Nat) (sT : zT) (sR : zR) (sF : zF) (v2 : Int32) : Option (Int32 × zR × zF) := (g_F_forget N sF).bind (fun a => g_F_parse_c1 N sT sR v2 a)
def q_F_parse (dC : Nat → ClassId) (dI : Nat → Nat → Nat) (cB cI cL : ClassId) (A : Nat → Prop) (adT : Nat) (adT_bytes : Nat) (adR : Nat) (adF : Nat) (adF_parts : Nat) (sT : zT) (a : Int32 × zR × zF) : Array Value → State → Outcome → State → Prop := va_Qi (fun (r : Int32) (u : zR × zF) => (r, u.1, u.2) = a) (fun u U => va_P (dC, dI) zcl (zwT adT adT_bytes cB cI cL sT ++ zwR adR adT cB cI cL u.1 ++ zwF adF adF_parts cB cI cL u.2) U.heap ∧ va_D A (zwT adT adT_bytes cB cI cL sT ++ zwR adR adT cB cI cL u.1 ++ zwF adF adF_parts cB cI cL u.2)) A
set_option maxRecDepth 100000 in
set_option maxHeartbeats 4000000 in
theorem k_F_parse_33 {p : Program} {l : Launch} {e : Env} {R : Room} {s : State} {m : MethodId} {args : Array Value} {below : List Frame} {meth : Method} {c : Code} {dC : Nat → ClassId} {dI : Nat → Nat → Nat} {cB cI cL : ClassId} {A : Nat → Prop} (X : zx p s m args meth c R R_F b_F_parse (some .int) 6 5 120) (hA : ∀ q, s.heap.size ≤ q → A q) (zz : zk dC dI cB cI cL A s)  (N : Nat) (sT : zT) (sR : zR) (sF : zF) (a : Int32 × zR × zF) (hG : g_F_parse_33 N sT sR sF = some a) (adT adT_bytes adR adF adF_parts : Nat) (H : Heap) (locs : List Loc) (hP : va_P (dC, dI) zcl (zwT adT adT_bytes cB cI cL sT ++ zwR adR adT cB cI cL sR ++ zwF adF adF_parts cB cI cL sF) H) (hD : va_D A (zwT adT adT_bytes cB cI cL sT ++ zwR adR adT cB cI cL sR ++ zwF adF adF_parts cB cI cL sF)) (hS : va_S A s.heap H locs) (ls : Array Slot) (hl : lv_has ls 6 []) : W p l e R s m args below meth c H locs 0 0 (MQ below (q_F_parse dC dI cB cI cL A adT adT_bytes adR adF adF_parts sT a) args s 0 0 A) (F0 m 33 ls []) := by
  obtain ⟨hx, hb, hr, hml, hown, hts, hlocks, hRf, hRl⟩ := id X
  unfold g_F_parse_33 at hG
  refine lv_iconst (v := (2 : Int32)) hx hb d_F_parse_33 (by decide) ?_
  exact W.iret (v := (2 : Int32)) hx hb hr (fun t9 ht9 hW9 => ⟨⟨(2 : Int32), (sR, sF), rfl, Option.some.inj hG, by rw [ht9]; exact hP, hD⟩, hS.F ht9⟩) hS.2.2 d_F_parse_34
set_option maxRecDepth 100000 in
set_option maxHeartbeats 4000000 in
theorem k_F_parse_171 {p : Program} {l : Launch} {e : Env} {R : Room} {s : State} {m : MethodId} {args : Array Value} {below : List Frame} {meth : Method} {c : Code} {dC : Nat → ClassId} {dI : Nat → Nat → Nat} {cB cI cL : ClassId} {A : Nat → Prop} (X : zx p s m args meth c R R_F b_F_parse (some .int) 6 5 120) (hA : ∀ q, s.heap.size ≤ q → A q) (zz : zk dC dI cB cI cL A s)  (N : Nat) (sT : zT) (sR : zR) (sF : zF) (s0 : Int32) (a : Int32 × zR × zF) (hG : g_F_parse_171 N sT sR sF s0 = some a) (adT adT_bytes adR adF adF_parts : Nat) (H : Heap) (locs : List Loc) (hP : va_P (dC, dI) zcl (zwT adT adT_bytes cB cI cL sT ++ zwR adR adT cB cI cL sR ++ zwF adF adF_parts cB cI cL sF) H) (hD : va_D A (zwT adT adT_bytes cB cI cL sT ++ zwR adR adT cB cI cL sR ++ zwF adF adF_parts cB cI cL sF)) (hS : va_S A s.heap H locs) (ls : Array Slot) (hl : lv_has ls 6 []) : W p l e R s m args below meth c H locs 0 0 (MQ below (q_F_parse dC dI cB cI cL A adT adT_bytes adR adF adF_parts sT a) args s 0 0 A) (F0 m 171 ls [.int s0]) := by
  obtain ⟨hx, hb, hr, hml, hown, hts, hlocks, hRf, hRl⟩ := id X
  unfold g_F_parse_171 at hG
  exact W.iret (v := s0) hx hb hr (fun t9 ht9 hW9 => ⟨⟨s0, (sR, sF), rfl, Option.some.inj hG, by rw [ht9]; exact hP, hD⟩, hS.F ht9⟩) hS.2.2 d_F_parse_171
set_option maxRecDepth 100000 in
set_option maxHeartbeats 4000000 in
theorem k_F_parse_159 {p : Program} {l : Launch} {e : Env} {R : Room} {s : State} {m : MethodId} {args : Array Value} {below : List Frame} {meth : Method} {c : Code} {dC : Nat → ClassId} {dI : Nat → Nat → Nat} {cB cI cL : ClassId} {A : Nat → Prop} (X : zx p s m args meth c R R_F b_F_parse (some .int) 6 5 120) (hA : ∀ q, s.heap.size ≤ q → A q) (zz : zk dC dI cB cI cL A s)  (N : Nat) (sT : zT) (sR : zR) (sF : zF) (s0 : Int32) (a : Int32 × zR × zF) (hG : g_F_parse_159 N sT sR sF s0 = some a) (adT adT_bytes adR adF adF_parts : Nat) (H : Heap) (locs : List Loc) (hP : va_P (dC, dI) zcl (zwT adT adT_bytes cB cI cL sT ++ zwR adR adT cB cI cL sR ++ zwF adF adF_parts cB cI cL sF) H) (hD : va_D A (zwT adT adT_bytes cB cI cL sT ++ zwR adR adT cB cI cL sR ++ zwF adF adF_parts cB cI cL sF)) (hS : va_S A s.heap H locs) (ls : Array Slot) (hl : lv_has ls 6 []) : W p l e R s m args below meth c H locs 0 0 (MQ below (q_F_parse dC dI cB cI cL A adT adT_bytes adR adF adF_parts sT a) args s 0 0 A) (F0 m 159 ls [.int s0]) := by
  obtain ⟨hx, hb, hr, hml, hown, hts, hlocks, hRf, hRl⟩ := id X
  unfold g_F_parse_159 at hG
  refine lv_istore (lv' := [(5, .int s0)]) hx hb d_F_parse_159 hl (by decide) rfl (fun ls hl => ?_)
  refine lv_iload hx hb d_F_parse_161 (lv_at hl 0 rfl) ?_
  refine lv_if_eq (tgt := 170) hx hb d_F_parse_163 (by decide) (fun hc => ?_) (fun hc => ?_)
  · have hG := zt hG hc
    refine lv_iconst (v := (3 : Int32)) hx hb d_F_parse_170 (by decide) ?_
    exact k_F_parse_171 X hA zz N sT sR sF (3 : Int32) _ hG adT adT_bytes adR adF adF_parts _ _ hP hD hS _ (lv_sub hl [] rfl)
  · have hG := zf hG hc
    refine lv_iconst (v := (0 : Int32)) hx hb d_F_parse_166 (by decide) ?_
    refine lv_goto (tgt := 171) hx hb d_F_parse_167 (by decide) ?_
    exact k_F_parse_171 X hA zz N sT sR sF (0 : Int32) _ hG adT adT_bytes adR adF adF_parts _ _ hP hD hS _ (lv_sub hl [] rfl)
set_option maxRecDepth 100000 in
set_option maxHeartbeats 4000000 in
theorem k_F_parse_158 {p : Program} {l : Launch} {e : Env} {R : Room} {s : State} {m : MethodId} {args : Array Value} {below : List Frame} {meth : Method} {c : Code} {dC : Nat → ClassId} {dI : Nat → Nat → Nat} {cB cI cL : ClassId} {A : Nat → Prop} (X : zx p s m args meth c R R_F b_F_parse (some .int) 6 5 120) (hA : ∀ q, s.heap.size ≤ q → A q) (zz : zk dC dI cB cI cL A s)  (N : Nat) (sT : zT) (sR : zR) (sF : zF) (a : Int32 × zR × zF) (hG : g_F_parse_158 N sT sR sF = some a) (adT adT_bytes adR adF adF_parts : Nat) (H : Heap) (locs : List Loc) (hP : va_P (dC, dI) zcl (zwT adT adT_bytes cB cI cL sT ++ zwR adR adT cB cI cL sR ++ zwF adF adF_parts cB cI cL sF) H) (hD : va_D A (zwT adT adT_bytes cB cI cL sT ++ zwR adR adT cB cI cL sR ++ zwF adF adF_parts cB cI cL sF)) (hS : va_S A s.heap H locs) (ls : Array Slot) (hl : lv_has ls 6 []) : W p l e R s m args below meth c H locs 0 0 (MQ below (q_F_parse dC dI cB cI cL A adT adT_bytes adR adF adF_parts sT a) args s 0 0 A) (F0 m 158 ls []) := by
  obtain ⟨hx, hb, hr, hml, hown, hts, hlocks, hRf, hRl⟩ := id X
  unfold g_F_parse_158 at hG
  refine lv_iconst (v := (0 : Int32)) hx hb d_F_parse_158 (by decide) ?_
  exact k_F_parse_159 X hA zz N sT sR sF (0 : Int32) _ hG adT adT_bytes adR adF adF_parts _ _ hP hD hS _ (lv_sub hl [] rfl)
set_option maxRecDepth 100000 in
set_option maxHeartbeats 4000000 in
theorem k_F_parse_69 {p : Program} {l : Launch} {e : Env} {R : Room} {s : State} {m : MethodId} {args : Array Value} {below : List Frame} {meth : Method} {c : Code} {dC : Nat → ClassId} {dI : Nat → Nat → Nat} {cB cI cL : ClassId} {A : Nat → Prop} (X : zx p s m args meth c R R_F b_F_parse (some .int) 6 5 120) (hA : ∀ q, s.heap.size ≤ q → A q) (zz : zk dC dI cB cI cL A s)  (N : Nat) (sT : zT) (sR : zR) (sF : zF) (v3 : Int32) (s0 : Int32) (a : Int32 × zR × zF) (hG : g_F_parse_69 N sT sR sF v3 s0 = some a) (adT adT_bytes adR adF adF_parts : Nat) (H : Heap) (locs : List Loc) (hP : va_P (dC, dI) zcl (zwT adT adT_bytes cB cI cL sT ++ zwR adR adT cB cI cL sR ++ zwF adF adF_parts cB cI cL sF) H) (hD : va_D A (zwT adT adT_bytes cB cI cL sT ++ zwR adR adT cB cI cL sR ++ zwF adF adF_parts cB cI cL sF)) (hS : va_S A s.heap H locs) (ls : Array Slot) (hl : lv_has ls 6 [(0, .ref adF), (1, .ref adR), (3, .int v3)]) : W p l e R s m args below meth c H locs 0 0 (MQ below (q_F_parse dC dI cB cI cL A adT adT_bytes adR adF adF_parts sT a) args s 0 0 A) (F0 m 69 ls [.int s0]) := by
  obtain ⟨hx, hb, hr, hml, hown, hts, hlocks, hRf, hRl⟩ := id X
  unfold g_F_parse_69 at hG
  refine lv_istore (lv' := [(4, .int s0), (0, .ref adF), (1, .ref adR), (3, .int v3)]) hx hb d_F_parse_69 hl (by decide) rfl (fun ls hl => ?_)
  refine lv_aload_n hx hb d_F_parse_71 rfl (lv_at hl 1 rfl) ?_
  refine va_get (D := (dC, dI)) (ci := 4) (v := .ref adF_parts) (C := R_F) (T := F_F) (N := 7) hx hb hts zi_F hown zz.1 hP 3 rfl rfl 0 (by decide) (hts (.fieldLink R_F 9 "WireCodec$Frame" "parts" "[J") zin_F_9) (fun _ h9 => h9) rfl d_F_parse_72 ?_
  refine lv_iconst (v := (4 : Int32)) hx hb d_F_parse_75 (by decide) ?_
  refine lv_iload hx hb d_F_parse_76 (lv_at hl 0 rfl) ?_
  refine lv_i2l hx hb d_F_parse_78 rfl ?_
  obtain ⟨hin, hG⟩ := zgd hG
  refine va_last hx hb zz.1 hP hD hS 4 2 rfl rfl hin d_F_parse_79 (fun H locs hP hD hS => ?_)
  have hP : va_P (dC, dI) zcl (zwT adT adT_bytes cB cI cL sT ++ zwR adR adT cB cI cL sR ++ zwF adF adF_parts cB cI cL (zF_parts' sF (vp_updL (zF_parts sF) ((4 : Int32).toNatClampNeg) s0.toInt64))) H := hP
  have hD : va_D A (zwT adT adT_bytes cB cI cL sT ++ zwR adR adT cB cI cL sR ++ zwF adF adF_parts cB cI cL (zF_parts' sF (vp_updL (zF_parts sF) ((4 : Int32).toNatClampNeg) s0.toInt64))) := hD
  have hG : g_F_parse_w79 N sT sR v3 s0 (zF_parts' sF (vp_updL (zF_parts sF) ((4 : Int32).toNatClampNeg) s0.toInt64)) = some a := hG
  generalize zF_parts' sF (vp_updL (zF_parts sF) ((4 : Int32).toNatClampNeg) s0.toInt64) = sF_79 at hP hD hG
  unfold g_F_parse_w79 at hG
  refine lv_aload_n hx hb d_F_parse_80 rfl (lv_at hl 1 rfl) ?_
  refine lv_aload_n hx hb d_F_parse_81 rfl (lv_at hl 2 rfl) ?_
  obtain ⟨adS_SHAPES, hZ_SHAPES, hT_SHAPES, hE_SHAPES⟩ := zz.2.2.1.1
  refine va_getsN hx hb hZ_SHAPES hS hown (va_Nw.use rfl (zz.2.1 _ znest_F_29)) (fun _ h9 => h9) d_F_parse_82 ?_
  refine lv_iload_n hx hb d_F_parse_85 rfl (lv_at hl 3 rfl) ?_
  obtain ⟨hin, hG⟩ := zgd hG
  refine va_ti hx hb hT_SHAPES hS hin rfl d_F_parse_86 ?_
  obtain ⟨a_87, hx_87, hG⟩ := zb hG
  have hr_87 := zrunV (p := p) (e := e) (below := below) (meth := meth) (As := [.ref adR, .int (zsS v3.toNatClampNeg)]) (rest := []) (st0 := [.int (zsS v3.toNatClampNeg), .ref adR, .ref adF]) (cells := 0) (slots := 0) X zz hP hD hS hA [0, 1, 2, 3, 4] (by decide) rfl (c_F_takeShape l dC dI cB cI cL H.size adT adT_bytes adR adF adF_parts N sT sR sF_79 (zsS v3.toNatClampNeg) _ hx_87) zy_F_takeShape zv_F_takeShape (hts (.methodLink R_F 33 y_F_takeShape) zin_F_33) hl rfl rfl d_F_parse_87 (lv_room (Nat.le_of_ble_eq_true rfl)) rfl rfl ⟨Nat.le_trans (Nat.le_of_ble_eq_true rfl) hRf, Nat.le_trans (Nat.le_of_ble_eq_true rfl) hRl⟩ ⟨Nat.zero_le _, Nat.zero_le _⟩ 3 4 rfl rfl
  refine zcallv (wr := ([] : va_W)) hr_87 hP hD hS hA [0, 1, 2, 3, 4] [] rfl rfl (by decide) (by decide) (fun u_87 H locs hw_87 hP hD hS => ?_)
  obtain ⟨sR_87, sF_87⟩ := u_87
  subst hw_87
  have hP : va_P (dC, dI) zcl (zwT adT adT_bytes cB cI cL sT ++ zwR adR adT cB cI cL sR_87 ++ zwF adF adF_parts cB cI cL sF_87) H := hP
  have hD : va_D A (zwT adT adT_bytes cB cI cL sT ++ zwR adR adT cB cI cL sR_87 ++ zwF adF adF_parts cB cI cL sF_87) := hD
  have hG : g_F_parse_c87 N sT v3 s0 sR_87 sF_87 = some a := hG
  unfold g_F_parse_c87 at hG
  refine lv_aload_n hx hb d_F_parse_90 rfl (lv_at hl 1 rfl) ?_
  refine lv_aload_n hx hb d_F_parse_91 rfl (lv_at hl 2 rfl) ?_
  refine lv_iload hx hb d_F_parse_92 (lv_at hl 0 rfl) ?_
  refine lv_iload_n hx hb d_F_parse_94 rfl (lv_at hl 3 rfl) ?_
  obtain ⟨a_95, hx_95, hG⟩ := zb hG
  have hr_95 := zrunV (p := p) (e := e) (below := below) (meth := meth) (As := [.ref adR, .int s0, .int v3]) (rest := []) (st0 := [.int v3, .int s0, .ref adR, .ref adF]) (cells := 0) (slots := 0) X zz hP hD hS hA [0, 1, 2, 3, 4] (by decide) rfl (c_F_takeRest l dC dI cB cI cL H.size adT adT_bytes adR adF adF_parts N sT sR_87 sF_87 s0 v3 _ hx_95) zy_F_takeRest zv_F_takeRest (hts (.methodLink R_F 37 y_F_takeRest) zin_F_37) hl rfl rfl d_F_parse_95 (lv_room (Nat.le_of_ble_eq_true rfl)) rfl rfl ⟨Nat.le_trans (Nat.le_of_ble_eq_true rfl) hRf, Nat.le_trans (Nat.le_of_ble_eq_true rfl) hRl⟩ ⟨Nat.zero_le _, Nat.zero_le _⟩ 3 4 rfl rfl
  refine zcallv (wr := ([] : va_W)) hr_95 hP hD hS hA [0, 1, 2, 3, 4] [] rfl rfl (by decide) (by decide) (fun u_95 H locs hw_95 hP hD hS => ?_)
  obtain ⟨sR_95, sF_95⟩ := u_95
  subst hw_95
  have hP : va_P (dC, dI) zcl (zwT adT adT_bytes cB cI cL sT ++ zwR adR adT cB cI cL sR_95 ++ zwF adF adF_parts cB cI cL sF_95) H := hP
  have hD : va_D A (zwT adT adT_bytes cB cI cL sT ++ zwR adR adT cB cI cL sR_95 ++ zwF adF adF_parts cB cI cL sF_95) := hD
  have hG : g_F_parse_c95 N sT s0 sR_95 sF_95 = some a := hG
  unfold g_F_parse_c95 at hG
  refine lv_aload_n hx hb d_F_parse_98 rfl (lv_at hl 2 rfl) ?_
  refine va_get (D := (dC, dI)) (ci := 2) (v := .int (zR_over sR_95)) (C := R_R) (T := F_R) (N := 4) hx hb hts zi_R hown zz.1 hP 2 rfl rfl 3 (by decide) (hts (.fieldLink R_F 41 "WireCodec$Reader" "over" "Z") zin_F_41) (fun _ h9 => h9) rfl d_F_parse_99 ?_
  refine lv_if_eq (tgt := 107) hx hb d_F_parse_102 (by decide) (fun hc => ?_) (fun hc => ?_)
  · have hG := zt hG hc
    refine lv_aload_n hx hb d_F_parse_107 rfl (lv_at hl 1 rfl) ?_
    refine va_get (D := (dC, dI)) (ci := 4) (v := .ref adF_parts) (C := R_F) (T := F_F) (N := 7) hx hb hts zi_F hown zz.1 hP 3 rfl rfl 0 (by decide) (hts (.fieldLink R_F 9 "WireCodec$Frame" "parts" "[J") zin_F_9) (fun _ h9 => h9) rfl d_F_parse_108 ?_
    refine lv_bipush (v := (8 : Int32)) hx hb d_F_parse_111 (by decide) ?_
    refine lv_aload_n hx hb d_F_parse_113 rfl (lv_at hl 2 rfl) ?_
    refine va_get (D := (dC, dI)) (ci := 2) (v := .int (zR_place sR_95)) (C := R_R) (T := F_R) (N := 4) hx hb hts zi_R hown zz.1 hP 2 rfl rfl 1 (by decide) (hts (.fieldLink R_F 18 "WireCodec$Reader" "place" "I") zin_F_18) (fun _ h9 => h9) rfl d_F_parse_114 ?_
    refine lv_i2l hx hb d_F_parse_117 rfl ?_
    obtain ⟨hin, hG⟩ := zgd hG
    refine va_last hx hb zz.1 hP hD hS 4 2 rfl rfl hin d_F_parse_118 (fun H locs hP hD hS => ?_)
    have hP : va_P (dC, dI) zcl (zwT adT adT_bytes cB cI cL sT ++ zwR adR adT cB cI cL sR_95 ++ zwF adF adF_parts cB cI cL (zF_parts' sF_95 (vp_updL (zF_parts sF_95) ((8 : Int32).toNatClampNeg) ((zR_place sR_95).toInt64)))) H := hP
    have hD : va_D A (zwT adT adT_bytes cB cI cL sT ++ zwR adR adT cB cI cL sR_95 ++ zwF adF adF_parts cB cI cL (zF_parts' sF_95 (vp_updL (zF_parts sF_95) ((8 : Int32).toNatClampNeg) ((zR_place sR_95).toInt64)))) := hD
    have hG : g_F_parse_w118 N sT s0 sR_95 (zF_parts' sF_95 (vp_updL (zF_parts sF_95) ((8 : Int32).toNatClampNeg) ((zR_place sR_95).toInt64))) = some a := hG
    generalize zF_parts' sF_95 (vp_updL (zF_parts sF_95) ((8 : Int32).toNatClampNeg) ((zR_place sR_95).toInt64)) = sF_118 at hP hD hG
    unfold g_F_parse_w118 at hG
    refine lv_aload_n hx hb d_F_parse_119 rfl (lv_at hl 1 rfl) ?_
    refine va_get (D := (dC, dI)) (ci := 4) (v := .long (zF_low sF_118)) (C := R_F) (T := F_F) (N := 7) hx hb hts zi_F hown zz.1 hP 3 rfl rfl 5 (by decide) (hts (.fieldLink R_F 45 "WireCodec$Frame" "low" "J") zin_F_45) (fun _ h9 => h9) rfl d_F_parse_120 ?_
    refine lv_lconst (v := (0 : Int64)) hx hb d_F_parse_123 (by decide) ?_
    refine W.lcmp hx hb d_F_parse_124 ?_
    refine lv_if_lt (tgt := 158) hx hb d_F_parse_125 (by decide) (fun hc => ?_) (fun hc => ?_)
    · have hG := zt hG hc
      exact k_F_parse_158 X hA zz N sT sR_95 sF_118 _ hG adT adT_bytes adR adF adF_parts _ _ hP hD hS _ (lv_sub hl [] rfl)
    · have hG := zf hG hc
      refine lv_iload hx hb d_F_parse_128 (lv_at hl 0 rfl) ?_
      refine lv_aload_n hx hb d_F_parse_130 rfl (lv_at hl 1 rfl) ?_
      refine va_get (D := (dC, dI)) (ci := 4) (v := .ref adF_parts) (C := R_F) (T := F_F) (N := 7) hx hb hts zi_F hown zz.1 hP 3 rfl rfl 0 (by decide) (hts (.fieldLink R_F 9 "WireCodec$Frame" "parts" "[J") zin_F_9) (fun _ h9 => h9) rfl d_F_parse_131 ?_
      refine lv_iconst (v := (0 : Int32)) hx hb d_F_parse_134 (by decide) ?_
      obtain ⟨hin, hG⟩ := zgd hG
      refine va_lald hx hb zz.1 hP 4 2 rfl rfl hin d_F_parse_135 ?_
      refine lv_aload_n hx hb d_F_parse_136 rfl (lv_at hl 1 rfl) ?_
      refine va_get (D := (dC, dI)) (ci := 4) (v := .ref adF_parts) (C := R_F) (T := F_F) (N := 7) hx hb hts zi_F hown zz.1 hP 3 rfl rfl 0 (by decide) (hts (.fieldLink R_F 9 "WireCodec$Frame" "parts" "[J") zin_F_9) (fun _ h9 => h9) rfl d_F_parse_137 ?_
      refine lv_iconst (v := (1 : Int32)) hx hb d_F_parse_140 (by decide) ?_
      obtain ⟨hin, hG⟩ := zgd hG
      refine va_lald hx hb zz.1 hP 4 2 rfl rfl hin d_F_parse_141 ?_
      refine lv_aload_n hx hb d_F_parse_142 rfl (lv_at hl 1 rfl) ?_
      refine va_get (D := (dC, dI)) (ci := 4) (v := .ref adF_parts) (C := R_F) (T := F_F) (N := 7) hx hb hts zi_F hown zz.1 hP 3 rfl rfl 0 (by decide) (hts (.fieldLink R_F 9 "WireCodec$Frame" "parts" "[J") zin_F_9) (fun _ h9 => h9) rfl d_F_parse_143 ?_
      refine lv_iconst (v := (5 : Int32)) hx hb d_F_parse_146 (by decide) ?_
      obtain ⟨hin, hG⟩ := zgd hG
      refine va_lald hx hb zz.1 hP 4 2 rfl rfl hin d_F_parse_147 ?_
      obtain ⟨a_148, hx_148, hG⟩ := zb hG
      have hr_148 := zrunSN (p := p) (e := e) (below := below) (meth := meth) (As := [.int s0, .long ((zF_parts sF_118) (0 : Int32).toNatClampNeg), .long ((zF_parts sF_118) (1 : Int32).toNatClampNeg), .long ((zF_parts sF_118) (5 : Int32).toNatClampNeg)]) (rest := []) (st0 := [.long ((zF_parts sF_118) (5 : Int32).toNatClampNeg), .long ((zF_parts sF_118) (1 : Int32).toNatClampNeg), .long ((zF_parts sF_118) (0 : Int32).toNatClampNeg), .int s0]) (cells := 0) (slots := 0) X zz hP hD hS hA [] (by decide) rfl (c_W_fieldsHold l dC dI cB cI cL H.size s0 ((zF_parts sF_118) (0 : Int32).toNatClampNeg) ((zF_parts sF_118) (1 : Int32).toNatClampNeg) ((zF_parts sF_118) (5 : Int32).toNatClampNeg) _ hx_148) zy_W_fieldsHold zv_W_fieldsHold (zz.2.1 _ znest_F_49) hl rfl rfl d_F_parse_148 (lv_room (Nat.le_of_ble_eq_true rfl)) rfl rfl ⟨Nat.le_trans (Nat.le_of_ble_eq_true rfl) hRf, Nat.le_trans (Nat.le_of_ble_eq_true rfl) hRl⟩ ⟨Nat.zero_le _, Nat.zero_le _⟩
      refine zcalli (wr := (zwT adT adT_bytes cB cI cL sT ++ zwR adR adT cB cI cL sR_95 ++ zwF adF adF_parts cB cI cL sF_118)) hr_148 hP hD hS hA [] [0, 1, 2, 3, 4] rfl rfl (by decide) (by decide) (fun r_148 u_148 H locs hw_148 hP hD hS => ?_)
      subst hw_148
      have hP : va_P (dC, dI) zcl (zwT adT adT_bytes cB cI cL sT ++ zwR adR adT cB cI cL sR_95 ++ zwF adF adF_parts cB cI cL sF_118) H := hP
      have hD : va_D A (zwT adT adT_bytes cB cI cL sT ++ zwR adR adT cB cI cL sR_95 ++ zwF adF adF_parts cB cI cL sF_118) := hD
      have hG : g_F_parse_c148 N sT sR_95 sF_118 r_148 = some a := hG
      unfold g_F_parse_c148 at hG
      refine lv_if_eq (tgt := 158) hx hb d_F_parse_151 (by decide) (fun hc => ?_) (fun hc => ?_)
      · have hG := zt hG hc
        exact k_F_parse_158 X hA zz N sT sR_95 sF_118 _ hG adT adT_bytes adR adF adF_parts _ _ hP hD hS _ (lv_sub hl [] rfl)
      · have hG := zf hG hc
        refine lv_iconst (v := (1 : Int32)) hx hb d_F_parse_154 (by decide) ?_
        refine lv_goto (tgt := 159) hx hb d_F_parse_155 (by decide) ?_
        exact k_F_parse_159 X hA zz N sT sR_95 sF_118 (1 : Int32) _ hG adT adT_bytes adR adF adF_parts _ _ hP hD hS _ (lv_sub hl [] rfl)
  · have hG := zf hG hc
    refine lv_iconst (v := (1 : Int32)) hx hb d_F_parse_105 (by decide) ?_
    exact W.iret (v := (1 : Int32)) hx hb hr (fun t9 ht9 hW9 => ⟨⟨(1 : Int32), (sR_95, sF_95), rfl, Option.some.inj hG, by rw [ht9]; exact hP, hD⟩, hS.F ht9⟩) hS.2.2 d_F_parse_106
set_option maxRecDepth 100000 in
set_option maxHeartbeats 4000000 in
theorem k_F_parse_68 {p : Program} {l : Launch} {e : Env} {R : Room} {s : State} {m : MethodId} {args : Array Value} {below : List Frame} {meth : Method} {c : Code} {dC : Nat → ClassId} {dI : Nat → Nat → Nat} {cB cI cL : ClassId} {A : Nat → Prop} (X : zx p s m args meth c R R_F b_F_parse (some .int) 6 5 120) (hA : ∀ q, s.heap.size ≤ q → A q) (zz : zk dC dI cB cI cL A s)  (N : Nat) (sT : zT) (sR : zR) (sF : zF) (v3 : Int32) (a : Int32 × zR × zF) (hG : g_F_parse_68 N sT sR sF v3 = some a) (adT adT_bytes adR adF adF_parts : Nat) (H : Heap) (locs : List Loc) (hP : va_P (dC, dI) zcl (zwT adT adT_bytes cB cI cL sT ++ zwR adR adT cB cI cL sR ++ zwF adF adF_parts cB cI cL sF) H) (hD : va_D A (zwT adT adT_bytes cB cI cL sT ++ zwR adR adT cB cI cL sR ++ zwF adF adF_parts cB cI cL sF)) (hS : va_S A s.heap H locs) (ls : Array Slot) (hl : lv_has ls 6 [(0, .ref adF), (1, .ref adR), (3, .int v3)]) : W p l e R s m args below meth c H locs 0 0 (MQ below (q_F_parse dC dI cB cI cL A adT adT_bytes adR adF adF_parts sT a) args s 0 0 A) (F0 m 68 ls []) := by
  obtain ⟨hx, hb, hr, hml, hown, hts, hlocks, hRf, hRl⟩ := id X
  unfold g_F_parse_68 at hG
  refine lv_iload_n hx hb d_F_parse_68 rfl (lv_at hl 2 rfl) ?_
  exact k_F_parse_69 X hA zz N sT sR sF v3 v3 _ hG adT adT_bytes adR adF adF_parts _ _ hP hD hS _ (lv_sub hl [0, 1, 2] rfl)
set_option maxRecDepth 100000 in
set_option maxHeartbeats 4000000 in
theorem k_F_parse_51 {p : Program} {l : Launch} {e : Env} {R : Room} {s : State} {m : MethodId} {args : Array Value} {below : List Frame} {meth : Method} {c : Code} {dC : Nat → ClassId} {dI : Nat → Nat → Nat} {cB cI cL : ClassId} {A : Nat → Prop} (X : zx p s m args meth c R R_F b_F_parse (some .int) 6 5 120) (hA : ∀ q, s.heap.size ≤ q → A q) (zz : zk dC dI cB cI cL A s)  (N : Nat) (sT : zT) (sR : zR) (sF : zF) (v3 : Int32) (a : Int32 × zR × zF) (hG : g_F_parse_51 N sT sR sF v3 = some a) (adT adT_bytes adR adF adF_parts : Nat) (H : Heap) (locs : List Loc) (hP : va_P (dC, dI) zcl (zwT adT adT_bytes cB cI cL sT ++ zwR adR adT cB cI cL sR ++ zwF adF adF_parts cB cI cL sF) H) (hD : va_D A (zwT adT adT_bytes cB cI cL sT ++ zwR adR adT cB cI cL sR ++ zwF adF adF_parts cB cI cL sF)) (hS : va_S A s.heap H locs) (ls : Array Slot) (hl : lv_has ls 6 [(0, .ref adF), (1, .ref adR), (3, .int v3)]) : W p l e R s m args below meth c H locs 0 0 (MQ below (q_F_parse dC dI cB cI cL A adT adT_bytes adR adF adF_parts sT a) args s 0 0 A) (F0 m 51 ls []) := by
  obtain ⟨hx, hb, hr, hml, hown, hts, hlocks, hRf, hRl⟩ := id X
  unfold g_F_parse_51 at hG
  refine lv_iload_n hx hb d_F_parse_51 rfl (lv_at hl 2 rfl) ?_
  refine lv_bipush (v := (8 : Int32)) hx hb d_F_parse_52 (by decide) ?_
  refine lv_icmp_le (tgt := 68) hx hb d_F_parse_54 (by decide) (fun hc => ?_) (fun hc => ?_)
  · have hG := zt hG hc
    exact k_F_parse_68 X hA zz N sT sR sF v3 _ hG adT adT_bytes adR adF adF_parts _ _ hP hD hS _ (lv_sub hl [0, 1, 2] rfl)
  · have hG := zf hG hc
    refine lv_iload_n hx hb d_F_parse_57 rfl (lv_at hl 2 rfl) ?_
    refine lv_bipush (v := (15 : Int32)) hx hb d_F_parse_58 (by decide) ?_
    refine lv_icmp_gt (tgt := 68) hx hb d_F_parse_60 (by decide) (fun hc => ?_) (fun hc => ?_)
    · have hG := zt hG hc
      exact k_F_parse_68 X hA zz N sT sR sF v3 _ hG adT adT_bytes adR adF adF_parts _ _ hP hD hS _ (lv_sub hl [0, 1, 2] rfl)
    · have hG := zf hG hc
      refine lv_bipush (v := (8 : Int32)) hx hb d_F_parse_63 (by decide) ?_
      refine lv_goto (tgt := 69) hx hb d_F_parse_65 (by decide) ?_
      exact k_F_parse_69 X hA zz N sT sR sF v3 (8 : Int32) _ hG adT adT_bytes adR adF adF_parts _ _ hP hD hS _ (lv_sub hl [0, 1, 2] rfl)
set_option maxRecDepth 100000 in
set_option maxHeartbeats 4000000 in
theorem k_F_parse_0 {p : Program} {l : Launch} {e : Env} {R : Room} {s : State} {m : MethodId} {args : Array Value} {below : List Frame} {meth : Method} {c : Code} {dC : Nat → ClassId} {dI : Nat → Nat → Nat} {cB cI cL : ClassId} {A : Nat → Prop} (X : zx p s m args meth c R R_F b_F_parse (some .int) 6 5 120) (hA : ∀ q, s.heap.size ≤ q → A q) (zz : zk dC dI cB cI cL A s)  (N : Nat) (sT : zT) (sR : zR) (sF : zF) (v2 : Int32) (a : Int32 × zR × zF) (hG : g_F_parse N sT sR sF v2 = some a) (adT adT_bytes adR adF adF_parts : Nat) (H : Heap) (locs : List Loc) (hP : va_P (dC, dI) zcl (zwT adT adT_bytes cB cI cL sT ++ zwR adR adT cB cI cL sR ++ zwF adF adF_parts cB cI cL sF) H) (hD : va_D A (zwT adT adT_bytes cB cI cL sT ++ zwR adR adT cB cI cL sR ++ zwF adF adF_parts cB cI cL sF)) (hS : va_S A s.heap H locs) (ls : Array Slot) (hl : lv_has ls 6 [(0, .ref adF), (1, .ref adR), (2, .int v2)]) : W p l e R s m args below meth c H locs 0 0 (MQ below (q_F_parse dC dI cB cI cL A adT adT_bytes adR adF adF_parts sT a) args s 0 0 A) (F0 m 0 ls []) := by
  obtain ⟨hx, hb, hr, hml, hown, hts, hlocks, hRf, hRl⟩ := id X
  unfold g_F_parse at hG
  refine lv_aload_n hx hb d_F_parse_0 rfl (lv_at hl 0 rfl) ?_
  obtain ⟨a_1, hx_1, hG⟩ := zb hG
  have hr_1 := zrunV (p := p) (e := e) (below := below) (meth := meth) (As := []) (rest := []) (st0 := [.ref adF]) (cells := 0) (slots := 0) X zz hP hD hS hA [3, 4] (by decide) rfl (c_F_forget l dC dI cB cI cL H.size adF adF_parts N sF _ hx_1) zy_F_forget zv_F_forget (hts (.methodLink R_F 15 y_F_forget) zin_F_15) hl rfl rfl d_F_parse_1 (lv_room (Nat.le_of_ble_eq_true rfl)) rfl rfl ⟨Nat.le_trans (Nat.le_of_ble_eq_true rfl) hRf, Nat.le_trans (Nat.le_of_ble_eq_true rfl) hRl⟩ ⟨Nat.zero_le _, Nat.zero_le _⟩ 0 4 rfl rfl
  refine zcallv (wr := (zwT adT adT_bytes cB cI cL sT ++ zwR adR adT cB cI cL sR)) hr_1 hP hD hS hA [3, 4] [0, 1, 2] rfl rfl (by decide) (by decide) (fun u_1 H locs hw_1 hP hD hS => ?_)
  obtain ⟨sF_1, rfl⟩ : ∃ z, z = u_1 := ⟨_, rfl⟩
  subst hw_1
  have hP : va_P (dC, dI) zcl (zwT adT adT_bytes cB cI cL sT ++ zwR adR adT cB cI cL sR ++ zwF adF adF_parts cB cI cL sF_1) H := hP
  have hD : va_D A (zwT adT adT_bytes cB cI cL sT ++ zwR adR adT cB cI cL sR ++ zwF adF adF_parts cB cI cL sF_1) := hD
  have hG : g_F_parse_c1 N sT sR v2 sF_1 = some a := hG
  unfold g_F_parse_c1 at hG
  refine lv_aload_n hx hb d_F_parse_4 rfl (lv_at hl 0 rfl) ?_
  refine va_get (D := (dC, dI)) (ci := 4) (v := .ref adF_parts) (C := R_F) (T := F_F) (N := 7) hx hb hts zi_F hown zz.1 hP 3 rfl rfl 0 (by decide) (hts (.fieldLink R_F 9 "WireCodec$Frame" "parts" "[J") zin_F_9) (fun _ h9 => h9) rfl d_F_parse_5 ?_
  refine lv_bipush (v := (7 : Int32)) hx hb d_F_parse_8 (by decide) ?_
  refine lv_aload_n hx hb d_F_parse_10 rfl (lv_at hl 1 rfl) ?_
  refine va_get (D := (dC, dI)) (ci := 2) (v := .int (zR_place sR)) (C := R_R) (T := F_R) (N := 4) hx hb hts zi_R hown zz.1 hP 2 rfl rfl 1 (by decide) (hts (.fieldLink R_F 18 "WireCodec$Reader" "place" "I") zin_F_18) (fun _ h9 => h9) rfl d_F_parse_11 ?_
  refine lv_i2l hx hb d_F_parse_14 rfl ?_
  obtain ⟨hin, hG⟩ := zgd hG
  refine va_last hx hb zz.1 hP hD hS 4 2 rfl rfl hin d_F_parse_15 (fun H locs hP hD hS => ?_)
  have hP : va_P (dC, dI) zcl (zwT adT adT_bytes cB cI cL sT ++ zwR adR adT cB cI cL sR ++ zwF adF adF_parts cB cI cL (zF_parts' sF_1 (vp_updL (zF_parts sF_1) ((7 : Int32).toNatClampNeg) ((zR_place sR).toInt64)))) H := hP
  have hD : va_D A (zwT adT adT_bytes cB cI cL sT ++ zwR adR adT cB cI cL sR ++ zwF adF adF_parts cB cI cL (zF_parts' sF_1 (vp_updL (zF_parts sF_1) ((7 : Int32).toNatClampNeg) ((zR_place sR).toInt64)))) := hD
  have hG : g_F_parse_w15 N sT sR v2 (zF_parts' sF_1 (vp_updL (zF_parts sF_1) ((7 : Int32).toNatClampNeg) ((zR_place sR).toInt64))) = some a := hG
  generalize zF_parts' sF_1 (vp_updL (zF_parts sF_1) ((7 : Int32).toNatClampNeg) ((zR_place sR).toInt64)) = sF_15 at hP hD hG
  unfold g_F_parse_w15 at hG
  refine lv_aload_n hx hb d_F_parse_16 rfl (lv_at hl 1 rfl) ?_
  refine lv_iconst (v := (1 : Int32)) hx hb d_F_parse_17 (by decide) ?_
  obtain ⟨a_18, hx_18, hG⟩ := zb hG
  have hr_18 := zrunV (p := p) (e := e) (below := below) (meth := meth) (As := [.int (1 : Int32)]) (rest := []) (st0 := [.int (1 : Int32), .ref adR]) (cells := 0) (slots := 0) X zz hP hD hS hA [0, 1, 2] (by decide) rfl (c_R_takeWord l dC dI cB cI cL H.size adT adT_bytes adR N sT sR (1 : Int32) _ hx_18) zy_R_takeWord zv_R_takeWord (hts (.methodLink R_F 24 y_R_takeWord) zin_F_24) hl rfl rfl d_F_parse_18 (lv_room (Nat.le_of_ble_eq_true rfl)) rfl rfl ⟨Nat.le_trans (Nat.le_of_ble_eq_true rfl) hRf, Nat.le_trans (Nat.le_of_ble_eq_true rfl) hRl⟩ ⟨Nat.zero_le _, Nat.zero_le _⟩ 2 2 rfl rfl
  refine zcalll (wr := (zwF adF adF_parts cB cI cL sF_15)) hr_18 hP hD hS hA [0, 1, 2] [3, 4] rfl rfl (by decide) (by decide) (fun r_18 u_18 H locs hw_18 hP hD hS => ?_)
  obtain ⟨sR_18, rfl⟩ : ∃ z, z = u_18 := ⟨_, rfl⟩
  subst hw_18
  have hP : va_P (dC, dI) zcl (zwF adF adF_parts cB cI cL sF_15 ++ zwT adT adT_bytes cB cI cL sT ++ zwR adR adT cB cI cL sR_18) H := hP
  have hD : va_D A (zwF adF adF_parts cB cI cL sF_15 ++ zwT adT adT_bytes cB cI cL sT ++ zwR adR adT cB cI cL sR_18) := hD
  have hG : g_F_parse_c18 N sT v2 sF_15 sR_18 r_18 = some a := hG
  unfold g_F_parse_c18 at hG
  refine lv_l2i hx hb d_F_parse_21 rfl ?_
  refine lv_istore_n (lv' := [(3, .int r_18.toInt32), (0, .ref adF), (1, .ref adR), (2, .int v2)]) hx hb d_F_parse_22 rfl hl (by decide) rfl (fun ls hl => ?_)
  refine lv_iload_n hx hb d_F_parse_23 rfl (lv_at hl 0 rfl) ?_
  refine lv_if_lt (tgt := 33) hx hb d_F_parse_24 (by decide) (fun hc => ?_) (fun hc => ?_)
  · have hG := zt hG hc
    exact k_F_parse_33 X hA zz N sT sR_18 sF_15 _ hG adT adT_bytes adR adF adF_parts _ _ (hP.sub [2, 3, 4, 0, 1] rfl) (hD.sub [2, 3, 4, 0, 1] (by decide) rfl) hS _ (lv_sub hl [] rfl)
  · have hG := zf hG hc
    refine lv_iload_n hx hb d_F_parse_27 rfl (lv_at hl 0 rfl) ?_
    refine lv_bipush (v := (30 : Int32)) hx hb d_F_parse_28 (by decide) ?_
    refine lv_icmp_le (tgt := 35) hx hb d_F_parse_30 (by decide) (fun hc => ?_) (fun hc => ?_)
    · have hG := zt hG hc
      refine lv_iload_n hx hb d_F_parse_35 rfl (lv_at hl 3 rfl) ?_
      refine lv_iconst (v := (2 : Int32)) hx hb d_F_parse_36 (by decide) ?_
      refine lv_icmp_eq (tgt := 51) hx hb d_F_parse_37 (by decide) (fun hc => ?_) (fun hc => ?_)
      · have hG := zt hG hc
        exact k_F_parse_51 X hA zz N sT sR_18 sF_15 r_18.toInt32 _ hG adT adT_bytes adR adF adF_parts _ _ (hP.sub [2, 3, 4, 0, 1] rfl) (hD.sub [2, 3, 4, 0, 1] (by decide) rfl) hS _ (lv_sub hl [1, 2, 0] rfl)
      · have hG := zf hG hc
        refine lv_ldc (v := (268435535 : Int32)) hx hb hown (hts (.constant R_F 28 (268435535 : Int32)) zin_F_28) d_F_parse_40 ?_
        refine lv_iload_n hx hb d_F_parse_42 rfl (lv_at hl 0 rfl) ?_
        refine lv_ishr hx hb d_F_parse_43 ?_
        refine lv_iconst (v := (1 : Int32)) hx hb d_F_parse_44 (by decide) ?_
        refine lv_iand hx hb d_F_parse_45 ?_
        refine lv_if_ne (tgt := 51) hx hb d_F_parse_46 (by decide) (fun hc => ?_) (fun hc => ?_)
        · have hG := zf hG hc
          exact k_F_parse_51 X hA zz N sT sR_18 sF_15 r_18.toInt32 _ hG adT adT_bytes adR adF adF_parts _ _ (hP.sub [2, 3, 4, 0, 1] rfl) (hD.sub [2, 3, 4, 0, 1] (by decide) rfl) hS _ (lv_sub hl [1, 2, 0] rfl)
        · have hG := zt hG hc
          refine lv_iconst (v := (4 : Int32)) hx hb d_F_parse_49 (by decide) ?_
          exact W.iret (v := (4 : Int32)) hx hb hr (fun t9 ht9 hW9 => ⟨⟨(4 : Int32), (sR_18, sF_15), rfl, Option.some.inj hG, by rw [ht9]; exact (hP.sub [2, 3, 4, 0, 1] rfl), (hD.sub [2, 3, 4, 0, 1] (by decide) rfl)⟩, hS.F ht9⟩) hS.2.2 d_F_parse_50
    · have hG := zf hG hc
      exact k_F_parse_33 X hA zz N sT sR_18 sF_15 _ hG adT adT_bytes adR adF adF_parts _ _ (hP.sub [2, 3, 4, 0, 1] rfl) (hD.sub [2, 3, 4, 0, 1] (by decide) rfl) hS _ (lv_sub hl [] rfl)
set_option maxRecDepth 100000 in
set_option maxHeartbeats 4000000 in
theorem c_F_parse (l : Launch) (dC : Nat → ClassId) (dI : Nat → Nat → Nat) (cB cI cL : ClassId) (sz : Nat) (adT adT_bytes adR adF adF_parts : Nat) (N : Nat) (sT : zT) (sR : zR) (sF : zF) (v2 : Int32) (a : Int32 × zR × zF) (hG : g_F_parse N sT sR sF v2 = some a) : Met l y_F_parse (zw y_F_parse b_F_parse 6 (some .int)) ({ frames := 5, cells := 0, slots := 0, locals := 120 }) (va_Pc [.ref adF, .ref adR, .int v2] (zpre dC dI cB cI cL sz (zwT adT adT_bytes cB cI cL sT ++ zwR adR adT cB cI cL sR ++ zwF adF adF_parts cB cI cL sF))) (q_F_parse dC dI cB cI cL (va_A (zwT adT adT_bytes cB cI cL sT ++ zwR adR adT cB cI cL sR ++ zwF adF adF_parts cB cI cL sF) sz) adT adT_bytes adR adF adF_parts sT a) 0 0 (va_A (zwT adT adT_bytes cB cI cL sT ++ zwR adR adT cB cI cL sR ++ zwF adF adF_parts cB cI cL sF) sz) := by
  refine Met.ofW (cc := b_F_parse) (maxL := 6) (ret := (some .int)) (by decide) rfl ?_
  intro p e s m args below meth c s₁ B hml hv
  obtain ⟨rfl, hsz, hP, zz, hD0⟩ := hv
  subst hsz
  have X := zx_of (F := 5) (L := 120) B hml (Nat.le_refl _) (Nat.le_refl _)
  have hD := hD0.self (sz := s.heap.size)
  have hA : ∀ q : Nat, s.heap.size ≤ q → va_A (zwT adT adT_bytes cB cI cL sT ++ zwR adR adT cB cI cL sR ++ zwF adF adF_parts cB cI cL sF) s.heap.size q := fun q h => Or.inr h
  have hl := lv_entry ([.ref adF, .ref adR, .int v2]) (n := 6) (Nat.le_of_ble_eq_true rfl)
  rw [lg_entry_eq]
  generalize (lg_sl ([.ref adF, .ref adR, .int v2]) ++ List.replicate (6 - (lg_sl ([.ref adF, .ref adR, .int v2])).length) Slot.unset).toArray = ls at hl ⊢
  exact k_F_parse_0 X hA zz N sT sR sF v2 a hG adT adT_bytes adR adF adF_parts _ _ hP hD va_S.rf ls hl
noncomputable def g_H_parse_67 (N : Nat) (sT : zT) (sR : zR) (sH : zH) (s0 : Int32) : Option (Int32 × zR × zH) := some (s0, sR, sH)
noncomputable def g_H_parse_c64 (N : Nat) (sT : zT) (sR_64 : zR) (sH_64 : zH) (r_64 : Int32) : Option (Int32 × zR × zH) := g_H_parse_67 N sT sR_64 sH_64 r_64
noncomputable def g_H_parse_c54 (N : Nat) (sT : zT) (sR_54 : zR) (sH_54 : zH) (r_54 : Int32) : Option (Int32 × zR × zH) := g_H_parse_67 N sT sR_54 sH_54 r_54
noncomputable def g_H_parse_c20 (N : Nat) (sT : zT) (v2 : Int32) (sH_17 : zH) (sR_20 : zR) (r_20 : Int64) : Option (Int32 × zR × zH) := if (zR_over sR_20) = (0 : Int32) then (if (r_20.toInt32 &&& (64 : Int32)) = (0 : Int32) then (some ((2 : Int32), sR_20, sH_17)) else (if (r_20.toInt32 &&& (128 : Int32)) = (0 : Int32) then ((g_H_parseShort sR_20 sH_17 r_20.toInt32 v2).bind (fun a => g_H_parse_c64 N sT a.2.1 a.2.2 a.1)) else ((g_H_parseLong N sT sR_20 sH_17 r_20.toInt32).bind (fun a => g_H_parse_c54 N sT a.2.1 a.2.2 a.1)))) else (some ((1 : Int32), sR_20, sH_17))
noncomputable def g_H_parse_w17 (N : Nat) (sT : zT) (sR : zR) (v2 : Int32) (sH_17 : zH) : Option (Int32 × zR × zH) := (g_R_takeWord N sT sR (1 : Int32)).bind (fun a => g_H_parse_c20 N sT v2 sH_17 a.2 a.1)
noncomputable def g_H_parse_c5 (N : Nat) (sT : zT) (sR : zR) (sH : zH) (v2 : Int32) (x_5 : (Nat → Int32)) : Option (Int32 × zR × zH) := zg (vp_in (3 : Int32) 12) (g_H_parse_w17 N sT sR v2 (zH_parts' (zH_parts' sH x_5) (upd x_5 ((3 : Int32).toNatClampNeg) (zR_place sR))))
noncomputable def g_H_parse (N : Nat) (sT : zT) (sR : zR) (sH : zH) (v2 : Int32) : Option (Int32 × zR × zH) := (g_Ar_fill_aII N (zH_parts sH) 12 (0 : Int32)).bind (fun a => g_H_parse_c5 N sT sR sH v2 a)
def q_H_parse (dC : Nat → ClassId) (dI : Nat → Nat → Nat) (cB cI cL : ClassId) (A : Nat → Prop) (adT : Nat) (adT_bytes : Nat) (adR : Nat) (adH : Nat) (adH_parts : Nat) (sT : zT) (a : Int32 × zR × zH) : Array Value → State → Outcome → State → Prop := va_Qi (fun (r : Int32) (u : zR × zH) => (r, u.1, u.2) = a) (fun u U => va_P (dC, dI) zcl (zwT adT adT_bytes cB cI cL sT ++ zwR adR adT cB cI cL u.1 ++ zwH adH adH_parts cB cI cL u.2) U.heap ∧ va_D A (zwT adT adT_bytes cB cI cL sT ++ zwR adR adT cB cI cL u.1 ++ zwH adH adH_parts cB cI cL u.2)) A
set_option maxRecDepth 100000 in
set_option maxHeartbeats 4000000 in
theorem k_H_parse_67 {p : Program} {l : Launch} {e : Env} {R : Room} {s : State} {m : MethodId} {args : Array Value} {below : List Frame} {meth : Method} {c : Code} {dC : Nat → ClassId} {dI : Nat → Nat → Nat} {cB cI cL : ClassId} {A : Nat → Prop} (X : zx p s m args meth c R R_H b_H_parse (some .int) 4 5 119) (hA : ∀ q, s.heap.size ≤ q → A q) (zz : zk dC dI cB cI cL A s)  (N : Nat) (sT : zT) (sR : zR) (sH : zH) (s0 : Int32) (a : Int32 × zR × zH) (hG : g_H_parse_67 N sT sR sH s0 = some a) (adT adT_bytes adR adH adH_parts : Nat) (H : Heap) (locs : List Loc) (hP : va_P (dC, dI) zcl (zwT adT adT_bytes cB cI cL sT ++ zwR adR adT cB cI cL sR ++ zwH adH adH_parts cB cI cL sH) H) (hD : va_D A (zwT adT adT_bytes cB cI cL sT ++ zwR adR adT cB cI cL sR ++ zwH adH adH_parts cB cI cL sH)) (hS : va_S A s.heap H locs) (ls : Array Slot) (hl : lv_has ls 4 []) : W p l e R s m args below meth c H locs 0 0 (MQ below (q_H_parse dC dI cB cI cL A adT adT_bytes adR adH adH_parts sT a) args s 0 0 A) (F0 m 67 ls [.int s0]) := by
  obtain ⟨hx, hb, hr, hml, hown, hts, hlocks, hRf, hRl⟩ := id X
  unfold g_H_parse_67 at hG
  exact W.iret (v := s0) hx hb hr (fun t9 ht9 hW9 => ⟨⟨s0, (sR, sH), rfl, Option.some.inj hG, by rw [ht9]; exact hP, hD⟩, hS.F ht9⟩) hS.2.2 d_H_parse_67
set_option maxRecDepth 100000 in
set_option maxHeartbeats 4000000 in
theorem k_H_parse_0 {p : Program} {l : Launch} {e : Env} {R : Room} {s : State} {m : MethodId} {args : Array Value} {below : List Frame} {meth : Method} {c : Code} {dC : Nat → ClassId} {dI : Nat → Nat → Nat} {cB cI cL : ClassId} {A : Nat → Prop} (X : zx p s m args meth c R R_H b_H_parse (some .int) 4 5 119) (hA : ∀ q, s.heap.size ≤ q → A q) (zz : zk dC dI cB cI cL A s)  (N : Nat) (sT : zT) (sR : zR) (sH : zH) (v2 : Int32) (a : Int32 × zR × zH) (hG : g_H_parse N sT sR sH v2 = some a) (adT adT_bytes adR adH adH_parts : Nat) (H : Heap) (locs : List Loc) (hP : va_P (dC, dI) zcl (zwT adT adT_bytes cB cI cL sT ++ zwR adR adT cB cI cL sR ++ zwH adH adH_parts cB cI cL sH) H) (hD : va_D A (zwT adT adT_bytes cB cI cL sT ++ zwR adR adT cB cI cL sR ++ zwH adH adH_parts cB cI cL sH)) (hS : va_S A s.heap H locs) (ls : Array Slot) (hl : lv_has ls 4 [(0, .ref adH), (1, .ref adR), (2, .int v2)]) : W p l e R s m args below meth c H locs 0 0 (MQ below (q_H_parse dC dI cB cI cL A adT adT_bytes adR adH adH_parts sT a) args s 0 0 A) (F0 m 0 ls []) := by
  obtain ⟨hx, hb, hr, hml, hown, hts, hlocks, hRf, hRl⟩ := id X
  unfold g_H_parse at hG
  refine lv_aload_n hx hb d_H_parse_0 rfl (lv_at hl 0 rfl) ?_
  refine va_get (D := (dC, dI)) (ci := 5) (v := .ref adH_parts) (C := R_H) (T := F_H) (N := 1) hx hb hts zi_H hown zz.1 hP 3 rfl rfl 0 (by decide) (hts (.fieldLink R_H 9 "WireCodec$Header" "parts" "[I") zin_H_9) (fun _ h9 => h9) rfl d_H_parse_1 ?_
  refine lv_iconst (v := (0 : Int32)) hx hb d_H_parse_4 (by decide) ?_
  obtain ⟨a_5, hx_5, hG⟩ := zb hG
  have hr_5 := zrunS (p := p) (e := e) (below := below) (meth := meth) (As := [.ref adH_parts, .int (0 : Int32)]) (rest := []) (st0 := [.int (0 : Int32), .ref adH_parts]) (cells := 0) (slots := 0) X zz hP hD hS hA [4] (by decide) rfl (c_Ar_fill_aII l dC dI cB cI cL H.size adH_parts N (zH_parts sH) 12 (0 : Int32) _ hx_5) zy_Ar_fill_aII zv_Ar_fill_aII (hts (.methodLink R_H 15 y_Ar_fill_aII) zin_H_15) hl rfl rfl d_H_parse_5 (lv_room (Nat.le_of_ble_eq_true rfl)) rfl rfl ⟨Nat.le_trans (Nat.le_of_ble_eq_true rfl) hRf, Nat.le_trans (Nat.le_of_ble_eq_true rfl) hRl⟩ ⟨Nat.zero_le _, Nat.zero_le _⟩
  refine zcallv (wr := (zwT adT adT_bytes cB cI cL sT ++ zwR adR adT cB cI cL sR ++ [(adH, .inr (5, [.ref adH_parts]))])) hr_5 hP hD hS hA [4] [0, 1, 2, 3] rfl rfl (by decide) (by decide) (fun u_5 H locs hw_5 hP hD hS => ?_)
  obtain ⟨x_5, rfl⟩ : ∃ z, z = u_5 := ⟨_, rfl⟩
  subst hw_5
  have hP : va_P (dC, dI) zcl (zwT adT adT_bytes cB cI cL sT ++ zwR adR adT cB cI cL sR ++ zwH adH adH_parts cB cI cL (zH_parts' sH x_5)) H := hP
  have hD : va_D A (zwT adT adT_bytes cB cI cL sT ++ zwR adR adT cB cI cL sR ++ zwH adH adH_parts cB cI cL (zH_parts' sH x_5)) := hD
  have hG : g_H_parse_c5 N sT sR sH v2 x_5 = some a := hG
  unfold g_H_parse_c5 at hG
  refine lv_aload_n hx hb d_H_parse_8 rfl (lv_at hl 0 rfl) ?_
  refine va_get (D := (dC, dI)) (ci := 5) (v := .ref adH_parts) (C := R_H) (T := F_H) (N := 1) hx hb hts zi_H hown zz.1 hP 3 rfl rfl 0 (by decide) (hts (.fieldLink R_H 9 "WireCodec$Header" "parts" "[I") zin_H_9) (fun _ h9 => h9) rfl d_H_parse_9 ?_
  refine lv_iconst (v := (3 : Int32)) hx hb d_H_parse_12 (by decide) ?_
  refine lv_aload_n hx hb d_H_parse_13 rfl (lv_at hl 1 rfl) ?_
  refine va_get (D := (dC, dI)) (ci := 2) (v := .int (zR_place sR)) (C := R_R) (T := F_R) (N := 4) hx hb hts zi_R hown zz.1 hP 2 rfl rfl 1 (by decide) (hts (.fieldLink R_H 21 "WireCodec$Reader" "place" "I") zin_H_21) (fun _ h9 => h9) rfl d_H_parse_14 ?_
  obtain ⟨hin, hG⟩ := zgd hG
  refine va_iast hx hb zz.1 hP hD hS 4 1 rfl rfl hin d_H_parse_17 (fun H locs hP hD hS => ?_)
  have hP : va_P (dC, dI) zcl (zwT adT adT_bytes cB cI cL sT ++ zwR adR adT cB cI cL sR ++ zwH adH adH_parts cB cI cL (zH_parts' (zH_parts' sH x_5) (upd x_5 ((3 : Int32).toNatClampNeg) (zR_place sR)))) H := hP
  have hD : va_D A (zwT adT adT_bytes cB cI cL sT ++ zwR adR adT cB cI cL sR ++ zwH adH adH_parts cB cI cL (zH_parts' (zH_parts' sH x_5) (upd x_5 ((3 : Int32).toNatClampNeg) (zR_place sR)))) := hD
  have hG : g_H_parse_w17 N sT sR v2 (zH_parts' (zH_parts' sH x_5) (upd x_5 ((3 : Int32).toNatClampNeg) (zR_place sR))) = some a := hG
  generalize zH_parts' (zH_parts' sH x_5) (upd x_5 ((3 : Int32).toNatClampNeg) (zR_place sR)) = sH_17 at hP hD hG
  unfold g_H_parse_w17 at hG
  refine lv_aload_n hx hb d_H_parse_18 rfl (lv_at hl 1 rfl) ?_
  refine lv_iconst (v := (1 : Int32)) hx hb d_H_parse_19 (by decide) ?_
  obtain ⟨a_20, hx_20, hG⟩ := zb hG
  have hr_20 := zrunV (p := p) (e := e) (below := below) (meth := meth) (As := [.int (1 : Int32)]) (rest := []) (st0 := [.int (1 : Int32), .ref adR]) (cells := 0) (slots := 0) X zz hP hD hS hA [0, 1, 2] (by decide) rfl (c_R_takeWord l dC dI cB cI cL H.size adT adT_bytes adR N sT sR (1 : Int32) _ hx_20) zy_R_takeWord zv_R_takeWord (hts (.methodLink R_H 27 y_R_takeWord) zin_H_27) hl rfl rfl d_H_parse_20 (lv_room (Nat.le_of_ble_eq_true rfl)) rfl rfl ⟨Nat.le_trans (Nat.le_of_ble_eq_true rfl) hRf, Nat.le_trans (Nat.le_of_ble_eq_true rfl) hRl⟩ ⟨Nat.zero_le _, Nat.zero_le _⟩ 2 2 rfl rfl
  refine zcalll (wr := (zwH adH adH_parts cB cI cL sH_17)) hr_20 hP hD hS hA [0, 1, 2] [3, 4] rfl rfl (by decide) (by decide) (fun r_20 u_20 H locs hw_20 hP hD hS => ?_)
  obtain ⟨sR_20, rfl⟩ : ∃ z, z = u_20 := ⟨_, rfl⟩
  subst hw_20
  have hP : va_P (dC, dI) zcl (zwH adH adH_parts cB cI cL sH_17 ++ zwT adT adT_bytes cB cI cL sT ++ zwR adR adT cB cI cL sR_20) H := hP
  have hD : va_D A (zwH adH adH_parts cB cI cL sH_17 ++ zwT adT adT_bytes cB cI cL sT ++ zwR adR adT cB cI cL sR_20) := hD
  have hG : g_H_parse_c20 N sT v2 sH_17 sR_20 r_20 = some a := hG
  unfold g_H_parse_c20 at hG
  refine lv_l2i hx hb d_H_parse_23 rfl ?_
  refine lv_istore_n (lv' := [(3, .int r_20.toInt32), (0, .ref adH), (1, .ref adR), (2, .int v2)]) hx hb d_H_parse_24 rfl hl (by decide) rfl (fun ls hl => ?_)
  refine lv_aload_n hx hb d_H_parse_25 rfl (lv_at hl 2 rfl) ?_
  refine va_get (D := (dC, dI)) (ci := 2) (v := .int (zR_over sR_20)) (C := R_R) (T := F_R) (N := 4) hx hb hts zi_R hown zz.1 hP 4 rfl rfl 3 (by decide) (hts (.fieldLink R_H 31 "WireCodec$Reader" "over" "Z") zin_H_31) (fun _ h9 => h9) rfl d_H_parse_26 ?_
  refine lv_if_eq (tgt := 34) hx hb d_H_parse_29 (by decide) (fun hc => ?_) (fun hc => ?_)
  · have hG := zt hG hc
    refine lv_iload_n hx hb d_H_parse_34 rfl (lv_at hl 0 rfl) ?_
    refine lv_bipush (v := (64 : Int32)) hx hb d_H_parse_35 (by decide) ?_
    refine lv_iand hx hb d_H_parse_37 ?_
    refine lv_if_ne (tgt := 43) hx hb d_H_parse_38 (by decide) (fun hc => ?_) (fun hc => ?_)
    · have hG := zf hG hc
      refine lv_iload_n hx hb d_H_parse_43 rfl (lv_at hl 0 rfl) ?_
      refine lv_sipush (v := (128 : Int32)) hx hb d_H_parse_44 (by decide) ?_
      refine lv_iand hx hb d_H_parse_47 ?_
      refine lv_if_eq (tgt := 60) hx hb d_H_parse_48 (by decide) (fun hc => ?_) (fun hc => ?_)
      · have hG := zt hG hc
        refine lv_aload_n hx hb d_H_parse_60 rfl (lv_at hl 1 rfl) ?_
        refine lv_aload_n hx hb d_H_parse_61 rfl (lv_at hl 2 rfl) ?_
        refine lv_iload_n hx hb d_H_parse_62 rfl (lv_at hl 0 rfl) ?_
        refine lv_iload_n hx hb d_H_parse_63 rfl (lv_at hl 3 rfl) ?_
        obtain ⟨a_64, hx_64, hG⟩ := zb hG
        have hr_64 := zrunV (p := p) (e := e) (below := below) (meth := meth) (As := [.ref adR, .int r_20.toInt32, .int v2]) (rest := []) (st0 := [.int v2, .int r_20.toInt32, .ref adR, .ref adH]) (cells := 0) (slots := 0) X zz hP hD hS hA [4, 0, 1] (by decide) rfl (c_H_parseShort l dC dI cB cI cL H.size adR adH adH_parts adT sR_20 sH_17 r_20.toInt32 v2 _ hx_64) zy_H_parseShort zv_H_parseShort (hts (.methodLink R_H 39 y_H_parseShort) zin_H_39) hl rfl rfl d_H_parse_64 (lv_room (Nat.le_of_ble_eq_true rfl)) rfl rfl ⟨Nat.le_trans (Nat.le_of_ble_eq_true rfl) hRf, Nat.le_trans (Nat.le_of_ble_eq_true rfl) hRl⟩ ⟨Nat.zero_le _, Nat.zero_le _⟩ 1 5 rfl rfl
        refine zcalli (wr := (zwT adT adT_bytes cB cI cL sT)) hr_64 hP hD hS hA [4, 0, 1] [2, 3] rfl rfl (by decide) (by decide) (fun r_64 u_64 H locs hw_64 hP hD hS => ?_)
        obtain ⟨sR_64, sH_64⟩ := u_64
        subst hw_64
        have hP : va_P (dC, dI) zcl (zwT adT adT_bytes cB cI cL sT ++ zwR adR adT cB cI cL sR_64 ++ zwH adH adH_parts cB cI cL sH_64) H := hP
        have hD : va_D A (zwT adT adT_bytes cB cI cL sT ++ zwR adR adT cB cI cL sR_64 ++ zwH adH adH_parts cB cI cL sH_64) := hD
        have hG : g_H_parse_c64 N sT sR_64 sH_64 r_64 = some a := hG
        unfold g_H_parse_c64 at hG
        exact k_H_parse_67 X hA zz N sT sR_64 sH_64 r_64 _ hG adT adT_bytes adR adH adH_parts _ _ hP hD hS _ (lv_sub hl [] rfl)
      · have hG := zf hG hc
        refine lv_aload_n hx hb d_H_parse_51 rfl (lv_at hl 1 rfl) ?_
        refine lv_aload_n hx hb d_H_parse_52 rfl (lv_at hl 2 rfl) ?_
        refine lv_iload_n hx hb d_H_parse_53 rfl (lv_at hl 0 rfl) ?_
        obtain ⟨a_54, hx_54, hG⟩ := zb hG
        have hr_54 := zrunV (p := p) (e := e) (below := below) (meth := meth) (As := [.ref adR, .int r_20.toInt32]) (rest := []) (st0 := [.int r_20.toInt32, .ref adR, .ref adH]) (cells := 0) (slots := 0) X zz hP hD hS hA [2, 3, 4, 0, 1] (by decide) rfl (c_H_parseLong l dC dI cB cI cL H.size adT adT_bytes adR adH adH_parts N sT sR_20 sH_17 r_20.toInt32 _ hx_54) zy_H_parseLong zv_H_parseLong (hts (.methodLink R_H 35 y_H_parseLong) zin_H_35) hl rfl rfl d_H_parse_54 (lv_room (Nat.le_of_ble_eq_true rfl)) rfl rfl ⟨Nat.le_trans (Nat.le_of_ble_eq_true rfl) hRf, Nat.le_trans (Nat.le_of_ble_eq_true rfl) hRl⟩ ⟨Nat.zero_le _, Nat.zero_le _⟩ 3 5 rfl rfl
        refine zcalli (wr := ([] : va_W)) hr_54 hP hD hS hA [2, 3, 4, 0, 1] [] rfl rfl (by decide) (by decide) (fun r_54 u_54 H locs hw_54 hP hD hS => ?_)
        obtain ⟨sR_54, sH_54⟩ := u_54
        subst hw_54
        have hP : va_P (dC, dI) zcl (zwT adT adT_bytes cB cI cL sT ++ zwR adR adT cB cI cL sR_54 ++ zwH adH adH_parts cB cI cL sH_54) H := hP
        have hD : va_D A (zwT adT adT_bytes cB cI cL sT ++ zwR adR adT cB cI cL sR_54 ++ zwH adH adH_parts cB cI cL sH_54) := hD
        have hG : g_H_parse_c54 N sT sR_54 sH_54 r_54 = some a := hG
        unfold g_H_parse_c54 at hG
        refine lv_goto (tgt := 67) hx hb d_H_parse_57 (by decide) ?_
        exact k_H_parse_67 X hA zz N sT sR_54 sH_54 r_54 _ hG adT adT_bytes adR adH adH_parts _ _ hP hD hS _ (lv_sub hl [] rfl)
    · have hG := zt hG hc
      refine lv_iconst (v := (2 : Int32)) hx hb d_H_parse_41 (by decide) ?_
      exact W.iret (v := (2 : Int32)) hx hb hr (fun t9 ht9 hW9 => ⟨⟨(2 : Int32), (sR_20, sH_17), rfl, Option.some.inj hG, by rw [ht9]; exact (hP.sub [2, 3, 4, 0, 1] rfl), (hD.sub [2, 3, 4, 0, 1] (by decide) rfl)⟩, hS.F ht9⟩) hS.2.2 d_H_parse_42
  · have hG := zf hG hc
    refine lv_iconst (v := (1 : Int32)) hx hb d_H_parse_32 (by decide) ?_
    exact W.iret (v := (1 : Int32)) hx hb hr (fun t9 ht9 hW9 => ⟨⟨(1 : Int32), (sR_20, sH_17), rfl, Option.some.inj hG, by rw [ht9]; exact (hP.sub [2, 3, 4, 0, 1] rfl), (hD.sub [2, 3, 4, 0, 1] (by decide) rfl)⟩, hS.F ht9⟩) hS.2.2 d_H_parse_33
set_option maxRecDepth 100000 in
set_option maxHeartbeats 4000000 in
theorem c_H_parse (l : Launch) (dC : Nat → ClassId) (dI : Nat → Nat → Nat) (cB cI cL : ClassId) (sz : Nat) (adT adT_bytes adR adH adH_parts : Nat) (N : Nat) (sT : zT) (sR : zR) (sH : zH) (v2 : Int32) (a : Int32 × zR × zH) (hG : g_H_parse N sT sR sH v2 = some a) : Met l y_H_parse (zw y_H_parse b_H_parse 4 (some .int)) ({ frames := 5, cells := 0, slots := 0, locals := 119 }) (va_Pc [.ref adH, .ref adR, .int v2] (zpre dC dI cB cI cL sz (zwT adT adT_bytes cB cI cL sT ++ zwR adR adT cB cI cL sR ++ zwH adH adH_parts cB cI cL sH))) (q_H_parse dC dI cB cI cL (va_A (zwT adT adT_bytes cB cI cL sT ++ zwR adR adT cB cI cL sR ++ zwH adH adH_parts cB cI cL sH) sz) adT adT_bytes adR adH adH_parts sT a) 0 0 (va_A (zwT adT adT_bytes cB cI cL sT ++ zwR adR adT cB cI cL sR ++ zwH adH adH_parts cB cI cL sH) sz) := by
  refine Met.ofW (cc := b_H_parse) (maxL := 4) (ret := (some .int)) (by decide) rfl ?_
  intro p e s m args below meth c s₁ B hml hv
  obtain ⟨rfl, hsz, hP, zz, hD0⟩ := hv
  subst hsz
  have X := zx_of (F := 5) (L := 119) B hml (Nat.le_refl _) (Nat.le_refl _)
  have hD := hD0.self (sz := s.heap.size)
  have hA : ∀ q : Nat, s.heap.size ≤ q → va_A (zwT adT adT_bytes cB cI cL sT ++ zwR adR adT cB cI cL sR ++ zwH adH adH_parts cB cI cL sH) s.heap.size q := fun q h => Or.inr h
  have hl := lv_entry ([.ref adH, .ref adR, .int v2]) (n := 4) (Nat.le_of_ble_eq_true rfl)
  rw [lg_entry_eq]
  generalize (lg_sl ([.ref adH, .ref adR, .int v2]) ++ List.replicate (4 - (lg_sl ([.ref adH, .ref adR, .int v2])).length) Slot.unset).toArray = ls at hl ⊢
  exact k_H_parse_0 X hA zz N sT sR sH v2 a hG adT adT_bytes adR adH adH_parts _ _ hP hD va_S.rf ls hl
noncomputable def g_W_frames_14 (N : Nat) (sT : zT) (sR : zR) (sG : zG) (sF : zF) : Option (((Int32 ⊕ Nat) × zR × zG × zF) × Nat × Nat) := some ((.inr 1, sR, sG, sF), 1, 6)
noncomputable def g_W_frames_129 (N : Nat) (sT : zT) (sR : zR) (sG : zG) (sF : zF) : Option (((Int32 ⊕ Nat) × zR × zG × zF) × Nat × Nat) := some ((.inl (zG_frameCount sG), sR, sG, sF), 0, 0)
noncomputable def g_W_frames_c120 (kr : zT → zR → zG → zF → Int32 → Int32 → Option (((Int32 ⊕ Nat) × zR × zG × zF) × Nat × Nat)) (sT : zT) (v2 : Int32) (v3 : Int32) (sR_90 : zR) (sF_90 : zF) (sG_120 : zG) : Option (((Int32 ⊕ Nat) × zR × zG × zF) × Nat × Nat) := kr sT sR_90 sG_120 sF_90 v2 (v3 + 1)
noncomputable def g_W_frames_c108 (N : Nat) (sT : zT) (sR_90 : zR) (sF_90 : zF) (sG_108 : zG) : Option (((Int32 ⊕ Nat) × zR × zG × zF) × Nat × Nat) := g_W_frames_129 N sT sR_90 sG_108 sF_90
noncomputable def g_W_frames_c90 (N : Nat) (kr : zT → zR → zG → zF → Int32 → Int32 → Option (((Int32 ⊕ Nat) × zR × zG × zF) × Nat × Nat)) (sT : zT) (sR : zR) (sG : zG) (v2 : Int32) (v3 : Int32) (sR_90 : zR) (sF_90 : zF) (r_90 : Int32) : Option (((Int32 ⊕ Nat) × zR × zG × zF) × Nat × Nat) := if r_90 = (0 : Int32) then (zcbd (g_G_keepFrame sG (zR_place sR)) (fun a => g_W_frames_c120 kr sT v2 v3 sR_90 sF_90 a)) else ((g_G_fail sG r_90 (zR_place sR)).bind (fun a => g_W_frames_c108 N sT sR_90 sF_90 a))
noncomputable def g_W_frames_c66 (N : Nat) (kr : zT → zR → zG → zF → Int32 → Int32 → Option (((Int32 ⊕ Nat) × zR × zG × zF) × Nat × Nat)) (sT : zT) (sR : zR) (sG : zG) (sF : zF) (v2 : Int32) (v3 : Int32) (r_66 : Int32) : Option (((Int32 ⊕ Nat) × zR × zG × zF) × Nat × Nat) := if r_66 ≤ (0 : Int32) then (g_W_frames_129 N sT sR sG sF) else ((g_F_parse N sT sR sF v2).bind (fun a => g_W_frames_c90 N kr sT sR sG v2 v3 a.2.1 a.2.2 a.1))
noncomputable def g_W_frames_56_b (N : Nat) (kr : zT → zR → zG → zF → Int32 → Int32 → Option (((Int32 ⊕ Nat) × zR × zG × zF) × Nat × Nat)) (sT : zT) (sR : zR) (sG : zG) (sF : zF) (v2 : Int32) (v3 : Int32) : Option (((Int32 ⊕ Nat) × zR × zG × zF) × Nat × Nat) := if (65536 : Int32) ≤ v3 then (g_W_frames_129 N sT sR sG sF) else ((g_R_left sR).bind (fun a => g_W_frames_c66 N kr sT sR sG sF v2 v3 a))
noncomputable def g_W_frames_56 (N : Nat) : Nat → zT → zR → zG → zF → Int32 → Int32 → Option (((Int32 ⊕ Nat) × zR × zG × zF) × Nat × Nat)
  | 0 => fun _ _ _ _ _ _ => none
  | k + 1 => fun sT sR sG sF v2 v3 => g_W_frames_56_b N (g_W_frames_56 N k) sT sR sG sF v2 v3
noncomputable def g_W_frames_c51 (N : Nat) (sT : zT) (sF : zF) (v2 : Int32) (sG_36 : zG) (sR_51 : zR) : Option (((Int32 ⊕ Nat) × zR × zG × zF) × Nat × Nat) := g_W_frames_56 N N sT sR_51 sG_36 sF v2 (0 : Int32)
noncomputable def g_W_frames_c36 (N : Nat) (sT : zT) (sR : zR) (sF : zF) (v1 : Int32) (v2 : Int32) (sG_36 : zG) : Option (((Int32 ⊕ Nat) × zR × zG × zF) × Nat × Nat) := (g_R_start sR v1 (zG_limit sG_36)).bind (fun a => g_W_frames_c51 N sT sF v2 sG_36 a)
noncomputable def g_W_frames_c2 (N : Nat) (sT : zT) (sR : zR) (sG : zG) (sF : zF) (v1 : Int32) (v2 : Int32) : Option (((Int32 ⊕ Nat) × zR × zG × zF) × Nat × Nat) := if v2 < (0 : Int32) then (g_W_frames_14 N sT sR sG sF) else (if v2 ≤ (2 : Int32) then ((g_G_restart sG (zT_length sT) (0 : Int32)).bind (fun a => g_W_frames_c36 N sT sR sF v1 v2 a)) else (g_W_frames_14 N sT sR sG sF))
noncomputable def g_W_frames (N : Nat) (sT : zT) (sR : zR) (sG : zG) (sF : zF) (v1 : Int32) (v2 : Int32) : Option (((Int32 ⊕ Nat) × zR × zG × zF) × Nat × Nat) := (g_W_requirePlace sT v1).bind (fun a => zca 1 6 (zmx (a) (fun r9 => g_W_frames_c2 N sT sR sG sF v1 v2) (fun k9 => some ((.inr k9, sR, sG, sF), 0, 0))))
def q_W_frames (dC : Nat → ClassId) (dI : Nat → Nat → Nat) (cB cI cL : ClassId) (A : Nat → Prop) (adW : Nat) (adT : Nat) (adT_bytes : Nat) (adR : Nat) (adG : Nat) (adF : Nat) (adF_parts : Nat) (adH : Nat) (adD : Nat) (adP : Nat) (sT : zT) (a : (Int32 ⊕ Nat) × zR × zG × zF) : Array Value → State → Outcome → State → Prop := zQx (α := Int32) (fun r => some (.int r)) (fun r (u : zR × zG × zF × Nat) => (r, u.1, u.2.1, u.2.2.1) = a) (dC, dI) (fun u => (zwW adW adT adR adG adF adH adD adP ++ zwT adT adT_bytes cB cI cL sT ++ zwR adR adT cB cI cL u.1 ++ zwG adG u.2.2.2 cB cI cL u.2.1 ++ zwF adF adF_parts cB cI cL u.2.2.1)) A
set_option maxRecDepth 100000 in
set_option maxHeartbeats 4000000 in
theorem k_W_frames_14 {p : Program} {l : Launch} {e : Env} {R : Room} {s : State} {m : MethodId} {args : Array Value} {below : List Frame} {meth : Method} {c : Code} {dC : Nat → ClassId} {dI : Nat → Nat → Nat} {cB cI cL : ClassId} {A : Nat → Prop} {adH adD adP : Nat} (X : zx p s m args meth c R R_W b_W_frames (some .int) 6 7 145) (hA : ∀ q, s.heap.size ≤ q → A q) (zz : zk dC dI cB cI cL A s) (htr : l.stackTraces = false) (hnh : c.exceptionTable.isEmpty = true) (hAs : ∀ q, A q → ∀ cell, s.heap[q]? = some cell → cell.vm.isStatics = false)  (N : Nat) (sT : zT) (sR : zR) (sG : zG) (sF : zF) (a : (Int32 ⊕ Nat) × zR × zG × zF) (c9 z9 cells slots tc tz : Nat) (hG : g_W_frames_14 N sT sR sG sF = some (a, c9, z9)) (kc : cells + c9 = tc) (kz : slots + z9 = tz) (hRc : tc ≤ R.cells) (hRz : tz ≤ R.slots) (adW adT adT_bytes adR adG adG_places adF adF_parts : Nat) (H : Heap) (locs : List Loc) (hP : va_P (dC, dI) zcl (zwW adW adT adR adG adF adH adD adP ++ zwT adT adT_bytes cB cI cL sT ++ zwR adR adT cB cI cL sR ++ zwG adG adG_places cB cI cL sG ++ zwF adF adF_parts cB cI cL sF) H) (hD : va_D A (zwW adW adT adR adG adF adH adD adP ++ zwT adT adT_bytes cB cI cL sT ++ zwR adR adT cB cI cL sR ++ zwG adG adG_places cB cI cL sG ++ zwF adF adF_parts cB cI cL sF)) (hS : va_S A s.heap H locs) (ls : Array Slot) (hl : lv_has ls 6 []) : W p l e R s m args below meth c H locs cells slots (zMQ below (q_W_frames dC dI cB cI cL A adW adT adT_bytes adR adG adF adF_parts adH adD adP sT a) args s tc tz A) (F0 m 14 ls []) := by
  obtain ⟨hx, hb, hr, hml, hown, hts, hlocks, hRf, hRl⟩ := id X
  unfold g_W_frames_14 at hG
  obtain ⟨hG, e91, e92⟩ := zc0 hG
  exact zthrow htr X zz hnh hAs hA hS 1 (text := "level is not 0 .. 2") zin_W_60 zini_1 (by decide +kernel) zat_W_64 zfit_1 hl d_W_frames_14 d_W_frames_17 d_W_frames_18 d_W_frames_20 d_W_frames_23 (Nat.le_trans (Nat.le_of_ble_eq_true rfl) hRf) (Nat.le_trans (Nat.le_of_ble_eq_true rfl) hRl) hRc hRz (by omega) (by omega) (fun t9 q9 hz9 ho9 ht9 => ⟨(sR, sG, sF, adG_places), va_P.kept hP (zold hP ho9), hD, zFr hS hz9 ho9, Or.inr ⟨1, q9, rfl, hG, ht9⟩⟩)
set_option maxRecDepth 100000 in
set_option maxHeartbeats 4000000 in
theorem k_W_frames_129 {p : Program} {l : Launch} {e : Env} {R : Room} {s : State} {m : MethodId} {args : Array Value} {below : List Frame} {meth : Method} {c : Code} {dC : Nat → ClassId} {dI : Nat → Nat → Nat} {cB cI cL : ClassId} {A : Nat → Prop} {adH adD adP : Nat} (X : zx p s m args meth c R R_W b_W_frames (some .int) 6 7 145) (hA : ∀ q, s.heap.size ≤ q → A q) (zz : zk dC dI cB cI cL A s) (htr : l.stackTraces = false) (hnh : c.exceptionTable.isEmpty = true) (hAs : ∀ q, A q → ∀ cell, s.heap[q]? = some cell → cell.vm.isStatics = false)  (N : Nat) (sT : zT) (sR : zR) (sG : zG) (sF : zF) (a : (Int32 ⊕ Nat) × zR × zG × zF) (c9 z9 cells slots tc tz : Nat) (hG : g_W_frames_129 N sT sR sG sF = some (a, c9, z9)) (kc : cells + c9 = tc) (kz : slots + z9 = tz) (hRc : tc ≤ R.cells) (hRz : tz ≤ R.slots) (adW adT adT_bytes adR adG adG_places adF adF_parts : Nat) (H : Heap) (locs : List Loc) (hP : va_P (dC, dI) zcl (zwW adW adT adR adG adF adH adD adP ++ zwT adT adT_bytes cB cI cL sT ++ zwR adR adT cB cI cL sR ++ zwG adG adG_places cB cI cL sG ++ zwF adF adF_parts cB cI cL sF) H) (hD : va_D A (zwW adW adT adR adG adF adH adD adP ++ zwT adT adT_bytes cB cI cL sT ++ zwR adR adT cB cI cL sR ++ zwG adG adG_places cB cI cL sG ++ zwF adF adF_parts cB cI cL sF)) (hS : va_S A s.heap H locs) (ls : Array Slot) (hl : lv_has ls 6 [(0, .ref adW)]) : W p l e R s m args below meth c H locs cells slots (zMQ below (q_W_frames dC dI cB cI cL A adW adT adT_bytes adR adG adF adF_parts adH adD adP sT a) args s tc tz A) (F0 m 129 ls []) := by
  obtain ⟨hx, hb, hr, hml, hown, hts, hlocks, hRf, hRl⟩ := id X
  unfold g_W_frames_129 at hG
  refine lv_aload_n hx hb d_W_frames_129 rfl (lv_at hl 0 rfl) ?_
  refine va_get (D := (dC, dI)) (ci := 0) (v := .ref adG) (C := R_W) (T := F_W) (N := 7) hx hb hts zi_W hown zz.1 hP 0 rfl rfl 2 (by decide) (hts (.fieldLink R_W 28 "WireCodec" "reading" "LWireCodec$Reading;") zin_W_28) (fun _ h9 => h9) rfl d_W_frames_130 ?_
  refine va_get (D := (dC, dI)) (ci := 3) (v := .int (zG_frameCount sG)) (C := R_G) (T := F_G) (N := 7) hx hb hts zi_G hown zz.1 hP 4 rfl rfl 1 (by decide) (hts (.fieldLink R_W 152 "WireCodec$Reading" "frameCount" "I") zin_W_152) (fun _ h9 => h9) rfl d_W_frames_133 ?_
  obtain ⟨hG, e91, e92⟩ := zc0 hG
  refine W.widen (k := tc) (n := tz) (Nat.le.intro kc) (Nat.le.intro kz) ?_
  exact zxreti (u := (sR, sG, sF, adG_places)) (v := zG_frameCount sG) X hlocks (hG) hP hD hS d_W_frames_136
set_option maxRecDepth 100000 in
set_option maxHeartbeats 4000000 in
theorem k_W_frames_56_b {p : Program} {l : Launch} {e : Env} {R : Room} {s : State} {m : MethodId} {args : Array Value} {below : List Frame} {meth : Method} {c : Code} {dC : Nat → ClassId} {dI : Nat → Nat → Nat} {cB cI cL : ClassId} {A : Nat → Prop} {adH adD adP : Nat} (tc tz : Nat) (kr : zT → zR → zG → zF → Int32 → Int32 → Option (((Int32 ⊕ Nat) × zR × zG × zF) × Nat × Nat)) (hrec : ∀ (sT : zT) (sR : zR) (sG : zG) (sF : zF) (v2 : Int32) (v3 : Int32) (a : (Int32 ⊕ Nat) × zR × zG × zF) (c9 z9 cells slots : Nat), kr sT sR sG sF v2 v3 = some (a, c9, z9) → cells + c9 = tc → slots + z9 = tz → ∀ (adW adT adT_bytes adR adG adG_places adF adF_parts : Nat) (H : Heap) (locs : List Loc), va_P (dC, dI) zcl (zwW adW adT adR adG adF adH adD adP ++ zwT adT adT_bytes cB cI cL sT ++ zwR adR adT cB cI cL sR ++ zwG adG adG_places cB cI cL sG ++ zwF adF adF_parts cB cI cL sF) H → va_D A (zwW adW adT adR adG adF adH adD adP ++ zwT adT adT_bytes cB cI cL sT ++ zwR adR adT cB cI cL sR ++ zwG adG adG_places cB cI cL sG ++ zwF adF adF_parts cB cI cL sF) → va_S A s.heap H locs → ∀ ls : Array Slot, lv_has ls 6 [(0, .ref adW), (2, .int v2), (3, .int v3)] → W p l e R s m args below meth c H locs cells slots (zMQ below (q_W_frames dC dI cB cI cL A adW adT adT_bytes adR adG adF adF_parts adH adD adP sT a) args s tc tz A) (F0 m 56 ls [])) (X : zx p s m args meth c R R_W b_W_frames (some .int) 6 7 145) (hA : ∀ q, s.heap.size ≤ q → A q) (zz : zk dC dI cB cI cL A s) (htr : l.stackTraces = false) (hnh : c.exceptionTable.isEmpty = true) (hAs : ∀ q, A q → ∀ cell, s.heap[q]? = some cell → cell.vm.isStatics = false)  (N : Nat) (sT : zT) (sR : zR) (sG : zG) (sF : zF) (v2 : Int32) (v3 : Int32) (a : (Int32 ⊕ Nat) × zR × zG × zF) (c9 z9 cells slots : Nat) (hG : g_W_frames_56_b N kr sT sR sG sF v2 v3 = some (a, c9, z9)) (kc : cells + c9 = tc) (kz : slots + z9 = tz) (hRc : tc ≤ R.cells) (hRz : tz ≤ R.slots) (adW adT adT_bytes adR adG adG_places adF adF_parts : Nat) (H : Heap) (locs : List Loc) (hP : va_P (dC, dI) zcl (zwW adW adT adR adG adF adH adD adP ++ zwT adT adT_bytes cB cI cL sT ++ zwR adR adT cB cI cL sR ++ zwG adG adG_places cB cI cL sG ++ zwF adF adF_parts cB cI cL sF) H) (hD : va_D A (zwW adW adT adR adG adF adH adD adP ++ zwT adT adT_bytes cB cI cL sT ++ zwR adR adT cB cI cL sR ++ zwG adG adG_places cB cI cL sG ++ zwF adF adF_parts cB cI cL sF)) (hS : va_S A s.heap H locs) (ls : Array Slot) (hl : lv_has ls 6 [(0, .ref adW), (2, .int v2), (3, .int v3)]) : W p l e R s m args below meth c H locs cells slots (zMQ below (q_W_frames dC dI cB cI cL A adW adT adT_bytes adR adG adF adF_parts adH adD adP sT a) args s tc tz A) (F0 m 56 ls []) := by
  obtain ⟨hx, hb, hr, hml, hown, hts, hlocks, hRf, hRl⟩ := id X
  unfold g_W_frames_56_b at hG
  refine lv_iload_n hx hb d_W_frames_56 rfl (lv_at hl 2 rfl) ?_
  refine lv_ldc (v := (65536 : Int32)) hx hb hown (hts (.constant R_W 135 (65536 : Int32)) zin_W_135) d_W_frames_57 ?_
  refine lv_icmp_ge (tgt := 129) hx hb d_W_frames_59 (by decide) (fun hc => ?_) (fun hc => ?_)
  · have hG := zt hG hc
    exact k_W_frames_129 X hA zz htr hnh hAs N sT sR sG sF _ _ _ _ _ _ _ hG kc kz hRc hRz adW adT adT_bytes adR adG adG_places adF adF_parts _ _ hP hD hS _ (lv_sub hl [0] rfl)
  · have hG := zf hG hc
    refine lv_aload_n hx hb d_W_frames_62 rfl (lv_at hl 0 rfl) ?_
    refine va_get (D := (dC, dI)) (ci := 0) (v := .ref adR) (C := R_W) (T := F_W) (N := 7) hx hb hts zi_W hown zz.1 hP 0 rfl rfl 1 (by decide) (hts (.fieldLink R_W 21 "WireCodec" "reader" "LWireCodec$Reader;") zin_W_21) (fun _ h9 => h9) rfl d_W_frames_63 ?_
    obtain ⟨a_66, hx_66, hG⟩ := zb hG
    have hr_66 := zrunV (p := p) (e := e) (below := below) (meth := meth) (As := []) (rest := []) (st0 := [.ref adR]) (cells := cells) (slots := slots) X zz hP hD hS hA [3] (by decide) rfl (c_R_left l dC dI cB cI cL H.size adR adT sR _ hx_66) zy_R_left zv_R_left (hts (.methodLink R_W 136 y_R_left) zin_W_136) hl rfl rfl d_W_frames_66 (lv_room (Nat.le_of_ble_eq_true rfl)) rfl rfl ⟨Nat.le_trans (Nat.le_of_ble_eq_true rfl) hRf, Nat.le_trans (Nat.le_of_ble_eq_true rfl) hRl⟩ ⟨zle kc hRc, zle kz hRz⟩ 0 2 rfl rfl
    refine zcalli (wr := (zwW adW adT adR adG adF adH adD adP ++ zwT adT adT_bytes cB cI cL sT ++ zwG adG adG_places cB cI cL sG ++ zwF adF adF_parts cB cI cL sF)) hr_66 hP hD hS hA [3] [0, 1, 2, 4, 5, 6, 7] rfl rfl (by decide) (by decide) (fun r_66 u_66 H locs hw_66 hP hD hS => ?_)
    subst hw_66
    have hP : va_P (dC, dI) zcl (zwW adW adT adR adG adF adH adD adP ++ zwT adT adT_bytes cB cI cL sT ++ zwG adG adG_places cB cI cL sG ++ zwF adF adF_parts cB cI cL sF ++ zwR adR adT cB cI cL sR) H := hP
    have hD : va_D A (zwW adW adT adR adG adF adH adD adP ++ zwT adT adT_bytes cB cI cL sT ++ zwG adG adG_places cB cI cL sG ++ zwF adF adF_parts cB cI cL sF ++ zwR adR adT cB cI cL sR) := hD
    have hG : g_W_frames_c66 N kr sT sR sG sF v2 v3 r_66 = some (a, c9, z9) := hG
    unfold g_W_frames_c66 at hG
    refine lv_if_le (tgt := 129) hx hb d_W_frames_69 (by decide) (fun hc => ?_) (fun hc => ?_)
    · have hG := zt hG hc
      exact k_W_frames_129 X hA zz htr hnh hAs N sT sR sG sF _ _ _ _ _ _ _ hG kc kz hRc hRz adW adT adT_bytes adR adG adG_places adF adF_parts _ _ (hP.sub [0, 1, 2, 7, 3, 4, 5, 6] rfl) (hD.sub [0, 1, 2, 7, 3, 4, 5, 6] (by decide) rfl) hS _ (lv_sub hl [0] rfl)
    · have hG := zf hG hc
      refine lv_aload_n hx hb d_W_frames_72 rfl (lv_at hl 0 rfl) ?_
      refine va_get (D := (dC, dI)) (ci := 0) (v := .ref adR) (C := R_W) (T := F_W) (N := 7) hx hb hts zi_W hown zz.1 hP 0 rfl rfl 1 (by decide) (hts (.fieldLink R_W 21 "WireCodec" "reader" "LWireCodec$Reader;") zin_W_21) (fun _ h9 => h9) rfl d_W_frames_73 ?_
      refine va_get (D := (dC, dI)) (ci := 2) (v := .int (zR_place sR)) (C := R_R) (T := F_R) (N := 4) hx hb hts zi_R hown zz.1 hP 7 rfl rfl 1 (by decide) (hts (.fieldLink R_W 139 "WireCodec$Reader" "place" "I") zin_W_139) (fun _ h9 => h9) rfl d_W_frames_76 ?_
      refine lv_istore (lv' := [(4, .int (zR_place sR)), (0, .ref adW), (2, .int v2), (3, .int v3)]) hx hb d_W_frames_79 hl (by decide) rfl (fun ls hl => ?_)
      refine lv_aload_n hx hb d_W_frames_81 rfl (lv_at hl 1 rfl) ?_
      refine va_get (D := (dC, dI)) (ci := 0) (v := .ref adF) (C := R_W) (T := F_W) (N := 7) hx hb hts zi_W hown zz.1 hP 0 rfl rfl 3 (by decide) (hts (.fieldLink R_W 35 "WireCodec" "loadedFrame" "LWireCodec$Frame;") zin_W_35) (fun _ h9 => h9) rfl d_W_frames_82 ?_
      refine lv_aload_n hx hb d_W_frames_85 rfl (lv_at hl 1 rfl) ?_
      refine va_get (D := (dC, dI)) (ci := 0) (v := .ref adR) (C := R_W) (T := F_W) (N := 7) hx hb hts zi_W hown zz.1 hP 0 rfl rfl 1 (by decide) (hts (.fieldLink R_W 21 "WireCodec" "reader" "LWireCodec$Reader;") zin_W_21) (fun _ h9 => h9) rfl d_W_frames_86 ?_
      refine lv_iload_n hx hb d_W_frames_89 rfl (lv_at hl 2 rfl) ?_
      obtain ⟨a_90, hx_90, hG⟩ := zb hG
      have hr_90 := zrunV (p := p) (e := e) (below := below) (meth := meth) (As := [.ref adR, .int v2]) (rest := []) (st0 := [.int v2, .ref adR, .ref adF]) (cells := cells) (slots := slots) X zz hP hD hS hA [1, 2, 7, 5, 6] (by decide) rfl (c_F_parse l dC dI cB cI cL H.size adT adT_bytes adR adF adF_parts N sT sR sF v2 _ hx_90) zy_F_parse zv_F_parse (hts (.methodLink R_W 142 y_F_parse) zin_W_142) hl rfl rfl d_W_frames_90 (lv_room (Nat.le_of_ble_eq_true rfl)) rfl rfl ⟨Nat.le_trans (Nat.le_of_ble_eq_true rfl) hRf, Nat.le_trans (Nat.le_of_ble_eq_true rfl) hRl⟩ ⟨zle kc hRc, zle kz hRz⟩ 3 4 rfl rfl
      refine zcalli (wr := (zwW adW adT adR adG adF adH adD adP ++ zwG adG adG_places cB cI cL sG)) hr_90 hP hD hS hA [1, 2, 7, 5, 6] [0, 3, 4] rfl rfl (by decide) (by decide) (fun r_90 u_90 H locs hw_90 hP hD hS => ?_)
      obtain ⟨sR_90, sF_90⟩ := u_90
      subst hw_90
      have hP : va_P (dC, dI) zcl (zwW adW adT adR adG adF adH adD adP ++ zwG adG adG_places cB cI cL sG ++ zwT adT adT_bytes cB cI cL sT ++ zwR adR adT cB cI cL sR_90 ++ zwF adF adF_parts cB cI cL sF_90) H := hP
      have hD : va_D A (zwW adW adT adR adG adF adH adD adP ++ zwG adG adG_places cB cI cL sG ++ zwT adT adT_bytes cB cI cL sT ++ zwR adR adT cB cI cL sR_90 ++ zwF adF adF_parts cB cI cL sF_90) := hD
      have hG : g_W_frames_c90 N kr sT sR sG v2 v3 sR_90 sF_90 r_90 = some (a, c9, z9) := hG
      unfold g_W_frames_c90 at hG
      refine lv_istore (lv' := [(5, .int r_90), (4, .int (zR_place sR)), (0, .ref adW), (2, .int v2), (3, .int v3)]) hx hb d_W_frames_93 hl (by decide) rfl (fun ls hl => ?_)
      refine lv_iload hx hb d_W_frames_95 (lv_at hl 0 rfl) ?_
      refine lv_if_eq (tgt := 114) hx hb d_W_frames_97 (by decide) (fun hc => ?_) (fun hc => ?_)
      · have hG := zt hG hc
        refine lv_aload_n hx hb d_W_frames_114 rfl (lv_at hl 2 rfl) ?_
        refine va_get (D := (dC, dI)) (ci := 0) (v := .ref adG) (C := R_W) (T := F_W) (N := 7) hx hb hts zi_W hown zz.1 hP 0 rfl rfl 2 (by decide) (hts (.fieldLink R_W 28 "WireCodec" "reading" "LWireCodec$Reading;") zin_W_28) (fun _ h9 => h9) rfl d_W_frames_115 ?_
        refine lv_iload hx hb d_W_frames_118 (lv_at hl 1 rfl) ?_
        obtain ⟨a_120, c_120, z_120, c9, z9, hx_120, hG, kc, kz⟩ := zcbde hG kc kz
        have hr_120 := zrunV (p := p) (e := e) (below := below) (meth := meth) (As := [.int (zR_place sR)]) (rest := []) (st0 := [.int (zR_place sR), .ref adG]) (cells := cells) (slots := slots) X zz hP hD hS hA [1, 2] (by decide) rfl (c_G_keepFrame l dC dI cB cI cL H.size adG adG_places sG (zR_place sR) _ _ _ hx_120) zy_G_keepFrame zv_G_keepFrame (hts (.methodLink R_W 149 y_G_keepFrame) zin_W_149) hl rfl rfl d_W_frames_120 (lv_room (Nat.le_of_ble_eq_true rfl)) rfl rfl ⟨Nat.le_trans (Nat.le_of_ble_eq_true rfl) hRf, Nat.le_trans (Nat.le_of_ble_eq_true rfl) hRl⟩ ⟨zle kc hRc, zle kz hRz⟩ 0 3 rfl rfl
        refine zcallv (wr := (zwW adW adT adR adG adF adH adD adP ++ zwT adT adT_bytes cB cI cL sT ++ zwR adR adT cB cI cL sR_90 ++ zwF adF adF_parts cB cI cL sF_90)) hr_120 hP hD hS hA [1, 2] [0, 3, 4, 5, 6, 7] rfl rfl (by decide) (by decide) (fun u_120 H locs hw_120 hP hD hS => ?_)
        obtain ⟨sG_120, qG_places_120⟩ := u_120
        subst hw_120
        have hP : va_P (dC, dI) zcl (zwW adW adT adR adG adF adH adD adP ++ zwT adT adT_bytes cB cI cL sT ++ zwR adR adT cB cI cL sR_90 ++ zwF adF adF_parts cB cI cL sF_90 ++ zwG adG qG_places_120 cB cI cL sG_120) H := hP
        have hD : va_D A (zwW adW adT adR adG adF adH adD adP ++ zwT adT adT_bytes cB cI cL sT ++ zwR adR adT cB cI cL sR_90 ++ zwF adF adF_parts cB cI cL sF_90 ++ zwG adG qG_places_120 cB cI cL sG_120) := hD
        have hG : g_W_frames_c120 kr sT v2 v3 sR_90 sF_90 sG_120 = some (a, c9, z9) := hG
        unfold g_W_frames_c120 at hG
        generalize cells + c_120 = cells at kc ⊢
        generalize slots + z_120 = slots at kz ⊢
        refine lv_iinc (v := v3 + 1) (lv' := [(3, .int (v3 + 1)), (5, .int r_90), (4, .int (zR_place sR)), (0, .ref adW), (2, .int v2)]) hx hb d_W_frames_123 hl (k := 4) rfl rfl (by decide) rfl (fun ls hl => ?_)
        refine lv_goto (tgt := 56) hx hb d_W_frames_126 (by decide) ?_
        exact hrec sT sR_90 sG_120 sF_90 v2 (v3 + 1) _ _ _ _ _ hG kc kz adW adT adT_bytes adR adG qG_places_120 adF adF_parts _ _ (hP.sub [0, 1, 2, 3, 6, 7, 4, 5] rfl) (hD.sub [0, 1, 2, 3, 6, 7, 4, 5] (by decide) rfl) hS _ (lv_sub hl [3, 4, 0] rfl)
      · have hG := zf hG hc
        refine lv_aload_n hx hb d_W_frames_100 rfl (lv_at hl 2 rfl) ?_
        refine va_get (D := (dC, dI)) (ci := 0) (v := .ref adG) (C := R_W) (T := F_W) (N := 7) hx hb hts zi_W hown zz.1 hP 0 rfl rfl 2 (by decide) (hts (.fieldLink R_W 28 "WireCodec" "reading" "LWireCodec$Reading;") zin_W_28) (fun _ h9 => h9) rfl d_W_frames_101 ?_
        refine lv_iload hx hb d_W_frames_104 (lv_at hl 0 rfl) ?_
        refine lv_iload hx hb d_W_frames_106 (lv_at hl 1 rfl) ?_
        obtain ⟨a_108, hx_108, hG⟩ := zb hG
        have hr_108 := zrunV (p := p) (e := e) (below := below) (meth := meth) (As := [.int r_90, .int (zR_place sR)]) (rest := []) (st0 := [.int (zR_place sR), .int r_90, .ref adG]) (cells := cells) (slots := slots) X zz hP hD hS hA [1, 2] (by decide) rfl (c_G_fail l dC dI cB cI cL H.size adG adG_places sG r_90 (zR_place sR) _ hx_108) zy_G_fail zv_G_fail (hts (.methodLink R_W 146 y_G_fail) zin_W_146) hl rfl rfl d_W_frames_108 (lv_room (Nat.le_of_ble_eq_true rfl)) rfl rfl ⟨Nat.le_trans (Nat.le_of_ble_eq_true rfl) hRf, Nat.le_trans (Nat.le_of_ble_eq_true rfl) hRl⟩ ⟨zle kc hRc, zle kz hRz⟩ 0 3 rfl rfl
        refine zcallv (wr := (zwW adW adT adR adG adF adH adD adP ++ zwT adT adT_bytes cB cI cL sT ++ zwR adR adT cB cI cL sR_90 ++ zwF adF adF_parts cB cI cL sF_90)) hr_108 hP hD hS hA [1, 2] [0, 3, 4, 5, 6, 7] rfl rfl (by decide) (by decide) (fun u_108 H locs hw_108 hP hD hS => ?_)
        obtain ⟨sG_108, rfl⟩ : ∃ z, z = u_108 := ⟨_, rfl⟩
        subst hw_108
        have hP : va_P (dC, dI) zcl (zwW adW adT adR adG adF adH adD adP ++ zwT adT adT_bytes cB cI cL sT ++ zwR adR adT cB cI cL sR_90 ++ zwF adF adF_parts cB cI cL sF_90 ++ zwG adG adG_places cB cI cL sG_108) H := hP
        have hD : va_D A (zwW adW adT adR adG adF adH adD adP ++ zwT adT adT_bytes cB cI cL sT ++ zwR adR adT cB cI cL sR_90 ++ zwF adF adF_parts cB cI cL sF_90 ++ zwG adG adG_places cB cI cL sG_108) := hD
        have hG : g_W_frames_c108 N sT sR_90 sF_90 sG_108 = some (a, c9, z9) := hG
        unfold g_W_frames_c108 at hG
        refine lv_goto (tgt := 129) hx hb d_W_frames_111 (by decide) ?_
        exact k_W_frames_129 X hA zz htr hnh hAs N sT sR_90 sG_108 sF_90 _ _ _ _ _ _ _ hG kc kz hRc hRz adW adT adT_bytes adR adG adG_places adF adF_parts _ _ (hP.sub [0, 1, 2, 3, 6, 7, 4, 5] rfl) (hD.sub [0, 1, 2, 3, 6, 7, 4, 5] (by decide) rfl) hS _ (lv_sub hl [2] rfl)
theorem k_W_frames_56 {p : Program} {l : Launch} {e : Env} {R : Room} {s : State} {m : MethodId} {args : Array Value} {below : List Frame} {meth : Method} {c : Code} {dC : Nat → ClassId} {dI : Nat → Nat → Nat} {cB cI cL : ClassId} {A : Nat → Prop} {adH adD adP : Nat} (X : zx p s m args meth c R R_W b_W_frames (some .int) 6 7 145) (hA : ∀ q, s.heap.size ≤ q → A q) (zz : zk dC dI cB cI cL A s) (htr : l.stackTraces = false) (hnh : c.exceptionTable.isEmpty = true) (hAs : ∀ q, A q → ∀ cell, s.heap[q]? = some cell → cell.vm.isStatics = false)  (N : Nat) (tc tz : Nat) (hRc : tc ≤ R.cells) (hRz : tz ≤ R.slots) : ∀ (k : Nat) (sT : zT) (sR : zR) (sG : zG) (sF : zF) (v2 : Int32) (v3 : Int32) (a : (Int32 ⊕ Nat) × zR × zG × zF) (c9 z9 cells slots : Nat) (hG : g_W_frames_56 N k sT sR sG sF v2 v3 = some (a, c9, z9)) (kc : cells + c9 = tc) (kz : slots + z9 = tz) (adW adT adT_bytes adR adG adG_places adF adF_parts : Nat) (H : Heap) (locs : List Loc) (hP : va_P (dC, dI) zcl (zwW adW adT adR adG adF adH adD adP ++ zwT adT adT_bytes cB cI cL sT ++ zwR adR adT cB cI cL sR ++ zwG adG adG_places cB cI cL sG ++ zwF adF adF_parts cB cI cL sF) H) (hD : va_D A (zwW adW adT adR adG adF adH adD adP ++ zwT adT adT_bytes cB cI cL sT ++ zwR adR adT cB cI cL sR ++ zwG adG adG_places cB cI cL sG ++ zwF adF adF_parts cB cI cL sF)) (hS : va_S A s.heap H locs) (ls : Array Slot) (hl : lv_has ls 6 [(0, .ref adW), (2, .int v2), (3, .int v3)]), W p l e R s m args below meth c H locs cells slots (zMQ below (q_W_frames dC dI cB cI cL A adW adT adT_bytes adR adG adF adF_parts adH adD adP sT a) args s tc tz A) (F0 m 56 ls []) := by
  intro k
  induction k with
  | zero => intro sT sR sG sF v2 v3 a c9 z9 cells slots hG; exact absurd hG (by unfold g_W_frames_56; simp)
  | succ k ih => intro sT sR sG sF v2 v3 a c9 z9 cells slots hG kc kz adW adT adT_bytes adR adG adG_places adF adF_parts H locs hP hD hS ls hl; exact k_W_frames_56_b tc tz _ ih X hA zz htr hnh hAs N sT sR sG sF v2 v3 a c9 z9 cells slots hG kc kz hRc hRz adW adT adT_bytes adR adG adG_places adF adF_parts H locs hP hD hS ls hl
set_option maxRecDepth 100000 in
set_option maxHeartbeats 4000000 in
theorem k_W_frames_0 {p : Program} {l : Launch} {e : Env} {R : Room} {s : State} {m : MethodId} {args : Array Value} {below : List Frame} {meth : Method} {c : Code} {dC : Nat → ClassId} {dI : Nat → Nat → Nat} {cB cI cL : ClassId} {A : Nat → Prop} {adH adD adP : Nat} (X : zx p s m args meth c R R_W b_W_frames (some .int) 6 7 145) (hA : ∀ q, s.heap.size ≤ q → A q) (zz : zk dC dI cB cI cL A s) (htr : l.stackTraces = false) (hnh : c.exceptionTable.isEmpty = true) (hAs : ∀ q, A q → ∀ cell, s.heap[q]? = some cell → cell.vm.isStatics = false)  (N : Nat) (sT : zT) (sR : zR) (sG : zG) (sF : zF) (v1 : Int32) (v2 : Int32) (a : (Int32 ⊕ Nat) × zR × zG × zF) (c9 z9 cells slots tc tz : Nat) (hG : g_W_frames N sT sR sG sF v1 v2 = some (a, c9, z9)) (kc : cells + c9 = tc) (kz : slots + z9 = tz) (hRc : tc ≤ R.cells) (hRz : tz ≤ R.slots) (adW adT adT_bytes adR adG adG_places adF adF_parts : Nat) (H : Heap) (locs : List Loc) (hP : va_P (dC, dI) zcl (zwW adW adT adR adG adF adH adD adP ++ zwT adT adT_bytes cB cI cL sT ++ zwR adR adT cB cI cL sR ++ zwG adG adG_places cB cI cL sG ++ zwF adF adF_parts cB cI cL sF) H) (hD : va_D A (zwW adW adT adR adG adF adH adD adP ++ zwT adT adT_bytes cB cI cL sT ++ zwR adR adT cB cI cL sR ++ zwG adG adG_places cB cI cL sG ++ zwF adF adF_parts cB cI cL sF)) (hS : va_S A s.heap H locs) (ls : Array Slot) (hl : lv_has ls 6 [(0, .ref adW), (1, .int v1), (2, .int v2)]) : W p l e R s m args below meth c H locs cells slots (zMQ below (q_W_frames dC dI cB cI cL A adW adT adT_bytes adR adG adF adF_parts adH adD adP sT a) args s tc tz A) (F0 m 0 ls []) := by
  obtain ⟨hx, hb, hr, hml, hown, hts, hlocks, hRf, hRl⟩ := id X
  unfold g_W_frames at hG
  refine lv_aload_n hx hb d_W_frames_0 rfl (lv_at hl 0 rfl) ?_
  refine lv_iload_n hx hb d_W_frames_1 rfl (lv_at hl 1 rfl) ?_
  obtain ⟨a_2, hx_2, hG⟩ := zb hG
  obtain ⟨c9, z9, hG, kc, kz⟩ := zcae hG kc kz
  have hr_2 := zrunXV (p := p) (e := e) (below := below) (meth := meth) (As := [.int v1]) (rest := []) (st0 := [.int v1, .ref adW]) (cells := cells) (slots := slots) X zz hP hD hS hA [0, 1, 2] (by decide) rfl (c_W_requirePlace l dC dI cB cI cL H.size adW adT adT_bytes adR adG adF adH adD adP sT v1 _ hx_2 htr) zy_W_requirePlace zv_W_requirePlace (hts (.methodLink R_W 127 y_W_requirePlace) zin_W_127) hl rfl rfl d_W_frames_2 (lv_room (Nat.le_of_ble_eq_true rfl)) rfl rfl ⟨Nat.le_trans (Nat.le_of_ble_eq_true rfl) hRf, Nat.le_trans (Nat.le_of_ble_eq_true rfl) hRl⟩ ⟨zle kc hRc, zle kz hRz⟩ 0 0 rfl rfl
  refine zcallX (wr := (zwR adR adT cB cI cL sR ++ zwG adG adG_places cB cI cL sG ++ zwF adF adF_parts cB cI cL sF)) hr_2 hP hD hS hA [0, 1, 2] [3, 4, 5, 6, 7] rfl rfl (by decide) (by decide) hnh hlocks (Nat.le.intro kc) (Nat.le.intro kz) (fun k_2 u_2 t9 q9 hw_2 hP hD hF9 ht9 => ?_) (fun r_2 u_2 H locs hw_2 hP hD hS => ?_)
  · subst hw_2
    have hP : va_P (dC, dI) zcl (zwR adR adT cB cI cL sR ++ zwG adG adG_places cB cI cL sG ++ zwF adF adF_parts cB cI cL sF ++ zwW adW adT adR adG adF adH adD adP ++ zwT adT adT_bytes cB cI cL sT) t9.heap := hP
    have hD : va_D A (zwR adR adT cB cI cL sR ++ zwG adG adG_places cB cI cL sG ++ zwF adF adF_parts cB cI cL sF ++ zwW adW adT adR adG adF adH adD adP ++ zwT adT adT_bytes cB cI cL sT) := hD
    obtain ⟨hG, e91, e92⟩ := zc0 (show some _ = some _ from hG)
    exact ⟨(sR, sG, sF, adG_places), (hP.sub [5, 6, 7, 0, 1, 2, 3, 4] rfl), (hD.sub [5, 6, 7, 0, 1, 2, 3, 4] (by decide) rfl), hF9, Or.inr ⟨k_2, q9, rfl, hG, ht9⟩⟩
  subst hw_2
  have hP : va_P (dC, dI) zcl (zwR adR adT cB cI cL sR ++ zwG adG adG_places cB cI cL sG ++ zwF adF adF_parts cB cI cL sF ++ zwW adW adT adR adG adF adH adD adP ++ zwT adT adT_bytes cB cI cL sT) H := hP
  have hD : va_D A (zwR adR adT cB cI cL sR ++ zwG adG adG_places cB cI cL sG ++ zwF adF adF_parts cB cI cL sF ++ zwW adW adT adR adG adF adH adD adP ++ zwT adT adT_bytes cB cI cL sT) := hD
  have hG : g_W_frames_c2 N sT sR sG sF v1 v2 = some (a, c9, z9) := hG
  unfold g_W_frames_c2 at hG
  generalize cells + 1 = cells at kc ⊢
  generalize slots + 6 = slots at kz ⊢
  refine lv_iload_n hx hb d_W_frames_5 rfl (lv_at hl 2 rfl) ?_
  refine lv_if_lt (tgt := 14) hx hb d_W_frames_6 (by decide) (fun hc => ?_) (fun hc => ?_)
  · have hG := zt hG hc
    exact k_W_frames_14 X hA zz htr hnh hAs N sT sR sG sF _ _ _ _ _ _ _ hG kc kz hRc hRz adW adT adT_bytes adR adG adG_places adF adF_parts _ _ (hP.sub [5, 6, 7, 0, 1, 2, 3, 4] rfl) (hD.sub [5, 6, 7, 0, 1, 2, 3, 4] (by decide) rfl) hS _ (lv_sub hl [] rfl)
  · have hG := zf hG hc
    refine lv_iload_n hx hb d_W_frames_9 rfl (lv_at hl 2 rfl) ?_
    refine lv_iconst (v := (2 : Int32)) hx hb d_W_frames_10 (by decide) ?_
    refine lv_icmp_le (tgt := 24) hx hb d_W_frames_11 (by decide) (fun hc => ?_) (fun hc => ?_)
    · have hG := zt hG hc
      refine lv_aload_n hx hb d_W_frames_24 rfl (lv_at hl 0 rfl) ?_
      refine va_get (D := (dC, dI)) (ci := 0) (v := .ref adG) (C := R_W) (T := F_W) (N := 7) hx hb hts zi_W hown zz.1 hP 5 rfl rfl 2 (by decide) (hts (.fieldLink R_W 28 "WireCodec" "reading" "LWireCodec$Reading;") zin_W_28) (fun _ h9 => h9) rfl d_W_frames_25 ?_
      refine lv_aload_n hx hb d_W_frames_28 rfl (lv_at hl 0 rfl) ?_
      refine va_get (D := (dC, dI)) (ci := 0) (v := .ref adT) (C := R_W) (T := F_W) (N := 7) hx hb hts zi_W hown zz.1 hP 5 rfl rfl 0 (by decide) (hts (.fieldLink R_W 12 "WireCodec" "tape" "LWireCodec$Tape;") zin_W_12) (fun _ h9 => h9) rfl d_W_frames_29 ?_
      refine va_get (D := (dC, dI)) (ci := 1) (v := .int (zT_length sT)) (C := R_T) (T := F_T) (N := 3) hx hb hts zi_T hown zz.1 hP 6 rfl rfl 2 (by decide) (hts (.fieldLink R_W 95 "WireCodec$Tape" "length" "I") zin_W_95) (fun _ h9 => h9) rfl d_W_frames_32 ?_
      refine lv_iconst (v := (0 : Int32)) hx hb d_W_frames_35 (by decide) ?_
      obtain ⟨a_36, hx_36, hG⟩ := zb hG
      have hr_36 := zrunV (p := p) (e := e) (below := below) (meth := meth) (As := [.int (zT_length sT), .int (0 : Int32)]) (rest := []) (st0 := [.int (0 : Int32), .int (zT_length sT), .ref adG]) (cells := cells) (slots := slots) X zz hP hD hS hA [1, 2] (by decide) rfl (c_G_restart l dC dI cB cI cL H.size adG adG_places sG (zT_length sT) (0 : Int32) _ hx_36) zy_G_restart zv_G_restart (hts (.methodLink R_W 99 y_G_restart) zin_W_99) hl rfl rfl d_W_frames_36 (lv_room (Nat.le_of_ble_eq_true rfl)) rfl rfl ⟨Nat.le_trans (Nat.le_of_ble_eq_true rfl) hRf, Nat.le_trans (Nat.le_of_ble_eq_true rfl) hRl⟩ ⟨zle kc hRc, zle kz hRz⟩ 0 3 rfl rfl
      refine zcallv (wr := (zwR adR adT cB cI cL sR ++ zwF adF adF_parts cB cI cL sF ++ zwW adW adT adR adG adF adH adD adP ++ zwT adT adT_bytes cB cI cL sT)) hr_36 hP hD hS hA [1, 2] [0, 3, 4, 5, 6, 7] rfl rfl (by decide) (by decide) (fun u_36 H locs hw_36 hP hD hS => ?_)
      obtain ⟨sG_36, rfl⟩ : ∃ z, z = u_36 := ⟨_, rfl⟩
      subst hw_36
      have hP : va_P (dC, dI) zcl (zwR adR adT cB cI cL sR ++ zwF adF adF_parts cB cI cL sF ++ zwW adW adT adR adG adF adH adD adP ++ zwT adT adT_bytes cB cI cL sT ++ zwG adG adG_places cB cI cL sG_36) H := hP
      have hD : va_D A (zwR adR adT cB cI cL sR ++ zwF adF adF_parts cB cI cL sF ++ zwW adW adT adR adG adF adH adD adP ++ zwT adT adT_bytes cB cI cL sT ++ zwG adG adG_places cB cI cL sG_36) := hD
      have hG : g_W_frames_c36 N sT sR sF v1 v2 sG_36 = some (a, c9, z9) := hG
      unfold g_W_frames_c36 at hG
      refine lv_aload_n hx hb d_W_frames_39 rfl (lv_at hl 0 rfl) ?_
      refine va_get (D := (dC, dI)) (ci := 0) (v := .ref adR) (C := R_W) (T := F_W) (N := 7) hx hb hts zi_W hown zz.1 hP 3 rfl rfl 1 (by decide) (hts (.fieldLink R_W 21 "WireCodec" "reader" "LWireCodec$Reader;") zin_W_21) (fun _ h9 => h9) rfl d_W_frames_40 ?_
      refine lv_iload_n hx hb d_W_frames_43 rfl (lv_at hl 1 rfl) ?_
      refine lv_aload_n hx hb d_W_frames_44 rfl (lv_at hl 0 rfl) ?_
      refine va_get (D := (dC, dI)) (ci := 0) (v := .ref adG) (C := R_W) (T := F_W) (N := 7) hx hb hts zi_W hown zz.1 hP 3 rfl rfl 2 (by decide) (hts (.fieldLink R_W 28 "WireCodec" "reading" "LWireCodec$Reading;") zin_W_28) (fun _ h9 => h9) rfl d_W_frames_45 ?_
      refine va_get (D := (dC, dI)) (ci := 3) (v := .int (zG_limit sG_36)) (C := R_G) (T := F_G) (N := 7) hx hb hts zi_G hown zz.1 hP 6 rfl rfl 3 (by decide) (hts (.fieldLink R_W 132 "WireCodec$Reading" "limit" "I") zin_W_132) (fun _ h9 => h9) rfl d_W_frames_48 ?_
      obtain ⟨a_51, hx_51, hG⟩ := zb hG
      have hr_51 := zrunV (p := p) (e := e) (below := below) (meth := meth) (As := [.int v1, .int (zG_limit sG_36)]) (rest := []) (st0 := [.int (zG_limit sG_36), .int v1, .ref adR]) (cells := cells) (slots := slots) X zz hP hD hS hA [0] (by decide) rfl (c_R_start l dC dI cB cI cL H.size adR adT sR v1 (zG_limit sG_36) _ hx_51) zy_R_start zv_R_start (hts (.methodLink R_W 114 y_R_start) zin_W_114) hl rfl rfl d_W_frames_51 (lv_room (Nat.le_of_ble_eq_true rfl)) rfl rfl ⟨Nat.le_trans (Nat.le_of_ble_eq_true rfl) hRf, Nat.le_trans (Nat.le_of_ble_eq_true rfl) hRl⟩ ⟨zle kc hRc, zle kz hRz⟩ 0 2 rfl rfl
      refine zcallv (wr := (zwF adF adF_parts cB cI cL sF ++ zwW adW adT adR adG adF adH adD adP ++ zwT adT adT_bytes cB cI cL sT ++ zwG adG adG_places cB cI cL sG_36)) hr_51 hP hD hS hA [0] [1, 2, 3, 4, 5, 6, 7] rfl rfl (by decide) (by decide) (fun u_51 H locs hw_51 hP hD hS => ?_)
      obtain ⟨sR_51, rfl⟩ : ∃ z, z = u_51 := ⟨_, rfl⟩
      subst hw_51
      have hP : va_P (dC, dI) zcl (zwF adF adF_parts cB cI cL sF ++ zwW adW adT adR adG adF adH adD adP ++ zwT adT adT_bytes cB cI cL sT ++ zwG adG adG_places cB cI cL sG_36 ++ zwR adR adT cB cI cL sR_51) H := hP
      have hD : va_D A (zwF adF adF_parts cB cI cL sF ++ zwW adW adT adR adG adF adH adD adP ++ zwT adT adT_bytes cB cI cL sT ++ zwG adG adG_places cB cI cL sG_36 ++ zwR adR adT cB cI cL sR_51) := hD
      have hG : g_W_frames_c51 N sT sF v2 sG_36 sR_51 = some (a, c9, z9) := hG
      unfold g_W_frames_c51 at hG
      refine lv_iconst (v := (0 : Int32)) hx hb d_W_frames_54 (by decide) ?_
      refine lv_istore_n (lv' := [(3, .int (0 : Int32)), (0, .ref adW), (1, .int v1), (2, .int v2)]) hx hb d_W_frames_55 rfl hl (by decide) rfl (fun ls hl => ?_)
      exact k_W_frames_56 X hA zz htr hnh hAs N _ _ hRc hRz N sT sR_51 sG_36 sF v2 (0 : Int32) _ _ _ _ _ hG kc kz adW adT adT_bytes adR adG adG_places adF adF_parts _ _ (hP.sub [2, 3, 4, 7, 5, 6, 0, 1] rfl) (hD.sub [2, 3, 4, 7, 5, 6, 0, 1] (by decide) rfl) hS _ (lv_sub hl [1, 3, 0] rfl)
    · have hG := zf hG hc
      exact k_W_frames_14 X hA zz htr hnh hAs N sT sR sG sF _ _ _ _ _ _ _ hG kc kz hRc hRz adW adT adT_bytes adR adG adG_places adF adF_parts _ _ (hP.sub [5, 6, 7, 0, 1, 2, 3, 4] rfl) (hD.sub [5, 6, 7, 0, 1, 2, 3, 4] (by decide) rfl) hS _ (lv_sub hl [] rfl)
set_option maxRecDepth 100000 in
set_option maxHeartbeats 4000000 in
theorem c_W_frames (l : Launch) (dC : Nat → ClassId) (dI : Nat → Nat → Nat) (cB cI cL : ClassId) (sz : Nat) (adW adT adT_bytes adR adG adG_places adF adF_parts adH adD adP : Nat) (N : Nat) (sT : zT) (sR : zR) (sG : zG) (sF : zF) (v1 : Int32) (v2 : Int32) (a : (Int32 ⊕ Nat) × zR × zG × zF) (c9 z9 : Nat) (hG : g_W_frames N sT sR sG sF v1 v2 = some (a, c9, z9)) (htr : l.stackTraces = false) : zMet l y_W_frames (zw y_W_frames b_W_frames 6 (some .int)) ({ frames := 7, cells := c9, slots := z9, locals := 145 }) (va_Pc [.ref adW, .int v1, .int v2] (zpre dC dI cB cI cL sz (zwW adW adT adR adG adF adH adD adP ++ zwT adT adT_bytes cB cI cL sT ++ zwR adR adT cB cI cL sR ++ zwG adG adG_places cB cI cL sG ++ zwF adF adF_parts cB cI cL sF))) (q_W_frames dC dI cB cI cL (va_A (zwW adW adT adR adG adF adH adD adP ++ zwT adT adT_bytes cB cI cL sT ++ zwR adR adT cB cI cL sR ++ zwG adG adG_places cB cI cL sG ++ zwF adF adF_parts cB cI cL sF) sz) adW adT adT_bytes adR adG adF adF_parts adH adD adP sT a) c9 z9 (va_A (zwW adW adT adR adG adF adH adD adP ++ zwT adT adT_bytes cB cI cL sT ++ zwR adR adT cB cI cL sR ++ zwG adG adG_places cB cI cL sG ++ zwF adF adF_parts cB cI cL sF) sz) := by
  refine zMet.ofW (cc := b_W_frames) (maxL := 6) (ret := (some .int)) (by decide) rfl ?_
  intro p e s m args below meth c s₁ B hml hv
  obtain ⟨rfl, hsz, hP, zz, hD0⟩ := hv
  subst hsz
  have X := zx_of (F := 7) (L := 145) B hml (Nat.le_refl _) (Nat.le_refl _)
  have hD := hD0.self (sz := s.heap.size)
  have hA : ∀ q : Nat, s.heap.size ≤ q → va_A (zwW adW adT adR adG adF adH adD adP ++ zwT adT adT_bytes cB cI cL sT ++ zwR adR adT cB cI cL sR ++ zwG adG adG_places cB cI cL sG ++ zwF adF adF_parts cB cI cL sF) s.heap.size q := fun q h => Or.inr h
  have hl := lv_entry ([.ref adW, .int v1, .int v2]) (n := 6) (Nat.le_of_ble_eq_true rfl)
  rw [lg_entry_eq]
  generalize (lg_sl ([.ref adW, .int v1, .int v2]) ++ List.replicate (6 - (lg_sl ([.ref adW, .int v1, .int v2])).length) Slot.unset).toArray = ls at hl ⊢
  have hnh := BodyLoose.noHandlers B (atoms_spec (ws := zw y_W_frames b_W_frames 6 (some .int)) B.pre _ List.mem_cons_self)
  have hAs := zstatics hP
  exact k_W_frames_0 X hA zz htr hnh hAs N sT sR sG sF v1 v2 a c9 z9 0 0 c9 z9 hG (Nat.zero_add _) (Nat.zero_add _) (Nat.le_refl _) (Nat.le_refl _) adW adT adT_bytes adR adG adG_places adF adF_parts _ _ hP hD va_S.rf ls hl

theorem zy_D_isHeader : zy y_D_isHeader b_D_isHeader 7 (some .boolean) 5 := ⟨zmem 847 (by decide +kernel) (by decide +kernel), zmem 68 (by decide +kernel) (by decide +kernel), by decide +kernel⟩
theorem zv_D_isHeader : Cond.instanceMethod y_D_isHeader ∈ ztb ∧ Cond.selects y_D_isHeader.cls y_D_isHeader y_D_isHeader ∈ ztb := ⟨zmem 845 (by decide +kernel) (by decide +kernel), zmem 846 (by decide +kernel) (by decide +kernel)⟩
theorem d_D_isHeader_0 : decode b_D_isHeader 0 = .ok (.iload_n 1, 1) := by decide +kernel
theorem d_D_isHeader_1 : decode b_D_isHeader 1 = .ok (.iconst 4, 1) := by decide +kernel
theorem d_D_isHeader_2 : decode b_D_isHeader 2 = .ok (.if_icmp .ne 7, 3) := by decide +kernel
theorem d_D_isHeader_5 : decode b_D_isHeader 5 = .ok (.iconst 1, 1) := by decide +kernel
theorem d_D_isHeader_6 : decode b_D_isHeader 6 = .ok (.goto 4, 3) := by decide +kernel
theorem d_D_isHeader_9 : decode b_D_isHeader 9 = .ok (.iconst 0, 1) := by decide +kernel
theorem d_D_isHeader_10 : decode b_D_isHeader 10 = .ok (.istore 6, 2) := by decide +kernel
theorem d_D_isHeader_12 : decode b_D_isHeader 12 = .ok (.iload_n 1, 1) := by decide +kernel
theorem d_D_isHeader_13 : decode b_D_isHeader 13 = .ok (.ifCond .eq 15, 3) := by decide +kernel
theorem d_D_isHeader_16 : decode b_D_isHeader 16 = .ok (.iload_n 1, 1) := by decide +kernel
theorem d_D_isHeader_17 : decode b_D_isHeader 17 = .ok (.iconst 2, 1) := by decide +kernel
theorem d_D_isHeader_18 : decode b_D_isHeader 18 = .ok (.if_icmp .eq 10, 3) := by decide +kernel
theorem d_D_isHeader_21 : decode b_D_isHeader 21 = .ok (.iload 6, 2) := by decide +kernel
theorem d_D_isHeader_23 : decode b_D_isHeader 23 = .ok (.ifCond .ne 5, 3) := by decide +kernel
theorem d_D_isHeader_26 : decode b_D_isHeader 26 = .ok (.iconst 0, 1) := by decide +kernel
theorem d_D_isHeader_27 : decode b_D_isHeader 27 = .ok (.ireturn, 1) := by decide +kernel
theorem d_D_isHeader_28 : decode b_D_isHeader 28 = .ok (.iload_n 2, 1) := by decide +kernel
theorem d_D_isHeader_29 : decode b_D_isHeader 29 = .ok (.ifCond .lt 19, 3) := by decide +kernel
theorem d_D_isHeader_32 : decode b_D_isHeader 32 = .ok (.iload_n 2, 1) := by decide +kernel
theorem d_D_isHeader_33 : decode b_D_isHeader 33 = .ok (.iload 6, 2) := by decide +kernel
theorem d_D_isHeader_35 : decode b_D_isHeader 35 = .ok (.ifCond .eq 8, 3) := by decide +kernel
theorem d_D_isHeader_38 : decode b_D_isHeader 38 = .ok (.bipush 63, 2) := by decide +kernel
theorem d_D_isHeader_40 : decode b_D_isHeader 40 = .ok (.goto 5, 3) := by decide +kernel
theorem d_D_isHeader_43 : decode b_D_isHeader 43 = .ok (.bipush 15, 2) := by decide +kernel
theorem d_D_isHeader_45 : decode b_D_isHeader 45 = .ok (.if_icmp .le 5, 3) := by decide +kernel
theorem d_D_isHeader_48 : decode b_D_isHeader 48 = .ok (.iconst 0, 1) := by decide +kernel
theorem d_D_isHeader_49 : decode b_D_isHeader 49 = .ok (.ireturn, 1) := by decide +kernel
theorem d_D_isHeader_50 : decode b_D_isHeader 50 = .ok (.iload_n 3, 1) := by decide +kernel
theorem d_D_isHeader_51 : decode b_D_isHeader 51 = .ok (.ifCond .lt 30, 3) := by decide +kernel
theorem d_D_isHeader_54 : decode b_D_isHeader 54 = .ok (.iload_n 3, 1) := by decide +kernel
theorem d_D_isHeader_55 : decode b_D_isHeader 55 = .ok (.bipush 20, 2) := by decide +kernel
theorem d_D_isHeader_57 : decode b_D_isHeader 57 = .ok (.if_icmp .gt 24, 3) := by decide +kernel
theorem d_D_isHeader_60 : decode b_D_isHeader 60 = .ok (.iload 4, 2) := by decide +kernel
theorem d_D_isHeader_62 : decode b_D_isHeader 62 = .ok (.ifCond .lt 19, 3) := by decide +kernel
theorem d_D_isHeader_65 : decode b_D_isHeader 65 = .ok (.iload 4, 2) := by decide +kernel
theorem d_D_isHeader_67 : decode b_D_isHeader 67 = .ok (.iload 6, 2) := by decide +kernel
theorem d_D_isHeader_69 : decode b_D_isHeader 69 = .ok (.ifCond .eq 7, 3) := by decide +kernel
theorem d_D_isHeader_72 : decode b_D_isHeader 72 = .ok (.iconst 0, 1) := by decide +kernel
theorem d_D_isHeader_73 : decode b_D_isHeader 73 = .ok (.goto 5, 3) := by decide +kernel
theorem d_D_isHeader_76 : decode b_D_isHeader 76 = .ok (.bipush 20, 2) := by decide +kernel
theorem d_D_isHeader_78 : decode b_D_isHeader 78 = .ok (.if_icmp .le 5, 3) := by decide +kernel
theorem d_D_isHeader_81 : decode b_D_isHeader 81 = .ok (.iconst 0, 1) := by decide +kernel
theorem d_D_isHeader_82 : decode b_D_isHeader 82 = .ok (.ireturn, 1) := by decide +kernel
theorem d_D_isHeader_83 : decode b_D_isHeader 83 = .ok (.aload_n 0, 1) := by decide +kernel
theorem d_D_isHeader_84 : decode b_D_isHeader 84 = .ok (.getfield 31, 3) := by decide +kernel
theorem d_D_isHeader_87 : decode b_D_isHeader 87 = .ok (.iload_n 3, 1) := by decide +kernel
theorem d_D_isHeader_88 : decode b_D_isHeader 88 = .ok (.iload 4, 2) := by decide +kernel
theorem d_D_isHeader_90 : decode b_D_isHeader 90 = .ok (.iadd, 1) := by decide +kernel
theorem d_D_isHeader_91 : decode b_D_isHeader 91 = .ok (.if_icmp .lt 19, 3) := by decide +kernel
theorem d_D_isHeader_94 : decode b_D_isHeader 94 = .ok (.iload_n 1, 1) := by decide +kernel
theorem d_D_isHeader_95 : decode b_D_isHeader 95 = .ok (.iconst 2, 1) := by decide +kernel
theorem d_D_isHeader_96 : decode b_D_isHeader 96 = .ok (.if_icmp .ne 16, 3) := by decide +kernel
theorem d_D_isHeader_99 : decode b_D_isHeader 99 = .ok (.aload_n 0, 1) := by decide +kernel
theorem d_D_isHeader_100 : decode b_D_isHeader 100 = .ok (.getfield 31, 3) := by decide +kernel
theorem d_D_isHeader_103 : decode b_D_isHeader 103 = .ok (.iload_n 3, 1) := by decide +kernel
theorem d_D_isHeader_104 : decode b_D_isHeader 104 = .ok (.iload 4, 2) := by decide +kernel
theorem d_D_isHeader_106 : decode b_D_isHeader 106 = .ok (.iadd, 1) := by decide +kernel
theorem d_D_isHeader_107 : decode b_D_isHeader 107 = .ok (.if_icmp .le 5, 3) := by decide +kernel
theorem d_D_isHeader_110 : decode b_D_isHeader 110 = .ok (.iconst 0, 1) := by decide +kernel
theorem d_D_isHeader_111 : decode b_D_isHeader 111 = .ok (.ireturn, 1) := by decide +kernel
theorem d_D_isHeader_112 : decode b_D_isHeader 112 = .ok (.iload 6, 2) := by decide +kernel
theorem d_D_isHeader_114 : decode b_D_isHeader 114 = .ok (.ifCond .ne 18, 3) := by decide +kernel
theorem d_D_isHeader_117 : decode b_D_isHeader 117 = .ok (.iload 5, 2) := by decide +kernel
theorem d_D_isHeader_119 : decode b_D_isHeader 119 = .ok (.bipush 20, 2) := by decide +kernel
theorem d_D_isHeader_121 : decode b_D_isHeader 121 = .ok (.if_icmp .lt 15, 3) := by decide +kernel
theorem d_D_isHeader_124 : decode b_D_isHeader 124 = .ok (.iload 5, 2) := by decide +kernel
theorem d_D_isHeader_126 : decode b_D_isHeader 126 = .ok (.sipush 16383, 3) := by decide +kernel
theorem d_D_isHeader_129 : decode b_D_isHeader 129 = .ok (.if_icmp .gt 7, 3) := by decide +kernel
theorem d_D_isHeader_132 : decode b_D_isHeader 132 = .ok (.iconst 1, 1) := by decide +kernel
theorem d_D_isHeader_133 : decode b_D_isHeader 133 = .ok (.goto 4, 3) := by decide +kernel
theorem d_D_isHeader_136 : decode b_D_isHeader 136 = .ok (.iconst 0, 1) := by decide +kernel
theorem d_D_isHeader_137 : decode b_D_isHeader 137 = .ok (.ireturn, 1) := by decide +kernel
theorem zy_D_isBit : zy y_D_isBit b_D_isBit 2 (some .boolean) 1 := ⟨zmem 740 (by decide +kernel) (by decide +kernel), zmem 68 (by decide +kernel) (by decide +kernel), by decide +kernel⟩
theorem zv_D_isBit : Cond.static y_D_isBit ∈ ztb := zmem 739 (by decide +kernel) (by decide +kernel)
theorem d_D_isBit_0 : decode b_D_isBit 0 = .ok (.lload_n 0, 1) := by decide +kernel
theorem d_D_isBit_1 : decode b_D_isBit 1 = .ok (.lconst 0, 1) := by decide +kernel
theorem d_D_isBit_2 : decode b_D_isBit 2 = .ok (.lcmp, 1) := by decide +kernel
theorem d_D_isBit_3 : decode b_D_isBit 3 = .ok (.ifCond .eq 9, 3) := by decide +kernel
theorem d_D_isBit_6 : decode b_D_isBit 6 = .ok (.lload_n 0, 1) := by decide +kernel
theorem d_D_isBit_7 : decode b_D_isBit 7 = .ok (.lconst 1, 1) := by decide +kernel
theorem d_D_isBit_8 : decode b_D_isBit 8 = .ok (.lcmp, 1) := by decide +kernel
theorem d_D_isBit_9 : decode b_D_isBit 9 = .ok (.ifCond .ne 7, 3) := by decide +kernel
theorem d_D_isBit_12 : decode b_D_isBit 12 = .ok (.iconst 1, 1) := by decide +kernel
theorem d_D_isBit_13 : decode b_D_isBit 13 = .ok (.goto 4, 3) := by decide +kernel
theorem d_D_isBit_16 : decode b_D_isBit 16 = .ok (.iconst 0, 1) := by decide +kernel
theorem d_D_isBit_17 : decode b_D_isBit 17 = .ok (.ireturn, 1) := by decide +kernel
theorem zy_D_shapeOf : zy y_D_shapeOf b_D_shapeOf 1 (some .int) 1 := ⟨zmem 751 (by decide +kernel) (by decide +kernel), zmem 68 (by decide +kernel) (by decide +kernel), by decide +kernel⟩
theorem zv_D_shapeOf : Cond.static y_D_shapeOf ∈ ztb := zmem 750 (by decide +kernel) (by decide +kernel)
theorem d_D_shapeOf_0 : decode b_D_shapeOf 0 = .ok (.iload_n 0, 1) := by decide +kernel
theorem d_D_shapeOf_1 : decode b_D_shapeOf 1 = .ok (.ifCond .lt 19, 3) := by decide +kernel
theorem d_D_shapeOf_4 : decode b_D_shapeOf 4 = .ok (.iload_n 0, 1) := by decide +kernel
theorem d_D_shapeOf_5 : decode b_D_shapeOf 5 = .ok (.getstatic 88, 3) := by decide +kernel
theorem d_D_shapeOf_8 : decode b_D_shapeOf 8 = .ok (.arraylength, 1) := by decide +kernel
theorem d_D_shapeOf_9 : decode b_D_shapeOf 9 = .ok (.if_icmp .ge 11, 3) := by decide +kernel
theorem d_D_shapeOf_12 : decode b_D_shapeOf 12 = .ok (.getstatic 88, 3) := by decide +kernel
theorem d_D_shapeOf_15 : decode b_D_shapeOf 15 = .ok (.iload_n 0, 1) := by decide +kernel
theorem d_D_shapeOf_16 : decode b_D_shapeOf 16 = .ok (.iaload, 1) := by decide +kernel
theorem d_D_shapeOf_17 : decode b_D_shapeOf 17 = .ok (.goto 4, 3) := by decide +kernel
theorem d_D_shapeOf_20 : decode b_D_shapeOf 20 = .ok (.iconst 0, 1) := by decide +kernel
theorem d_D_shapeOf_21 : decode b_D_shapeOf 21 = .ok (.ireturn, 1) := by decide +kernel
theorem zy_D_firstByte : zy y_D_firstByte b_D_firstByte 2 (some .int) 1 := ⟨zmem 748 (by decide +kernel) (by decide +kernel), zmem 68 (by decide +kernel) (by decide +kernel), by decide +kernel⟩
theorem zv_D_firstByte : Cond.instanceMethod y_D_firstByte ∈ ztb ∧ Cond.selects y_D_firstByte.cls y_D_firstByte y_D_firstByte ∈ ztb := ⟨zmem 747 (by decide +kernel) (by decide +kernel), zmem 16 (by decide +kernel) (by decide +kernel)⟩
theorem d_D_firstByte_0 : decode b_D_firstByte 0 = .ok (.iload_n 1, 1) := by decide +kernel
theorem d_D_firstByte_1 : decode b_D_firstByte 1 = .ok (.bipush 8, 2) := by decide +kernel
theorem d_D_firstByte_3 : decode b_D_firstByte 3 = .ok (.if_icmp .eq 5, 3) := by decide +kernel
theorem d_D_firstByte_6 : decode b_D_firstByte 6 = .ok (.iload_n 1, 1) := by decide +kernel
theorem d_D_firstByte_7 : decode b_D_firstByte 7 = .ok (.ireturn, 1) := by decide +kernel
theorem d_D_firstByte_8 : decode b_D_firstByte 8 = .ok (.bipush 8, 2) := by decide +kernel
theorem d_D_firstByte_10 : decode b_D_firstByte 10 = .ok (.aload_n 0, 1) := by decide +kernel
theorem d_D_firstByte_11 : decode b_D_firstByte 11 = .ok (.getfield 9, 3) := by decide +kernel
theorem d_D_firstByte_14 : decode b_D_firstByte 14 = .ok (.iconst 1, 1) := by decide +kernel
theorem d_D_firstByte_15 : decode b_D_firstByte 15 = .ok (.laload, 1) := by decide +kernel
theorem d_D_firstByte_16 : decode b_D_firstByte 16 = .ok (.lconst 0, 1) := by decide +kernel
theorem d_D_firstByte_17 : decode b_D_firstByte 17 = .ok (.lcmp, 1) := by decide +kernel
theorem d_D_firstByte_18 : decode b_D_firstByte 18 = .ok (.ifCond .eq 7, 3) := by decide +kernel
theorem d_D_firstByte_21 : decode b_D_firstByte 21 = .ok (.iconst 4, 1) := by decide +kernel
theorem d_D_firstByte_22 : decode b_D_firstByte 22 = .ok (.goto 4, 3) := by decide +kernel
theorem d_D_firstByte_25 : decode b_D_firstByte 25 = .ok (.iconst 0, 1) := by decide +kernel
theorem d_D_firstByte_26 : decode b_D_firstByte 26 = .ok (.ior, 1) := by decide +kernel
theorem d_D_firstByte_27 : decode b_D_firstByte 27 = .ok (.aload_n 0, 1) := by decide +kernel
theorem d_D_firstByte_28 : decode b_D_firstByte 28 = .ok (.getfield 9, 3) := by decide +kernel
theorem d_D_firstByte_31 : decode b_D_firstByte 31 = .ok (.iconst 3, 1) := by decide +kernel
theorem d_D_firstByte_32 : decode b_D_firstByte 32 = .ok (.laload, 1) := by decide +kernel
theorem d_D_firstByte_33 : decode b_D_firstByte 33 = .ok (.lconst 1, 1) := by decide +kernel
theorem d_D_firstByte_34 : decode b_D_firstByte 34 = .ok (.lcmp, 1) := by decide +kernel
theorem d_D_firstByte_35 : decode b_D_firstByte 35 = .ok (.ifCond .ne 7, 3) := by decide +kernel
theorem d_D_firstByte_38 : decode b_D_firstByte 38 = .ok (.iconst 2, 1) := by decide +kernel
theorem d_D_firstByte_39 : decode b_D_firstByte 39 = .ok (.goto 4, 3) := by decide +kernel
theorem d_D_firstByte_42 : decode b_D_firstByte 42 = .ok (.iconst 0, 1) := by decide +kernel
theorem d_D_firstByte_43 : decode b_D_firstByte 43 = .ok (.ior, 1) := by decide +kernel
theorem d_D_firstByte_44 : decode b_D_firstByte 44 = .ok (.aload_n 0, 1) := by decide +kernel
theorem d_D_firstByte_45 : decode b_D_firstByte 45 = .ok (.getfield 9, 3) := by decide +kernel
theorem d_D_firstByte_48 : decode b_D_firstByte 48 = .ok (.iconst 2, 1) := by decide +kernel
theorem d_D_firstByte_49 : decode b_D_firstByte 49 = .ok (.laload, 1) := by decide +kernel
theorem d_D_firstByte_50 : decode b_D_firstByte 50 = .ok (.lconst 1, 1) := by decide +kernel
theorem d_D_firstByte_51 : decode b_D_firstByte 51 = .ok (.lcmp, 1) := by decide +kernel
theorem d_D_firstByte_52 : decode b_D_firstByte 52 = .ok (.ifCond .ne 7, 3) := by decide +kernel
theorem d_D_firstByte_55 : decode b_D_firstByte 55 = .ok (.iconst 1, 1) := by decide +kernel
theorem d_D_firstByte_56 : decode b_D_firstByte 56 = .ok (.goto 4, 3) := by decide +kernel
theorem d_D_firstByte_59 : decode b_D_firstByte 59 = .ok (.iconst 0, 1) := by decide +kernel
theorem d_D_firstByte_60 : decode b_D_firstByte 60 = .ok (.ior, 1) := by decide +kernel
theorem d_D_firstByte_61 : decode b_D_firstByte 61 = .ok (.ireturn, 1) := by decide +kernel
theorem zy_D_isAck : zy y_D_isAck b_D_isAck 1 (some .boolean) 0 := ⟨zmem 732 (by decide +kernel) (by decide +kernel), zmem 68 (by decide +kernel) (by decide +kernel), by decide +kernel⟩
theorem zv_D_isAck : Cond.instanceMethod y_D_isAck ∈ ztb ∧ Cond.selects y_D_isAck.cls y_D_isAck y_D_isAck ∈ ztb := ⟨zmem 731 (by decide +kernel) (by decide +kernel), zmem 13 (by decide +kernel) (by decide +kernel)⟩
theorem d_D_isAck_0 : decode b_D_isAck 0 = .ok (.aload_n 0, 1) := by decide +kernel
theorem d_D_isAck_1 : decode b_D_isAck 1 = .ok (.getfield 35, 3) := by decide +kernel
theorem d_D_isAck_4 : decode b_D_isAck 4 = .ok (.ifCond .le 31, 3) := by decide +kernel
theorem d_D_isAck_7 : decode b_D_isAck 7 = .ok (.aload_n 0, 1) := by decide +kernel
theorem d_D_isAck_8 : decode b_D_isAck 8 = .ok (.getfield 22, 3) := by decide +kernel
theorem d_D_isAck_11 : decode b_D_isAck 11 = .ok (.iconst 0, 1) := by decide +kernel
theorem d_D_isAck_12 : decode b_D_isAck 12 = .ok (.laload, 1) := by decide +kernel
theorem d_D_isAck_13 : decode b_D_isAck 13 = .ok (.invokestatic 92, 3) := by decide +kernel
theorem d_D_isAck_16 : decode b_D_isAck 16 = .ok (.ifCond .eq 19, 3) := by decide +kernel
theorem d_D_isAck_19 : decode b_D_isAck 19 = .ok (.aload_n 0, 1) := by decide +kernel
theorem d_D_isAck_20 : decode b_D_isAck 20 = .ok (.getfield 9, 3) := by decide +kernel
theorem d_D_isAck_23 : decode b_D_isAck 23 = .ok (.iconst 1, 1) := by decide +kernel
theorem d_D_isAck_24 : decode b_D_isAck 24 = .ok (.laload, 1) := by decide +kernel
theorem d_D_isAck_25 : decode b_D_isAck 25 = .ok (.invokestatic 92, 3) := by decide +kernel
theorem d_D_isAck_28 : decode b_D_isAck 28 = .ok (.ifCond .eq 7, 3) := by decide +kernel
theorem d_D_isAck_31 : decode b_D_isAck 31 = .ok (.iconst 1, 1) := by decide +kernel
theorem d_D_isAck_32 : decode b_D_isAck 32 = .ok (.goto 4, 3) := by decide +kernel
theorem d_D_isAck_35 : decode b_D_isAck 35 = .ok (.iconst 0, 1) := by decide +kernel
theorem d_D_isAck_36 : decode b_D_isAck 36 = .ok (.ireturn, 1) := by decide +kernel
theorem zy_D_hasCounts : zy y_D_hasCounts b_D_hasCounts 3 (some .boolean) 0 := ⟨zmem 737 (by decide +kernel) (by decide +kernel), zmem 68 (by decide +kernel) (by decide +kernel), by decide +kernel⟩
theorem zv_D_hasCounts : Cond.instanceMethod y_D_hasCounts ∈ ztb ∧ Cond.selects y_D_hasCounts.cls y_D_hasCounts y_D_hasCounts ∈ ztb := ⟨zmem 736 (by decide +kernel) (by decide +kernel), zmem 14 (by decide +kernel) (by decide +kernel)⟩
theorem d_D_hasCounts_0 : decode b_D_hasCounts 0 = .ok (.iconst 1, 1) := by decide +kernel
theorem d_D_hasCounts_1 : decode b_D_hasCounts 1 = .ok (.istore_n 1, 1) := by decide +kernel
theorem d_D_hasCounts_2 : decode b_D_hasCounts 2 = .ok (.bipush 9, 2) := by decide +kernel
theorem d_D_hasCounts_4 : decode b_D_hasCounts 4 = .ok (.istore_n 2, 1) := by decide +kernel
theorem d_D_hasCounts_5 : decode b_D_hasCounts 5 = .ok (.iload_n 2, 1) := by decide +kernel
theorem d_D_hasCounts_6 : decode b_D_hasCounts 6 = .ok (.bipush 12, 2) := by decide +kernel
theorem d_D_hasCounts_8 : decode b_D_hasCounts 8 = .ok (.if_icmp .ge 31, 3) := by decide +kernel
theorem d_D_hasCounts_11 : decode b_D_hasCounts 11 = .ok (.iload_n 1, 1) := by decide +kernel
theorem d_D_hasCounts_12 : decode b_D_hasCounts 12 = .ok (.ifCond .eq 19, 3) := by decide +kernel
theorem d_D_hasCounts_15 : decode b_D_hasCounts 15 = .ok (.aload_n 0, 1) := by decide +kernel
theorem d_D_hasCounts_16 : decode b_D_hasCounts 16 = .ok (.getfield 9, 3) := by decide +kernel
theorem d_D_hasCounts_19 : decode b_D_hasCounts 19 = .ok (.iload_n 2, 1) := by decide +kernel
theorem d_D_hasCounts_20 : decode b_D_hasCounts 20 = .ok (.laload, 1) := by decide +kernel
theorem d_D_hasCounts_21 : decode b_D_hasCounts 21 = .ok (.invokestatic 92, 3) := by decide +kernel
theorem d_D_hasCounts_24 : decode b_D_hasCounts 24 = .ok (.ifCond .eq 7, 3) := by decide +kernel
theorem d_D_hasCounts_27 : decode b_D_hasCounts 27 = .ok (.iconst 1, 1) := by decide +kernel
theorem d_D_hasCounts_28 : decode b_D_hasCounts 28 = .ok (.goto 4, 3) := by decide +kernel
theorem d_D_hasCounts_31 : decode b_D_hasCounts 31 = .ok (.iconst 0, 1) := by decide +kernel
theorem d_D_hasCounts_32 : decode b_D_hasCounts 32 = .ok (.istore_n 1, 1) := by decide +kernel
theorem d_D_hasCounts_33 : decode b_D_hasCounts 33 = .ok (.iinc 2 1, 3) := by decide +kernel
theorem d_D_hasCounts_36 : decode b_D_hasCounts 36 = .ok (.goto (-31), 3) := by decide +kernel
theorem d_D_hasCounts_39 : decode b_D_hasCounts 39 = .ok (.iload_n 1, 1) := by decide +kernel
theorem d_D_hasCounts_40 : decode b_D_hasCounts 40 = .ok (.ireturn, 1) := by decide +kernel
theorem zy_D_hasShape : zy y_D_hasShape b_D_hasShape 5 (some .boolean) 1 := ⟨zmem 744 (by decide +kernel) (by decide +kernel), zmem 68 (by decide +kernel) (by decide +kernel), by decide +kernel⟩
theorem zv_D_hasShape : Cond.instanceMethod y_D_hasShape ∈ ztb ∧ Cond.selects y_D_hasShape.cls y_D_hasShape y_D_hasShape ∈ ztb := ⟨zmem 743 (by decide +kernel) (by decide +kernel), zmem 15 (by decide +kernel) (by decide +kernel)⟩
theorem d_D_hasShape_0 : decode b_D_hasShape 0 = .ok (.aload_n 0, 1) := by decide +kernel
theorem d_D_hasShape_1 : decode b_D_hasShape 1 = .ok (.iload_n 1, 1) := by decide +kernel
theorem d_D_hasShape_2 : decode b_D_hasShape 2 = .ok (.invokevirtual 63, 3) := by decide +kernel
theorem d_D_hasShape_5 : decode b_D_hasShape 5 = .ok (.invokestatic 71, 3) := by decide +kernel
theorem d_D_hasShape_8 : decode b_D_hasShape 8 = .ok (.istore_n 2, 1) := by decide +kernel
theorem d_D_hasShape_9 : decode b_D_hasShape 9 = .ok (.iload_n 2, 1) := by decide +kernel
theorem d_D_hasShape_10 : decode b_D_hasShape 10 = .ok (.iconst 1, 1) := by decide +kernel
theorem d_D_hasShape_11 : decode b_D_hasShape 11 = .ok (.iand, 1) := by decide +kernel
theorem d_D_hasShape_12 : decode b_D_hasShape 12 = .ok (.ifCond .eq 15, 3) := by decide +kernel
theorem d_D_hasShape_15 : decode b_D_hasShape 15 = .ok (.aload_n 0, 1) := by decide +kernel
theorem d_D_hasShape_16 : decode b_D_hasShape 16 = .ok (.getfield 9, 3) := by decide +kernel
theorem d_D_hasShape_19 : decode b_D_hasShape 19 = .ok (.iconst 0, 1) := by decide +kernel
theorem d_D_hasShape_20 : decode b_D_hasShape 20 = .ok (.laload, 1) := by decide +kernel
theorem d_D_hasShape_21 : decode b_D_hasShape 21 = .ok (.invokestatic 92, 3) := by decide +kernel
theorem d_D_hasShape_24 : decode b_D_hasShape 24 = .ok (.ifCond .eq 43, 3) := by decide +kernel
theorem d_D_hasShape_27 : decode b_D_hasShape 27 = .ok (.iload_n 2, 1) := by decide +kernel
theorem d_D_hasShape_28 : decode b_D_hasShape 28 = .ok (.iconst 2, 1) := by decide +kernel
theorem d_D_hasShape_29 : decode b_D_hasShape 29 = .ok (.iand, 1) := by decide +kernel
theorem d_D_hasShape_30 : decode b_D_hasShape 30 = .ok (.ifCond .eq 15, 3) := by decide +kernel
theorem d_D_hasShape_33 : decode b_D_hasShape 33 = .ok (.aload_n 0, 1) := by decide +kernel
theorem d_D_hasShape_34 : decode b_D_hasShape 34 = .ok (.getfield 9, 3) := by decide +kernel
theorem d_D_hasShape_37 : decode b_D_hasShape 37 = .ok (.iconst 1, 1) := by decide +kernel
theorem d_D_hasShape_38 : decode b_D_hasShape 38 = .ok (.laload, 1) := by decide +kernel
theorem d_D_hasShape_39 : decode b_D_hasShape 39 = .ok (.invokestatic 92, 3) := by decide +kernel
theorem d_D_hasShape_42 : decode b_D_hasShape 42 = .ok (.ifCond .eq 25, 3) := by decide +kernel
theorem d_D_hasShape_45 : decode b_D_hasShape 45 = .ok (.iload_n 2, 1) := by decide +kernel
theorem d_D_hasShape_46 : decode b_D_hasShape 46 = .ok (.iconst 4, 1) := by decide +kernel
theorem d_D_hasShape_47 : decode b_D_hasShape 47 = .ok (.iand, 1) := by decide +kernel
theorem d_D_hasShape_48 : decode b_D_hasShape 48 = .ok (.ifCond .eq 15, 3) := by decide +kernel
theorem d_D_hasShape_51 : decode b_D_hasShape 51 = .ok (.aload_n 0, 1) := by decide +kernel
theorem d_D_hasShape_52 : decode b_D_hasShape 52 = .ok (.getfield 9, 3) := by decide +kernel
theorem d_D_hasShape_55 : decode b_D_hasShape 55 = .ok (.iconst 2, 1) := by decide +kernel
theorem d_D_hasShape_56 : decode b_D_hasShape 56 = .ok (.laload, 1) := by decide +kernel
theorem d_D_hasShape_57 : decode b_D_hasShape 57 = .ok (.invokestatic 92, 3) := by decide +kernel
theorem d_D_hasShape_60 : decode b_D_hasShape 60 = .ok (.ifCond .eq 7, 3) := by decide +kernel
theorem d_D_hasShape_63 : decode b_D_hasShape 63 = .ok (.iconst 1, 1) := by decide +kernel
theorem d_D_hasShape_64 : decode b_D_hasShape 64 = .ok (.goto 4, 3) := by decide +kernel
theorem d_D_hasShape_67 : decode b_D_hasShape 67 = .ok (.iconst 0, 1) := by decide +kernel
theorem d_D_hasShape_68 : decode b_D_hasShape 68 = .ok (.istore_n 3, 1) := by decide +kernel
theorem d_D_hasShape_69 : decode b_D_hasShape 69 = .ok (.iload_n 1, 1) := by decide +kernel
theorem d_D_hasShape_70 : decode b_D_hasShape 70 = .ok (.bipush 24, 2) := by decide +kernel
theorem d_D_hasShape_72 : decode b_D_hasShape 72 = .ok (.if_icmp .ne 13, 3) := by decide +kernel
theorem d_D_hasShape_75 : decode b_D_hasShape 75 = .ok (.aload_n 0, 1) := by decide +kernel
theorem d_D_hasShape_76 : decode b_D_hasShape 76 = .ok (.getfield 31, 3) := by decide +kernel
theorem d_D_hasShape_79 : decode b_D_hasShape 79 = .ok (.bipush 16, 2) := by decide +kernel
theorem d_D_hasShape_81 : decode b_D_hasShape 81 = .ok (.isub, 1) := by decide +kernel
theorem d_D_hasShape_82 : decode b_D_hasShape 82 = .ok (.goto 7, 3) := by decide +kernel
theorem d_D_hasShape_85 : decode b_D_hasShape 85 = .ok (.aload_n 0, 1) := by decide +kernel
theorem d_D_hasShape_86 : decode b_D_hasShape 86 = .ok (.getfield 31, 3) := by decide +kernel
theorem d_D_hasShape_89 : decode b_D_hasShape 89 = .ok (.istore 4, 2) := by decide +kernel
theorem d_D_hasShape_91 : decode b_D_hasShape 91 = .ok (.iload_n 3, 1) := by decide +kernel
theorem d_D_hasShape_92 : decode b_D_hasShape 92 = .ok (.ifCond .eq 29, 3) := by decide +kernel
theorem d_D_hasShape_95 : decode b_D_hasShape 95 = .ok (.iload_n 1, 1) := by decide +kernel
theorem d_D_hasShape_96 : decode b_D_hasShape 96 = .ok (.aload_n 0, 1) := by decide +kernel
theorem d_D_hasShape_97 : decode b_D_hasShape 97 = .ok (.getfield 9, 3) := by decide +kernel
theorem d_D_hasShape_100 : decode b_D_hasShape 100 = .ok (.iconst 0, 1) := by decide +kernel
theorem d_D_hasShape_101 : decode b_D_hasShape 101 = .ok (.laload, 1) := by decide +kernel
theorem d_D_hasShape_102 : decode b_D_hasShape 102 = .ok (.aload_n 0, 1) := by decide +kernel
theorem d_D_hasShape_103 : decode b_D_hasShape 103 = .ok (.getfield 9, 3) := by decide +kernel
theorem d_D_hasShape_106 : decode b_D_hasShape 106 = .ok (.iconst 1, 1) := by decide +kernel
theorem d_D_hasShape_107 : decode b_D_hasShape 107 = .ok (.laload, 1) := by decide +kernel
theorem d_D_hasShape_108 : decode b_D_hasShape 108 = .ok (.iload 4, 2) := by decide +kernel
theorem d_D_hasShape_110 : decode b_D_hasShape 110 = .ok (.i2l, 1) := by decide +kernel
theorem d_D_hasShape_111 : decode b_D_hasShape 111 = .ok (.invokestatic 95, 3) := by decide +kernel
theorem d_D_hasShape_114 : decode b_D_hasShape 114 = .ok (.ifCond .eq 7, 3) := by decide +kernel
theorem d_D_hasShape_117 : decode b_D_hasShape 117 = .ok (.iconst 1, 1) := by decide +kernel
theorem d_D_hasShape_118 : decode b_D_hasShape 118 = .ok (.goto 4, 3) := by decide +kernel
theorem d_D_hasShape_121 : decode b_D_hasShape 121 = .ok (.iconst 0, 1) := by decide +kernel
theorem d_D_hasShape_122 : decode b_D_hasShape 122 = .ok (.ireturn, 1) := by decide +kernel
theorem zy_P_forget : zy y_P_forget b_P_forget 1 none 0 := ⟨zmem 310 (by decide +kernel) (by decide +kernel), zmem 69 (by decide +kernel) (by decide +kernel), by decide +kernel⟩
theorem zv_P_forget : Cond.instanceMethod y_P_forget ∈ ztb ∧ Cond.selects y_P_forget.cls y_P_forget y_P_forget ∈ ztb := ⟨zmem 308 (by decide +kernel) (by decide +kernel), zmem 309 (by decide +kernel) (by decide +kernel)⟩
theorem d_P_forget_0 : decode b_P_forget 0 = .ok (.getstatic 9, 3) := by decide +kernel
theorem d_P_forget_3 : decode b_P_forget 3 = .ok (.iconst 0, 1) := by decide +kernel
theorem d_P_forget_4 : decode b_P_forget 4 = .ok (.aload_n 0, 1) := by decide +kernel
theorem d_P_forget_5 : decode b_P_forget 5 = .ok (.getfield 21, 3) := by decide +kernel
theorem d_P_forget_8 : decode b_P_forget 8 = .ok (.iconst 0, 1) := by decide +kernel
theorem d_P_forget_9 : decode b_P_forget 9 = .ok (.getstatic 9, 3) := by decide +kernel
theorem d_P_forget_12 : decode b_P_forget 12 = .ok (.arraylength, 1) := by decide +kernel
theorem d_P_forget_13 : decode b_P_forget 13 = .ok (.invokestatic 24, 3) := by decide +kernel
theorem d_P_forget_16 : decode b_P_forget 16 = .ok (.aload_n 0, 1) := by decide +kernel
theorem d_P_forget_17 : decode b_P_forget 17 = .ok (.iconst 0, 1) := by decide +kernel
theorem d_P_forget_18 : decode b_P_forget 18 = .ok (.putfield 30, 3) := by decide +kernel
theorem d_P_forget_21 : decode b_P_forget 21 = .ok (.return_, 1) := by decide +kernel
theorem zy_R_start : zy y_R_start b_R_start 3 none 2 := ⟨zmem 522 (by decide +kernel) (by decide +kernel), zmem 64 (by decide +kernel) (by decide +kernel), by decide +kernel⟩
theorem zv_R_start : Cond.instanceMethod y_R_start ∈ ztb ∧ Cond.selects y_R_start.cls y_R_start y_R_start ∈ ztb := ⟨zmem 520 (by decide +kernel) (by decide +kernel), zmem 521 (by decide +kernel) (by decide +kernel)⟩
theorem d_R_start_0 : decode b_R_start 0 = .ok (.aload_n 0, 1) := by decide +kernel
theorem d_R_start_1 : decode b_R_start 1 = .ok (.iload_n 1, 1) := by decide +kernel
theorem d_R_start_2 : decode b_R_start 2 = .ok (.putfield 13, 3) := by decide +kernel
theorem d_R_start_5 : decode b_R_start 5 = .ok (.aload_n 0, 1) := by decide +kernel
theorem d_R_start_6 : decode b_R_start 6 = .ok (.iload_n 2, 1) := by decide +kernel
theorem d_R_start_7 : decode b_R_start 7 = .ok (.putfield 17, 3) := by decide +kernel
theorem d_R_start_10 : decode b_R_start 10 = .ok (.aload_n 0, 1) := by decide +kernel
theorem d_R_start_11 : decode b_R_start 11 = .ok (.iconst 0, 1) := by decide +kernel
theorem d_R_start_12 : decode b_R_start 12 = .ok (.putfield 20, 3) := by decide +kernel
theorem d_R_start_15 : decode b_R_start 15 = .ok (.return_, 1) := by decide +kernel
theorem zy_R_left : zy y_R_left b_R_left 1 (some .int) 0 := ⟨zmem 558 (by decide +kernel) (by decide +kernel), zmem 64 (by decide +kernel) (by decide +kernel), by decide +kernel⟩
theorem zv_R_left : Cond.instanceMethod y_R_left ∈ ztb ∧ Cond.selects y_R_left.cls y_R_left y_R_left ∈ ztb := ⟨zmem 556 (by decide +kernel) (by decide +kernel), zmem 557 (by decide +kernel) (by decide +kernel)⟩
theorem d_R_left_0 : decode b_R_left 0 = .ok (.aload_n 0, 1) := by decide +kernel
theorem d_R_left_1 : decode b_R_left 1 = .ok (.getfield 17, 3) := by decide +kernel
theorem d_R_left_4 : decode b_R_left 4 = .ok (.aload_n 0, 1) := by decide +kernel
theorem d_R_left_5 : decode b_R_left 5 = .ok (.getfield 13, 3) := by decide +kernel
theorem d_R_left_8 : decode b_R_left 8 = .ok (.isub, 1) := by decide +kernel
theorem d_R_left_9 : decode b_R_left 9 = .ok (.ireturn, 1) := by decide +kernel
theorem zy_R_takeBytes : zy y_R_takeBytes b_R_takeBytes 4 (some .int) 1 := ⟨zmem 575 (by decide +kernel) (by decide +kernel), zmem 64 (by decide +kernel) (by decide +kernel), by decide +kernel⟩
theorem zv_R_takeBytes : Cond.instanceMethod y_R_takeBytes ∈ ztb ∧ Cond.selects y_R_takeBytes.cls y_R_takeBytes y_R_takeBytes ∈ ztb := ⟨zmem 573 (by decide +kernel) (by decide +kernel), zmem 574 (by decide +kernel) (by decide +kernel)⟩
theorem d_R_takeBytes_0 : decode b_R_takeBytes 0 = .ok (.aload_n 0, 1) := by decide +kernel
theorem d_R_takeBytes_1 : decode b_R_takeBytes 1 = .ok (.getfield 13, 3) := by decide +kernel
theorem d_R_takeBytes_4 : decode b_R_takeBytes 4 = .ok (.istore_n 3, 1) := by decide +kernel
theorem d_R_takeBytes_5 : decode b_R_takeBytes 5 = .ok (.aload_n 0, 1) := by decide +kernel
theorem d_R_takeBytes_6 : decode b_R_takeBytes 6 = .ok (.getfield 20, 3) := by decide +kernel
theorem d_R_takeBytes_9 : decode b_R_takeBytes 9 = .ok (.ifCond .ne 13, 3) := by decide +kernel
theorem d_R_takeBytes_12 : decode b_R_takeBytes 12 = .ok (.lload_n 1, 1) := by decide +kernel
theorem d_R_takeBytes_13 : decode b_R_takeBytes 13 = .ok (.aload_n 0, 1) := by decide +kernel
theorem d_R_takeBytes_14 : decode b_R_takeBytes 14 = .ok (.invokevirtual 24, 3) := by decide +kernel
theorem d_R_takeBytes_17 : decode b_R_takeBytes 17 = .ok (.i2l, 1) := by decide +kernel
theorem d_R_takeBytes_18 : decode b_R_takeBytes 18 = .ok (.lcmp, 1) := by decide +kernel
theorem d_R_takeBytes_19 : decode b_R_takeBytes 19 = .ok (.ifCond .le 11, 3) := by decide +kernel
theorem d_R_takeBytes_22 : decode b_R_takeBytes 22 = .ok (.aload_n 0, 1) := by decide +kernel
theorem d_R_takeBytes_23 : decode b_R_takeBytes 23 = .ok (.iconst 1, 1) := by decide +kernel
theorem d_R_takeBytes_24 : decode b_R_takeBytes 24 = .ok (.putfield 20, 3) := by decide +kernel
theorem d_R_takeBytes_27 : decode b_R_takeBytes 27 = .ok (.goto 14, 3) := by decide +kernel
theorem d_R_takeBytes_30 : decode b_R_takeBytes 30 = .ok (.aload_n 0, 1) := by decide +kernel
theorem d_R_takeBytes_31 : decode b_R_takeBytes 31 = .ok (.dup, 1) := by decide +kernel
theorem d_R_takeBytes_32 : decode b_R_takeBytes 32 = .ok (.getfield 13, 3) := by decide +kernel
theorem d_R_takeBytes_35 : decode b_R_takeBytes 35 = .ok (.lload_n 1, 1) := by decide +kernel
theorem d_R_takeBytes_36 : decode b_R_takeBytes 36 = .ok (.l2i, 1) := by decide +kernel
theorem d_R_takeBytes_37 : decode b_R_takeBytes 37 = .ok (.iadd, 1) := by decide +kernel
theorem d_R_takeBytes_38 : decode b_R_takeBytes 38 = .ok (.putfield 13, 3) := by decide +kernel
theorem d_R_takeBytes_41 : decode b_R_takeBytes 41 = .ok (.iload_n 3, 1) := by decide +kernel
theorem d_R_takeBytes_42 : decode b_R_takeBytes 42 = .ok (.ireturn, 1) := by decide +kernel
theorem zy_G_restart : zy y_G_restart b_G_restart 3 none 2 := ⟨zmem 306 (by decide +kernel) (by decide +kernel), zmem 65 (by decide +kernel) (by decide +kernel), by decide +kernel⟩
theorem zv_G_restart : Cond.instanceMethod y_G_restart ∈ ztb ∧ Cond.selects y_G_restart.cls y_G_restart y_G_restart ∈ ztb := ⟨zmem 304 (by decide +kernel) (by decide +kernel), zmem 305 (by decide +kernel) (by decide +kernel)⟩
theorem d_G_restart_0 : decode b_G_restart 0 = .ok (.aload_n 0, 1) := by decide +kernel
theorem d_G_restart_1 : decode b_G_restart 1 = .ok (.iconst 0, 1) := by decide +kernel
theorem d_G_restart_2 : decode b_G_restart 2 = .ok (.putfield 19, 3) := by decide +kernel
theorem d_G_restart_5 : decode b_G_restart 5 = .ok (.aload_n 0, 1) := by decide +kernel
theorem d_G_restart_6 : decode b_G_restart 6 = .ok (.iconst 0, 1) := by decide +kernel
theorem d_G_restart_7 : decode b_G_restart 7 = .ok (.putfield 22, 3) := by decide +kernel
theorem d_G_restart_10 : decode b_G_restart 10 = .ok (.aload_n 0, 1) := by decide +kernel
theorem d_G_restart_11 : decode b_G_restart 11 = .ok (.iload_n 1, 1) := by decide +kernel
theorem d_G_restart_12 : decode b_G_restart 12 = .ok (.putfield 25, 3) := by decide +kernel
theorem d_G_restart_15 : decode b_G_restart 15 = .ok (.aload_n 0, 1) := by decide +kernel
theorem d_G_restart_16 : decode b_G_restart 16 = .ok (.iload_n 2, 1) := by decide +kernel
theorem d_G_restart_17 : decode b_G_restart 17 = .ok (.putfield 28, 3) := by decide +kernel
theorem d_G_restart_20 : decode b_G_restart 20 = .ok (.aload_n 0, 1) := by decide +kernel
theorem d_G_restart_21 : decode b_G_restart 21 = .ok (.iconst 0, 1) := by decide +kernel
theorem d_G_restart_22 : decode b_G_restart 22 = .ok (.putfield 31, 3) := by decide +kernel
theorem d_G_restart_25 : decode b_G_restart 25 = .ok (.aload_n 0, 1) := by decide +kernel
theorem d_G_restart_26 : decode b_G_restart 26 = .ok (.iconst (-1), 1) := by decide +kernel
theorem d_G_restart_27 : decode b_G_restart 27 = .ok (.putfield 15, 3) := by decide +kernel
theorem d_G_restart_30 : decode b_G_restart 30 = .ok (.return_, 1) := by decide +kernel
theorem zy_G_fail : zy y_G_fail b_G_fail 3 none 2 := ⟨zmem 627 (by decide +kernel) (by decide +kernel), zmem 65 (by decide +kernel) (by decide +kernel), by decide +kernel⟩
theorem zv_G_fail : Cond.instanceMethod y_G_fail ∈ ztb ∧ Cond.selects y_G_fail.cls y_G_fail y_G_fail ∈ ztb := ⟨zmem 625 (by decide +kernel) (by decide +kernel), zmem 626 (by decide +kernel) (by decide +kernel)⟩
theorem d_G_fail_0 : decode b_G_fail 0 = .ok (.aload_n 0, 1) := by decide +kernel
theorem d_G_fail_1 : decode b_G_fail 1 = .ok (.iload_n 1, 1) := by decide +kernel
theorem d_G_fail_2 : decode b_G_fail 2 = .ok (.putfield 31, 3) := by decide +kernel
theorem d_G_fail_5 : decode b_G_fail 5 = .ok (.aload_n 0, 1) := by decide +kernel
theorem d_G_fail_6 : decode b_G_fail 6 = .ok (.iload_n 2, 1) := by decide +kernel
theorem d_G_fail_7 : decode b_G_fail 7 = .ok (.putfield 15, 3) := by decide +kernel
theorem d_G_fail_10 : decode b_G_fail 10 = .ok (.return_, 1) := by decide +kernel
theorem zy_G_placeOf : zy y_G_placeOf b_G_placeOf 2 (some .int) 1 := ⟨zmem 660 (by decide +kernel) (by decide +kernel), zmem 65 (by decide +kernel) (by decide +kernel), by decide +kernel⟩
theorem zv_G_placeOf : Cond.instanceMethod y_G_placeOf ∈ ztb ∧ Cond.selects y_G_placeOf.cls y_G_placeOf y_G_placeOf ∈ ztb := ⟨zmem 658 (by decide +kernel) (by decide +kernel), zmem 659 (by decide +kernel) (by decide +kernel)⟩
theorem d_G_placeOf_0 : decode b_G_placeOf 0 = .ok (.iload_n 1, 1) := by decide +kernel
theorem d_G_placeOf_1 : decode b_G_placeOf 1 = .ok (.ifCond .lt 21, 3) := by decide +kernel
theorem d_G_placeOf_4 : decode b_G_placeOf 4 = .ok (.iload_n 1, 1) := by decide +kernel
theorem d_G_placeOf_5 : decode b_G_placeOf 5 = .ok (.aload_n 0, 1) := by decide +kernel
theorem d_G_placeOf_6 : decode b_G_placeOf 6 = .ok (.getfield 9, 3) := by decide +kernel
theorem d_G_placeOf_9 : decode b_G_placeOf 9 = .ok (.arraylength, 1) := by decide +kernel
theorem d_G_placeOf_10 : decode b_G_placeOf 10 = .ok (.if_icmp .ge 12, 3) := by decide +kernel
theorem d_G_placeOf_13 : decode b_G_placeOf 13 = .ok (.aload_n 0, 1) := by decide +kernel
theorem d_G_placeOf_14 : decode b_G_placeOf 14 = .ok (.getfield 9, 3) := by decide +kernel
theorem d_G_placeOf_17 : decode b_G_placeOf 17 = .ok (.iload_n 1, 1) := by decide +kernel
theorem d_G_placeOf_18 : decode b_G_placeOf 18 = .ok (.iaload, 1) := by decide +kernel
theorem d_G_placeOf_19 : decode b_G_placeOf 19 = .ok (.goto 4, 3) := by decide +kernel
theorem d_G_placeOf_22 : decode b_G_placeOf 22 = .ok (.iconst 0, 1) := by decide +kernel
theorem d_G_placeOf_23 : decode b_G_placeOf 23 = .ok (.ireturn, 1) := by decide +kernel
theorem zy_T_byteAt : zy y_T_byteAt b_T_byteAt 2 (some .int) 1 := ⟨zmem 511 (by decide +kernel) (by decide +kernel), zmem 63 (by decide +kernel) (by decide +kernel), by decide +kernel⟩
theorem zv_T_byteAt : Cond.instanceMethod y_T_byteAt ∈ ztb ∧ Cond.selects y_T_byteAt.cls y_T_byteAt y_T_byteAt ∈ ztb := ⟨zmem 509 (by decide +kernel) (by decide +kernel), zmem 510 (by decide +kernel) (by decide +kernel)⟩
theorem d_T_byteAt_0 : decode b_T_byteAt 0 = .ok (.iload_n 1, 1) := by decide +kernel
theorem d_T_byteAt_1 : decode b_T_byteAt 1 = .ok (.ifCond .lt 25, 3) := by decide +kernel
theorem d_T_byteAt_4 : decode b_T_byteAt 4 = .ok (.iload_n 1, 1) := by decide +kernel
theorem d_T_byteAt_5 : decode b_T_byteAt 5 = .ok (.aload_n 0, 1) := by decide +kernel
theorem d_T_byteAt_6 : decode b_T_byteAt 6 = .ok (.getfield 9, 3) := by decide +kernel
theorem d_T_byteAt_9 : decode b_T_byteAt 9 = .ok (.arraylength, 1) := by decide +kernel
theorem d_T_byteAt_10 : decode b_T_byteAt 10 = .ok (.if_icmp .ge 16, 3) := by decide +kernel
theorem d_T_byteAt_13 : decode b_T_byteAt 13 = .ok (.aload_n 0, 1) := by decide +kernel
theorem d_T_byteAt_14 : decode b_T_byteAt 14 = .ok (.getfield 9, 3) := by decide +kernel
theorem d_T_byteAt_17 : decode b_T_byteAt 17 = .ok (.iload_n 1, 1) := by decide +kernel
theorem d_T_byteAt_18 : decode b_T_byteAt 18 = .ok (.baload, 1) := by decide +kernel
theorem d_T_byteAt_19 : decode b_T_byteAt 19 = .ok (.sipush 255, 3) := by decide +kernel
theorem d_T_byteAt_22 : decode b_T_byteAt 22 = .ok (.iand, 1) := by decide +kernel
theorem d_T_byteAt_23 : decode b_T_byteAt 23 = .ok (.goto 4, 3) := by decide +kernel
theorem d_T_byteAt_26 : decode b_T_byteAt 26 = .ok (.iconst 0, 1) := by decide +kernel
theorem d_T_byteAt_27 : decode b_T_byteAt 27 = .ok (.ireturn, 1) := by decide +kernel
theorem zin_D_9 : Cond.fieldLink R_D 9 "WireCodec$Draft" "parts" "[J" ∈ ztb := zmem 222 (by decide +kernel) (by decide +kernel)
theorem zin_D_63 : Cond.methodLink R_D 63 y_D_firstByte ∈ ztb := zmem 745 (by decide +kernel) (by decide +kernel)
theorem zin_D_71 : Cond.methodLink R_D 71 y_D_shapeOf ∈ ztb := zmem 749 (by decide +kernel) (by decide +kernel)
theorem zin_P_9 : Cond.fieldLink R_P 9 "WireCodec$Parameters" "ABSENT" "[J" ∈ ztb := zmem 250 (by decide +kernel) (by decide +kernel)
theorem zin_P_21 : Cond.fieldLink R_P 21 "WireCodec$Parameters" "values" "[J" ∈ ztb := zmem 268 (by decide +kernel) (by decide +kernel)
theorem zin_P_24 : Cond.methodLink R_P 24 arraycopyName ∈ ztb := zmem 311 (by decide +kernel) (by decide +kernel)
theorem zin_P_30 : Cond.fieldLink R_P 30 "WireCodec$Parameters" "seen" "I" ∈ ztb := zmem 270 (by decide +kernel) (by decide +kernel)
theorem zin_R_13 : Cond.fieldLink R_R 13 "WireCodec$Reader" "place" "I" ∈ ztb := zmem 114 (by decide +kernel) (by decide +kernel)
theorem zin_R_17 : Cond.fieldLink R_R 17 "WireCodec$Reader" "limit" "I" ∈ ztb := zmem 118 (by decide +kernel) (by decide +kernel)
theorem zin_R_20 : Cond.fieldLink R_R 20 "WireCodec$Reader" "over" "Z" ∈ ztb := zmem 120 (by decide +kernel) (by decide +kernel)
theorem zin_R_24 : Cond.methodLink R_R 24 y_R_left ∈ ztb := zmem 576 (by decide +kernel) (by decide +kernel)
theorem zin_G_19 : Cond.fieldLink R_G 19 "WireCodec$Reading" "frameCount" "I" ∈ ztb := zmem 141 (by decide +kernel) (by decide +kernel)
theorem zin_G_22 : Cond.fieldLink R_G 22 "WireCodec$Reading" "packetCount" "I" ∈ ztb := zmem 143 (by decide +kernel) (by decide +kernel)
theorem zin_G_25 : Cond.fieldLink R_G 25 "WireCodec$Reading" "limit" "I" ∈ ztb := zmem 145 (by decide +kernel) (by decide +kernel)
theorem zin_G_28 : Cond.fieldLink R_G 28 "WireCodec$Reading" "names" "I" ∈ ztb := zmem 147 (by decide +kernel) (by decide +kernel)
theorem zin_G_31 : Cond.fieldLink R_G 31 "WireCodec$Reading" "wrong" "I" ∈ ztb := zmem 149 (by decide +kernel) (by decide +kernel)
theorem zin_G_15 : Cond.fieldLink R_G 15 "WireCodec$Reading" "wrongPlace" "I" ∈ ztb := zmem 151 (by decide +kernel) (by decide +kernel)
theorem zin_G_9 : Cond.fieldLink R_G 9 "WireCodec$Reading" "places" "[I" ∈ ztb := zmem 140 (by decide +kernel) (by decide +kernel)
theorem zin_T_9 : Cond.fieldLink R_T 9 "WireCodec$Tape" "bytes" "[B" ∈ ztb := zmem 95 (by decide +kernel) (by decide +kernel)
noncomputable def g_D_isHeader_48 (sD : zD) : Option (Int32) := some ((0 : Int32))
noncomputable def g_D_isHeader_81 (sD : zD) : Option (Int32) := some ((0 : Int32))
noncomputable def g_D_isHeader_110 (sD : zD) : Option (Int32) := some ((0 : Int32))
noncomputable def g_D_isHeader_137 (sD : zD) (s0 : Int32) : Option (Int32) := zg (narrow .boolean (.int s0) = .int s0) (some (s0))
noncomputable def g_D_isHeader_132 (sD : zD) : Option (Int32) := g_D_isHeader_137 sD (1 : Int32)
noncomputable def g_D_isHeader_136 (sD : zD) : Option (Int32) := g_D_isHeader_137 sD (0 : Int32)
noncomputable def g_D_isHeader_112 (sD : zD) (v5 : Int32) (v6 : Int32) : Option (Int32) := if v6 = (0 : Int32) then (if v5 < (20 : Int32) then (g_D_isHeader_136 sD) else (if (16383 : Int32) < v5 then (g_D_isHeader_136 sD) else (g_D_isHeader_132 sD))) else (g_D_isHeader_132 sD)
noncomputable def g_D_isHeader_78 (sD : zD) (v1 : Int32) (v3 : Int32) (v4 : Int32) (v5 : Int32) (v6 : Int32) (s0 : Int32) (s1 : Int32) : Option (Int32) := if s1 ≤ s0 then (if (zD_length sD) < (v3 + v4) then (g_D_isHeader_110 sD) else (if v1 = (2 : Int32) then (if (zD_length sD) ≤ (v3 + v4) then (g_D_isHeader_112 sD v5 v6) else (g_D_isHeader_110 sD)) else (g_D_isHeader_112 sD v5 v6))) else (g_D_isHeader_81 sD)
noncomputable def g_D_isHeader_45 (sD : zD) (v1 : Int32) (v3 : Int32) (v4 : Int32) (v5 : Int32) (v6 : Int32) (s0 : Int32) (s1 : Int32) : Option (Int32) := if s1 ≤ s0 then (if v3 < (0 : Int32) then (g_D_isHeader_81 sD) else (if (20 : Int32) < v3 then (g_D_isHeader_81 sD) else (if v4 < (0 : Int32) then (g_D_isHeader_81 sD) else (if v6 = (0 : Int32) then (g_D_isHeader_78 sD v1 v3 v4 v5 v6 (20 : Int32) v4) else (g_D_isHeader_78 sD v1 v3 v4 v5 v6 (0 : Int32) v4))))) else (g_D_isHeader_48 sD)
noncomputable def g_D_isHeader_28 (sD : zD) (v1 : Int32) (v2 : Int32) (v3 : Int32) (v4 : Int32) (v5 : Int32) (v6 : Int32) : Option (Int32) := if v2 < (0 : Int32) then (g_D_isHeader_48 sD) else (if v6 = (0 : Int32) then (g_D_isHeader_45 sD v1 v3 v4 v5 v6 (15 : Int32) v2) else (g_D_isHeader_45 sD v1 v3 v4 v5 v6 (63 : Int32) v2))
noncomputable def g_D_isHeader_10 (sD : zD) (v1 : Int32) (v2 : Int32) (v3 : Int32) (v4 : Int32) (v5 : Int32) (s0 : Int32) : Option (Int32) := if v1 = (0 : Int32) then (g_D_isHeader_28 sD v1 v2 v3 v4 v5 s0) else (if v1 = (2 : Int32) then (g_D_isHeader_28 sD v1 v2 v3 v4 v5 s0) else (if s0 = (0 : Int32) then (some ((0 : Int32))) else (g_D_isHeader_28 sD v1 v2 v3 v4 v5 s0)))
noncomputable def g_D_isHeader (sD : zD) (v1 : Int32) (v2 : Int32) (v3 : Int32) (v4 : Int32) (v5 : Int32) : Option (Int32) := if v1 = (4 : Int32) then (g_D_isHeader_10 sD v1 v2 v3 v4 v5 (1 : Int32)) else (g_D_isHeader_10 sD v1 v2 v3 v4 v5 (0 : Int32))
def q_D_isHeader (dC : Nat → ClassId) (dI : Nat → Nat → Nat) (cB cI cL : ClassId) (A : Nat → Prop) (adD : Nat) (adD_parts : Nat) (adD_bytes : Nat) (adD_lows : Nat) (adD_highs : Nat) (sD : zD) (a : Int32) : Array Value → State → Outcome → State → Prop := va_Qi (fun (r : Int32) (u : Unit) => (r) = a) (fun u U => va_P (dC, dI) zcl (zwD adD adD_parts adD_bytes adD_lows adD_highs cB cI cL sD) U.heap ∧ va_D A (zwD adD adD_parts adD_bytes adD_lows adD_highs cB cI cL sD)) A
set_option maxRecDepth 100000 in
set_option maxHeartbeats 4000000 in
theorem k_D_isHeader_48 {p : Program} {l : Launch} {e : Env} {R : Room} {s : State} {m : MethodId} {args : Array Value} {below : List Frame} {meth : Method} {c : Code} {dC : Nat → ClassId} {dI : Nat → Nat → Nat} {cB cI cL : ClassId} {A : Nat → Prop} (X : zx p s m args meth c R R_D b_D_isHeader (some .boolean) 7 0 0) (hA : ∀ q, s.heap.size ≤ q → A q) (zz : zk dC dI cB cI cL A s)  (sD : zD) (a : Int32) (hG : g_D_isHeader_48 sD = some a) (adD adD_parts adD_bytes adD_lows adD_highs : Nat) (H : Heap) (locs : List Loc) (hP : va_P (dC, dI) zcl (zwD adD adD_parts adD_bytes adD_lows adD_highs cB cI cL sD) H) (hD : va_D A (zwD adD adD_parts adD_bytes adD_lows adD_highs cB cI cL sD)) (hS : va_S A s.heap H locs) (ls : Array Slot) (hl : lv_has ls 7 []) : W p l e R s m args below meth c H locs 0 0 (MQ below (q_D_isHeader dC dI cB cI cL A adD adD_parts adD_bytes adD_lows adD_highs sD a) args s 0 0 A) (F0 m 48 ls []) := by
  obtain ⟨hx, hb, hr, hml, hown, hts, hlocks, hRf, hRl⟩ := id X
  unfold g_D_isHeader_48 at hG
  refine lv_iconst (v := (0 : Int32)) hx hb d_D_isHeader_48 (by decide) ?_
  exact W.zret (v := (0 : Int32)) hx hb hr (by decide) (fun t9 ht9 hW9 => ⟨⟨(0 : Int32), (), rfl, Option.some.inj hG, by rw [ht9]; exact hP, hD⟩, hS.F ht9⟩) hS.2.2 d_D_isHeader_49
set_option maxRecDepth 100000 in
set_option maxHeartbeats 4000000 in
theorem k_D_isHeader_81 {p : Program} {l : Launch} {e : Env} {R : Room} {s : State} {m : MethodId} {args : Array Value} {below : List Frame} {meth : Method} {c : Code} {dC : Nat → ClassId} {dI : Nat → Nat → Nat} {cB cI cL : ClassId} {A : Nat → Prop} (X : zx p s m args meth c R R_D b_D_isHeader (some .boolean) 7 0 0) (hA : ∀ q, s.heap.size ≤ q → A q) (zz : zk dC dI cB cI cL A s)  (sD : zD) (a : Int32) (hG : g_D_isHeader_81 sD = some a) (adD adD_parts adD_bytes adD_lows adD_highs : Nat) (H : Heap) (locs : List Loc) (hP : va_P (dC, dI) zcl (zwD adD adD_parts adD_bytes adD_lows adD_highs cB cI cL sD) H) (hD : va_D A (zwD adD adD_parts adD_bytes adD_lows adD_highs cB cI cL sD)) (hS : va_S A s.heap H locs) (ls : Array Slot) (hl : lv_has ls 7 []) : W p l e R s m args below meth c H locs 0 0 (MQ below (q_D_isHeader dC dI cB cI cL A adD adD_parts adD_bytes adD_lows adD_highs sD a) args s 0 0 A) (F0 m 81 ls []) := by
  obtain ⟨hx, hb, hr, hml, hown, hts, hlocks, hRf, hRl⟩ := id X
  unfold g_D_isHeader_81 at hG
  refine lv_iconst (v := (0 : Int32)) hx hb d_D_isHeader_81 (by decide) ?_
  exact W.zret (v := (0 : Int32)) hx hb hr (by decide) (fun t9 ht9 hW9 => ⟨⟨(0 : Int32), (), rfl, Option.some.inj hG, by rw [ht9]; exact hP, hD⟩, hS.F ht9⟩) hS.2.2 d_D_isHeader_82
set_option maxRecDepth 100000 in
set_option maxHeartbeats 4000000 in
theorem k_D_isHeader_110 {p : Program} {l : Launch} {e : Env} {R : Room} {s : State} {m : MethodId} {args : Array Value} {below : List Frame} {meth : Method} {c : Code} {dC : Nat → ClassId} {dI : Nat → Nat → Nat} {cB cI cL : ClassId} {A : Nat → Prop} (X : zx p s m args meth c R R_D b_D_isHeader (some .boolean) 7 0 0) (hA : ∀ q, s.heap.size ≤ q → A q) (zz : zk dC dI cB cI cL A s)  (sD : zD) (a : Int32) (hG : g_D_isHeader_110 sD = some a) (adD adD_parts adD_bytes adD_lows adD_highs : Nat) (H : Heap) (locs : List Loc) (hP : va_P (dC, dI) zcl (zwD adD adD_parts adD_bytes adD_lows adD_highs cB cI cL sD) H) (hD : va_D A (zwD adD adD_parts adD_bytes adD_lows adD_highs cB cI cL sD)) (hS : va_S A s.heap H locs) (ls : Array Slot) (hl : lv_has ls 7 []) : W p l e R s m args below meth c H locs 0 0 (MQ below (q_D_isHeader dC dI cB cI cL A adD adD_parts adD_bytes adD_lows adD_highs sD a) args s 0 0 A) (F0 m 110 ls []) := by
  obtain ⟨hx, hb, hr, hml, hown, hts, hlocks, hRf, hRl⟩ := id X
  unfold g_D_isHeader_110 at hG
  refine lv_iconst (v := (0 : Int32)) hx hb d_D_isHeader_110 (by decide) ?_
  exact W.zret (v := (0 : Int32)) hx hb hr (by decide) (fun t9 ht9 hW9 => ⟨⟨(0 : Int32), (), rfl, Option.some.inj hG, by rw [ht9]; exact hP, hD⟩, hS.F ht9⟩) hS.2.2 d_D_isHeader_111
set_option maxRecDepth 100000 in
set_option maxHeartbeats 4000000 in
theorem k_D_isHeader_137 {p : Program} {l : Launch} {e : Env} {R : Room} {s : State} {m : MethodId} {args : Array Value} {below : List Frame} {meth : Method} {c : Code} {dC : Nat → ClassId} {dI : Nat → Nat → Nat} {cB cI cL : ClassId} {A : Nat → Prop} (X : zx p s m args meth c R R_D b_D_isHeader (some .boolean) 7 0 0) (hA : ∀ q, s.heap.size ≤ q → A q) (zz : zk dC dI cB cI cL A s)  (sD : zD) (s0 : Int32) (a : Int32) (hG : g_D_isHeader_137 sD s0 = some a) (adD adD_parts adD_bytes adD_lows adD_highs : Nat) (H : Heap) (locs : List Loc) (hP : va_P (dC, dI) zcl (zwD adD adD_parts adD_bytes adD_lows adD_highs cB cI cL sD) H) (hD : va_D A (zwD adD adD_parts adD_bytes adD_lows adD_highs cB cI cL sD)) (hS : va_S A s.heap H locs) (ls : Array Slot) (hl : lv_has ls 7 []) : W p l e R s m args below meth c H locs 0 0 (MQ below (q_D_isHeader dC dI cB cI cL A adD adD_parts adD_bytes adD_lows adD_highs sD a) args s 0 0 A) (F0 m 137 ls [.int s0]) := by
  obtain ⟨hx, hb, hr, hml, hown, hts, hlocks, hRf, hRl⟩ := id X
  unfold g_D_isHeader_137 at hG
  obtain ⟨hnb, hG⟩ := zgd hG
  exact W.zret (v := s0) hx hb hr hnb (fun t9 ht9 hW9 => ⟨⟨s0, (), rfl, Option.some.inj hG, by rw [ht9]; exact hP, hD⟩, hS.F ht9⟩) hS.2.2 d_D_isHeader_137
set_option maxRecDepth 100000 in
set_option maxHeartbeats 4000000 in
theorem k_D_isHeader_132 {p : Program} {l : Launch} {e : Env} {R : Room} {s : State} {m : MethodId} {args : Array Value} {below : List Frame} {meth : Method} {c : Code} {dC : Nat → ClassId} {dI : Nat → Nat → Nat} {cB cI cL : ClassId} {A : Nat → Prop} (X : zx p s m args meth c R R_D b_D_isHeader (some .boolean) 7 0 0) (hA : ∀ q, s.heap.size ≤ q → A q) (zz : zk dC dI cB cI cL A s)  (sD : zD) (a : Int32) (hG : g_D_isHeader_132 sD = some a) (adD adD_parts adD_bytes adD_lows adD_highs : Nat) (H : Heap) (locs : List Loc) (hP : va_P (dC, dI) zcl (zwD adD adD_parts adD_bytes adD_lows adD_highs cB cI cL sD) H) (hD : va_D A (zwD adD adD_parts adD_bytes adD_lows adD_highs cB cI cL sD)) (hS : va_S A s.heap H locs) (ls : Array Slot) (hl : lv_has ls 7 []) : W p l e R s m args below meth c H locs 0 0 (MQ below (q_D_isHeader dC dI cB cI cL A adD adD_parts adD_bytes adD_lows adD_highs sD a) args s 0 0 A) (F0 m 132 ls []) := by
  obtain ⟨hx, hb, hr, hml, hown, hts, hlocks, hRf, hRl⟩ := id X
  unfold g_D_isHeader_132 at hG
  refine lv_iconst (v := (1 : Int32)) hx hb d_D_isHeader_132 (by decide) ?_
  refine lv_goto (tgt := 137) hx hb d_D_isHeader_133 (by decide) ?_
  exact k_D_isHeader_137 X hA zz sD (1 : Int32) _ hG adD adD_parts adD_bytes adD_lows adD_highs _ _ hP hD hS _ (lv_sub hl [] rfl)
set_option maxRecDepth 100000 in
set_option maxHeartbeats 4000000 in
theorem k_D_isHeader_136 {p : Program} {l : Launch} {e : Env} {R : Room} {s : State} {m : MethodId} {args : Array Value} {below : List Frame} {meth : Method} {c : Code} {dC : Nat → ClassId} {dI : Nat → Nat → Nat} {cB cI cL : ClassId} {A : Nat → Prop} (X : zx p s m args meth c R R_D b_D_isHeader (some .boolean) 7 0 0) (hA : ∀ q, s.heap.size ≤ q → A q) (zz : zk dC dI cB cI cL A s)  (sD : zD) (a : Int32) (hG : g_D_isHeader_136 sD = some a) (adD adD_parts adD_bytes adD_lows adD_highs : Nat) (H : Heap) (locs : List Loc) (hP : va_P (dC, dI) zcl (zwD adD adD_parts adD_bytes adD_lows adD_highs cB cI cL sD) H) (hD : va_D A (zwD adD adD_parts adD_bytes adD_lows adD_highs cB cI cL sD)) (hS : va_S A s.heap H locs) (ls : Array Slot) (hl : lv_has ls 7 []) : W p l e R s m args below meth c H locs 0 0 (MQ below (q_D_isHeader dC dI cB cI cL A adD adD_parts adD_bytes adD_lows adD_highs sD a) args s 0 0 A) (F0 m 136 ls []) := by
  obtain ⟨hx, hb, hr, hml, hown, hts, hlocks, hRf, hRl⟩ := id X
  unfold g_D_isHeader_136 at hG
  refine lv_iconst (v := (0 : Int32)) hx hb d_D_isHeader_136 (by decide) ?_
  exact k_D_isHeader_137 X hA zz sD (0 : Int32) _ hG adD adD_parts adD_bytes adD_lows adD_highs _ _ hP hD hS _ (lv_sub hl [] rfl)
set_option maxRecDepth 100000 in
set_option maxHeartbeats 4000000 in
theorem k_D_isHeader_112 {p : Program} {l : Launch} {e : Env} {R : Room} {s : State} {m : MethodId} {args : Array Value} {below : List Frame} {meth : Method} {c : Code} {dC : Nat → ClassId} {dI : Nat → Nat → Nat} {cB cI cL : ClassId} {A : Nat → Prop} (X : zx p s m args meth c R R_D b_D_isHeader (some .boolean) 7 0 0) (hA : ∀ q, s.heap.size ≤ q → A q) (zz : zk dC dI cB cI cL A s)  (sD : zD) (v5 : Int32) (v6 : Int32) (a : Int32) (hG : g_D_isHeader_112 sD v5 v6 = some a) (adD adD_parts adD_bytes adD_lows adD_highs : Nat) (H : Heap) (locs : List Loc) (hP : va_P (dC, dI) zcl (zwD adD adD_parts adD_bytes adD_lows adD_highs cB cI cL sD) H) (hD : va_D A (zwD adD adD_parts adD_bytes adD_lows adD_highs cB cI cL sD)) (hS : va_S A s.heap H locs) (ls : Array Slot) (hl : lv_has ls 7 [(5, .int v5), (6, .int v6)]) : W p l e R s m args below meth c H locs 0 0 (MQ below (q_D_isHeader dC dI cB cI cL A adD adD_parts adD_bytes adD_lows adD_highs sD a) args s 0 0 A) (F0 m 112 ls []) := by
  obtain ⟨hx, hb, hr, hml, hown, hts, hlocks, hRf, hRl⟩ := id X
  unfold g_D_isHeader_112 at hG
  refine lv_iload hx hb d_D_isHeader_112 (lv_at hl 1 rfl) ?_
  refine lv_if_ne (tgt := 132) hx hb d_D_isHeader_114 (by decide) (fun hc => ?_) (fun hc => ?_)
  · have hG := zf hG hc
    exact k_D_isHeader_132 X hA zz sD _ hG adD adD_parts adD_bytes adD_lows adD_highs _ _ hP hD hS _ (lv_sub hl [] rfl)
  · have hG := zt hG hc
    refine lv_iload hx hb d_D_isHeader_117 (lv_at hl 0 rfl) ?_
    refine lv_bipush (v := (20 : Int32)) hx hb d_D_isHeader_119 (by decide) ?_
    refine lv_icmp_lt (tgt := 136) hx hb d_D_isHeader_121 (by decide) (fun hc => ?_) (fun hc => ?_)
    · have hG := zt hG hc
      exact k_D_isHeader_136 X hA zz sD _ hG adD adD_parts adD_bytes adD_lows adD_highs _ _ hP hD hS _ (lv_sub hl [] rfl)
    · have hG := zf hG hc
      refine lv_iload hx hb d_D_isHeader_124 (lv_at hl 0 rfl) ?_
      refine lv_sipush (v := (16383 : Int32)) hx hb d_D_isHeader_126 (by decide) ?_
      refine lv_icmp_gt (tgt := 136) hx hb d_D_isHeader_129 (by decide) (fun hc => ?_) (fun hc => ?_)
      · have hG := zt hG hc
        exact k_D_isHeader_136 X hA zz sD _ hG adD adD_parts adD_bytes adD_lows adD_highs _ _ hP hD hS _ (lv_sub hl [] rfl)
      · have hG := zf hG hc
        exact k_D_isHeader_132 X hA zz sD _ hG adD adD_parts adD_bytes adD_lows adD_highs _ _ hP hD hS _ (lv_sub hl [] rfl)
set_option maxRecDepth 100000 in
set_option maxHeartbeats 4000000 in
theorem k_D_isHeader_78 {p : Program} {l : Launch} {e : Env} {R : Room} {s : State} {m : MethodId} {args : Array Value} {below : List Frame} {meth : Method} {c : Code} {dC : Nat → ClassId} {dI : Nat → Nat → Nat} {cB cI cL : ClassId} {A : Nat → Prop} (X : zx p s m args meth c R R_D b_D_isHeader (some .boolean) 7 0 0) (hA : ∀ q, s.heap.size ≤ q → A q) (zz : zk dC dI cB cI cL A s)  (sD : zD) (v1 : Int32) (v3 : Int32) (v4 : Int32) (v5 : Int32) (v6 : Int32) (s0 : Int32) (s1 : Int32) (a : Int32) (hG : g_D_isHeader_78 sD v1 v3 v4 v5 v6 s0 s1 = some a) (adD adD_parts adD_bytes adD_lows adD_highs : Nat) (H : Heap) (locs : List Loc) (hP : va_P (dC, dI) zcl (zwD adD adD_parts adD_bytes adD_lows adD_highs cB cI cL sD) H) (hD : va_D A (zwD adD adD_parts adD_bytes adD_lows adD_highs cB cI cL sD)) (hS : va_S A s.heap H locs) (ls : Array Slot) (hl : lv_has ls 7 [(0, .ref adD), (1, .int v1), (3, .int v3), (4, .int v4), (5, .int v5), (6, .int v6)]) : W p l e R s m args below meth c H locs 0 0 (MQ below (q_D_isHeader dC dI cB cI cL A adD adD_parts adD_bytes adD_lows adD_highs sD a) args s 0 0 A) (F0 m 78 ls [.int s0, .int s1]) := by
  obtain ⟨hx, hb, hr, hml, hown, hts, hlocks, hRf, hRl⟩ := id X
  unfold g_D_isHeader_78 at hG
  refine lv_icmp_le (tgt := 83) hx hb d_D_isHeader_78 (by decide) (fun hc => ?_) (fun hc => ?_)
  · have hG := zt hG hc
    refine lv_aload_n hx hb d_D_isHeader_83 rfl (lv_at hl 0 rfl) ?_
    refine va_get (D := (dC, dI)) (ci := 6) (v := .int (zD_length sD)) (C := R_D) (T := F_D) (N := 6) hx hb hts zi_D hown zz.1 hP 0 rfl rfl 4 (by decide) (hts (.fieldLink R_D 31 "WireCodec$Draft" "length" "I") zin_D_31) (fun _ h9 => h9) rfl d_D_isHeader_84 ?_
    refine lv_iload_n hx hb d_D_isHeader_87 rfl (lv_at hl 2 rfl) ?_
    refine lv_iload hx hb d_D_isHeader_88 (lv_at hl 3 rfl) ?_
    refine lv_iadd hx hb d_D_isHeader_90 ?_
    refine lv_icmp_lt (tgt := 110) hx hb d_D_isHeader_91 (by decide) (fun hc => ?_) (fun hc => ?_)
    · have hG := zt hG hc
      exact k_D_isHeader_110 X hA zz sD _ hG adD adD_parts adD_bytes adD_lows adD_highs _ _ hP hD hS _ (lv_sub hl [] rfl)
    · have hG := zf hG hc
      refine lv_iload_n hx hb d_D_isHeader_94 rfl (lv_at hl 1 rfl) ?_
      refine lv_iconst (v := (2 : Int32)) hx hb d_D_isHeader_95 (by decide) ?_
      refine lv_icmp_ne (tgt := 112) hx hb d_D_isHeader_96 (by decide) (fun hc => ?_) (fun hc => ?_)
      · have hG := zf hG hc
        exact k_D_isHeader_112 X hA zz sD v5 v6 _ hG adD adD_parts adD_bytes adD_lows adD_highs _ _ hP hD hS _ (lv_sub hl [4, 5] rfl)
      · have hG := zt hG hc
        refine lv_aload_n hx hb d_D_isHeader_99 rfl (lv_at hl 0 rfl) ?_
        refine va_get (D := (dC, dI)) (ci := 6) (v := .int (zD_length sD)) (C := R_D) (T := F_D) (N := 6) hx hb hts zi_D hown zz.1 hP 0 rfl rfl 4 (by decide) (hts (.fieldLink R_D 31 "WireCodec$Draft" "length" "I") zin_D_31) (fun _ h9 => h9) rfl d_D_isHeader_100 ?_
        refine lv_iload_n hx hb d_D_isHeader_103 rfl (lv_at hl 2 rfl) ?_
        refine lv_iload hx hb d_D_isHeader_104 (lv_at hl 3 rfl) ?_
        refine lv_iadd hx hb d_D_isHeader_106 ?_
        refine lv_icmp_le (tgt := 112) hx hb d_D_isHeader_107 (by decide) (fun hc => ?_) (fun hc => ?_)
        · have hG := zt hG hc
          exact k_D_isHeader_112 X hA zz sD v5 v6 _ hG adD adD_parts adD_bytes adD_lows adD_highs _ _ hP hD hS _ (lv_sub hl [4, 5] rfl)
        · have hG := zf hG hc
          exact k_D_isHeader_110 X hA zz sD _ hG adD adD_parts adD_bytes adD_lows adD_highs _ _ hP hD hS _ (lv_sub hl [] rfl)
  · have hG := zf hG hc
    exact k_D_isHeader_81 X hA zz sD _ hG adD adD_parts adD_bytes adD_lows adD_highs _ _ hP hD hS _ (lv_sub hl [] rfl)
set_option maxRecDepth 100000 in
set_option maxHeartbeats 4000000 in
theorem k_D_isHeader_45 {p : Program} {l : Launch} {e : Env} {R : Room} {s : State} {m : MethodId} {args : Array Value} {below : List Frame} {meth : Method} {c : Code} {dC : Nat → ClassId} {dI : Nat → Nat → Nat} {cB cI cL : ClassId} {A : Nat → Prop} (X : zx p s m args meth c R R_D b_D_isHeader (some .boolean) 7 0 0) (hA : ∀ q, s.heap.size ≤ q → A q) (zz : zk dC dI cB cI cL A s)  (sD : zD) (v1 : Int32) (v3 : Int32) (v4 : Int32) (v5 : Int32) (v6 : Int32) (s0 : Int32) (s1 : Int32) (a : Int32) (hG : g_D_isHeader_45 sD v1 v3 v4 v5 v6 s0 s1 = some a) (adD adD_parts adD_bytes adD_lows adD_highs : Nat) (H : Heap) (locs : List Loc) (hP : va_P (dC, dI) zcl (zwD adD adD_parts adD_bytes adD_lows adD_highs cB cI cL sD) H) (hD : va_D A (zwD adD adD_parts adD_bytes adD_lows adD_highs cB cI cL sD)) (hS : va_S A s.heap H locs) (ls : Array Slot) (hl : lv_has ls 7 [(0, .ref adD), (1, .int v1), (3, .int v3), (4, .int v4), (5, .int v5), (6, .int v6)]) : W p l e R s m args below meth c H locs 0 0 (MQ below (q_D_isHeader dC dI cB cI cL A adD adD_parts adD_bytes adD_lows adD_highs sD a) args s 0 0 A) (F0 m 45 ls [.int s0, .int s1]) := by
  obtain ⟨hx, hb, hr, hml, hown, hts, hlocks, hRf, hRl⟩ := id X
  unfold g_D_isHeader_45 at hG
  refine lv_icmp_le (tgt := 50) hx hb d_D_isHeader_45 (by decide) (fun hc => ?_) (fun hc => ?_)
  · have hG := zt hG hc
    refine lv_iload_n hx hb d_D_isHeader_50 rfl (lv_at hl 2 rfl) ?_
    refine lv_if_lt (tgt := 81) hx hb d_D_isHeader_51 (by decide) (fun hc => ?_) (fun hc => ?_)
    · have hG := zt hG hc
      exact k_D_isHeader_81 X hA zz sD _ hG adD adD_parts adD_bytes adD_lows adD_highs _ _ hP hD hS _ (lv_sub hl [] rfl)
    · have hG := zf hG hc
      refine lv_iload_n hx hb d_D_isHeader_54 rfl (lv_at hl 2 rfl) ?_
      refine lv_bipush (v := (20 : Int32)) hx hb d_D_isHeader_55 (by decide) ?_
      refine lv_icmp_gt (tgt := 81) hx hb d_D_isHeader_57 (by decide) (fun hc => ?_) (fun hc => ?_)
      · have hG := zt hG hc
        exact k_D_isHeader_81 X hA zz sD _ hG adD adD_parts adD_bytes adD_lows adD_highs _ _ hP hD hS _ (lv_sub hl [] rfl)
      · have hG := zf hG hc
        refine lv_iload hx hb d_D_isHeader_60 (lv_at hl 3 rfl) ?_
        refine lv_if_lt (tgt := 81) hx hb d_D_isHeader_62 (by decide) (fun hc => ?_) (fun hc => ?_)
        · have hG := zt hG hc
          exact k_D_isHeader_81 X hA zz sD _ hG adD adD_parts adD_bytes adD_lows adD_highs _ _ hP hD hS _ (lv_sub hl [] rfl)
        · have hG := zf hG hc
          refine lv_iload hx hb d_D_isHeader_65 (lv_at hl 3 rfl) ?_
          refine lv_iload hx hb d_D_isHeader_67 (lv_at hl 5 rfl) ?_
          refine lv_if_eq (tgt := 76) hx hb d_D_isHeader_69 (by decide) (fun hc => ?_) (fun hc => ?_)
          · have hG := zt hG hc
            refine lv_bipush (v := (20 : Int32)) hx hb d_D_isHeader_76 (by decide) ?_
            exact k_D_isHeader_78 X hA zz sD v1 v3 v4 v5 v6 (20 : Int32) v4 _ hG adD adD_parts adD_bytes adD_lows adD_highs _ _ hP hD hS _ (lv_sub hl [0, 1, 2, 3, 4, 5] rfl)
          · have hG := zf hG hc
            refine lv_iconst (v := (0 : Int32)) hx hb d_D_isHeader_72 (by decide) ?_
            refine lv_goto (tgt := 78) hx hb d_D_isHeader_73 (by decide) ?_
            exact k_D_isHeader_78 X hA zz sD v1 v3 v4 v5 v6 (0 : Int32) v4 _ hG adD adD_parts adD_bytes adD_lows adD_highs _ _ hP hD hS _ (lv_sub hl [0, 1, 2, 3, 4, 5] rfl)
  · have hG := zf hG hc
    exact k_D_isHeader_48 X hA zz sD _ hG adD adD_parts adD_bytes adD_lows adD_highs _ _ hP hD hS _ (lv_sub hl [] rfl)
set_option maxRecDepth 100000 in
set_option maxHeartbeats 4000000 in
theorem k_D_isHeader_28 {p : Program} {l : Launch} {e : Env} {R : Room} {s : State} {m : MethodId} {args : Array Value} {below : List Frame} {meth : Method} {c : Code} {dC : Nat → ClassId} {dI : Nat → Nat → Nat} {cB cI cL : ClassId} {A : Nat → Prop} (X : zx p s m args meth c R R_D b_D_isHeader (some .boolean) 7 0 0) (hA : ∀ q, s.heap.size ≤ q → A q) (zz : zk dC dI cB cI cL A s)  (sD : zD) (v1 : Int32) (v2 : Int32) (v3 : Int32) (v4 : Int32) (v5 : Int32) (v6 : Int32) (a : Int32) (hG : g_D_isHeader_28 sD v1 v2 v3 v4 v5 v6 = some a) (adD adD_parts adD_bytes adD_lows adD_highs : Nat) (H : Heap) (locs : List Loc) (hP : va_P (dC, dI) zcl (zwD adD adD_parts adD_bytes adD_lows adD_highs cB cI cL sD) H) (hD : va_D A (zwD adD adD_parts adD_bytes adD_lows adD_highs cB cI cL sD)) (hS : va_S A s.heap H locs) (ls : Array Slot) (hl : lv_has ls 7 [(0, .ref adD), (1, .int v1), (2, .int v2), (3, .int v3), (4, .int v4), (5, .int v5), (6, .int v6)]) : W p l e R s m args below meth c H locs 0 0 (MQ below (q_D_isHeader dC dI cB cI cL A adD adD_parts adD_bytes adD_lows adD_highs sD a) args s 0 0 A) (F0 m 28 ls []) := by
  obtain ⟨hx, hb, hr, hml, hown, hts, hlocks, hRf, hRl⟩ := id X
  unfold g_D_isHeader_28 at hG
  refine lv_iload_n hx hb d_D_isHeader_28 rfl (lv_at hl 2 rfl) ?_
  refine lv_if_lt (tgt := 48) hx hb d_D_isHeader_29 (by decide) (fun hc => ?_) (fun hc => ?_)
  · have hG := zt hG hc
    exact k_D_isHeader_48 X hA zz sD _ hG adD adD_parts adD_bytes adD_lows adD_highs _ _ hP hD hS _ (lv_sub hl [] rfl)
  · have hG := zf hG hc
    refine lv_iload_n hx hb d_D_isHeader_32 rfl (lv_at hl 2 rfl) ?_
    refine lv_iload hx hb d_D_isHeader_33 (lv_at hl 6 rfl) ?_
    refine lv_if_eq (tgt := 43) hx hb d_D_isHeader_35 (by decide) (fun hc => ?_) (fun hc => ?_)
    · have hG := zt hG hc
      refine lv_bipush (v := (15 : Int32)) hx hb d_D_isHeader_43 (by decide) ?_
      exact k_D_isHeader_45 X hA zz sD v1 v3 v4 v5 v6 (15 : Int32) v2 _ hG adD adD_parts adD_bytes adD_lows adD_highs _ _ hP hD hS _ (lv_sub hl [0, 1, 3, 4, 5, 6] rfl)
    · have hG := zf hG hc
      refine lv_bipush (v := (63 : Int32)) hx hb d_D_isHeader_38 (by decide) ?_
      refine lv_goto (tgt := 45) hx hb d_D_isHeader_40 (by decide) ?_
      exact k_D_isHeader_45 X hA zz sD v1 v3 v4 v5 v6 (63 : Int32) v2 _ hG adD adD_parts adD_bytes adD_lows adD_highs _ _ hP hD hS _ (lv_sub hl [0, 1, 3, 4, 5, 6] rfl)
set_option maxRecDepth 100000 in
set_option maxHeartbeats 4000000 in
theorem k_D_isHeader_10 {p : Program} {l : Launch} {e : Env} {R : Room} {s : State} {m : MethodId} {args : Array Value} {below : List Frame} {meth : Method} {c : Code} {dC : Nat → ClassId} {dI : Nat → Nat → Nat} {cB cI cL : ClassId} {A : Nat → Prop} (X : zx p s m args meth c R R_D b_D_isHeader (some .boolean) 7 0 0) (hA : ∀ q, s.heap.size ≤ q → A q) (zz : zk dC dI cB cI cL A s)  (sD : zD) (v1 : Int32) (v2 : Int32) (v3 : Int32) (v4 : Int32) (v5 : Int32) (s0 : Int32) (a : Int32) (hG : g_D_isHeader_10 sD v1 v2 v3 v4 v5 s0 = some a) (adD adD_parts adD_bytes adD_lows adD_highs : Nat) (H : Heap) (locs : List Loc) (hP : va_P (dC, dI) zcl (zwD adD adD_parts adD_bytes adD_lows adD_highs cB cI cL sD) H) (hD : va_D A (zwD adD adD_parts adD_bytes adD_lows adD_highs cB cI cL sD)) (hS : va_S A s.heap H locs) (ls : Array Slot) (hl : lv_has ls 7 [(0, .ref adD), (1, .int v1), (2, .int v2), (3, .int v3), (4, .int v4), (5, .int v5)]) : W p l e R s m args below meth c H locs 0 0 (MQ below (q_D_isHeader dC dI cB cI cL A adD adD_parts adD_bytes adD_lows adD_highs sD a) args s 0 0 A) (F0 m 10 ls [.int s0]) := by
  obtain ⟨hx, hb, hr, hml, hown, hts, hlocks, hRf, hRl⟩ := id X
  unfold g_D_isHeader_10 at hG
  refine lv_istore (lv' := [(6, .int s0), (0, .ref adD), (1, .int v1), (2, .int v2), (3, .int v3), (4, .int v4), (5, .int v5)]) hx hb d_D_isHeader_10 hl (by decide) rfl (fun ls hl => ?_)
  refine lv_iload_n hx hb d_D_isHeader_12 rfl (lv_at hl 2 rfl) ?_
  refine lv_if_eq (tgt := 28) hx hb d_D_isHeader_13 (by decide) (fun hc => ?_) (fun hc => ?_)
  · have hG := zt hG hc
    exact k_D_isHeader_28 X hA zz sD v1 v2 v3 v4 v5 s0 _ hG adD adD_parts adD_bytes adD_lows adD_highs _ _ hP hD hS _ (lv_sub hl [1, 2, 3, 4, 5, 6, 0] rfl)
  · have hG := zf hG hc
    refine lv_iload_n hx hb d_D_isHeader_16 rfl (lv_at hl 2 rfl) ?_
    refine lv_iconst (v := (2 : Int32)) hx hb d_D_isHeader_17 (by decide) ?_
    refine lv_icmp_eq (tgt := 28) hx hb d_D_isHeader_18 (by decide) (fun hc => ?_) (fun hc => ?_)
    · have hG := zt hG hc
      exact k_D_isHeader_28 X hA zz sD v1 v2 v3 v4 v5 s0 _ hG adD adD_parts adD_bytes adD_lows adD_highs _ _ hP hD hS _ (lv_sub hl [1, 2, 3, 4, 5, 6, 0] rfl)
    · have hG := zf hG hc
      refine lv_iload hx hb d_D_isHeader_21 (lv_at hl 0 rfl) ?_
      refine lv_if_ne (tgt := 28) hx hb d_D_isHeader_23 (by decide) (fun hc => ?_) (fun hc => ?_)
      · have hG := zf hG hc
        exact k_D_isHeader_28 X hA zz sD v1 v2 v3 v4 v5 s0 _ hG adD adD_parts adD_bytes adD_lows adD_highs _ _ hP hD hS _ (lv_sub hl [1, 2, 3, 4, 5, 6, 0] rfl)
      · have hG := zt hG hc
        refine lv_iconst (v := (0 : Int32)) hx hb d_D_isHeader_26 (by decide) ?_
        exact W.zret (v := (0 : Int32)) hx hb hr (by decide) (fun t9 ht9 hW9 => ⟨⟨(0 : Int32), (), rfl, Option.some.inj hG, by rw [ht9]; exact hP, hD⟩, hS.F ht9⟩) hS.2.2 d_D_isHeader_27
set_option maxRecDepth 100000 in
set_option maxHeartbeats 4000000 in
theorem k_D_isHeader_0 {p : Program} {l : Launch} {e : Env} {R : Room} {s : State} {m : MethodId} {args : Array Value} {below : List Frame} {meth : Method} {c : Code} {dC : Nat → ClassId} {dI : Nat → Nat → Nat} {cB cI cL : ClassId} {A : Nat → Prop} (X : zx p s m args meth c R R_D b_D_isHeader (some .boolean) 7 0 0) (hA : ∀ q, s.heap.size ≤ q → A q) (zz : zk dC dI cB cI cL A s)  (sD : zD) (v1 : Int32) (v2 : Int32) (v3 : Int32) (v4 : Int32) (v5 : Int32) (a : Int32) (hG : g_D_isHeader sD v1 v2 v3 v4 v5 = some a) (adD adD_parts adD_bytes adD_lows adD_highs : Nat) (H : Heap) (locs : List Loc) (hP : va_P (dC, dI) zcl (zwD adD adD_parts adD_bytes adD_lows adD_highs cB cI cL sD) H) (hD : va_D A (zwD adD adD_parts adD_bytes adD_lows adD_highs cB cI cL sD)) (hS : va_S A s.heap H locs) (ls : Array Slot) (hl : lv_has ls 7 [(0, .ref adD), (1, .int v1), (2, .int v2), (3, .int v3), (4, .int v4), (5, .int v5)]) : W p l e R s m args below meth c H locs 0 0 (MQ below (q_D_isHeader dC dI cB cI cL A adD adD_parts adD_bytes adD_lows adD_highs sD a) args s 0 0 A) (F0 m 0 ls []) := by
  obtain ⟨hx, hb, hr, hml, hown, hts, hlocks, hRf, hRl⟩ := id X
  unfold g_D_isHeader at hG
  refine lv_iload_n hx hb d_D_isHeader_0 rfl (lv_at hl 1 rfl) ?_
  refine lv_iconst (v := (4 : Int32)) hx hb d_D_isHeader_1 (by decide) ?_
  refine lv_icmp_ne (tgt := 9) hx hb d_D_isHeader_2 (by decide) (fun hc => ?_) (fun hc => ?_)
  · have hG := zf hG hc
    refine lv_iconst (v := (0 : Int32)) hx hb d_D_isHeader_9 (by decide) ?_
    exact k_D_isHeader_10 X hA zz sD v1 v2 v3 v4 v5 (0 : Int32) _ hG adD adD_parts adD_bytes adD_lows adD_highs _ _ hP hD hS _ (lv_sub hl [0, 1, 2, 3, 4, 5] rfl)
  · have hG := zt hG hc
    refine lv_iconst (v := (1 : Int32)) hx hb d_D_isHeader_5 (by decide) ?_
    refine lv_goto (tgt := 10) hx hb d_D_isHeader_6 (by decide) ?_
    exact k_D_isHeader_10 X hA zz sD v1 v2 v3 v4 v5 (1 : Int32) _ hG adD adD_parts adD_bytes adD_lows adD_highs _ _ hP hD hS _ (lv_sub hl [0, 1, 2, 3, 4, 5] rfl)
set_option maxRecDepth 100000 in
set_option maxHeartbeats 4000000 in
theorem c_D_isHeader (l : Launch) (dC : Nat → ClassId) (dI : Nat → Nat → Nat) (cB cI cL : ClassId) (sz : Nat) (adD adD_parts adD_bytes adD_lows adD_highs : Nat) (sD : zD) (v1 : Int32) (v2 : Int32) (v3 : Int32) (v4 : Int32) (v5 : Int32) (a : Int32) (hG : g_D_isHeader sD v1 v2 v3 v4 v5 = some a) : Met l y_D_isHeader (zw y_D_isHeader b_D_isHeader 7 (some .boolean)) ({ frames := 0, cells := 0, slots := 0, locals := 0 }) (va_Pc [.ref adD, .int v1, .int v2, .int v3, .int v4, .int v5] (zpre dC dI cB cI cL sz (zwD adD adD_parts adD_bytes adD_lows adD_highs cB cI cL sD))) (q_D_isHeader dC dI cB cI cL (va_A (zwD adD adD_parts adD_bytes adD_lows adD_highs cB cI cL sD) sz) adD adD_parts adD_bytes adD_lows adD_highs sD a) 0 0 (va_A (zwD adD adD_parts adD_bytes adD_lows adD_highs cB cI cL sD) sz) := by
  refine Met.ofW (cc := b_D_isHeader) (maxL := 7) (ret := (some .boolean)) (by decide) rfl ?_
  intro p e s m args below meth c s₁ B hml hv
  obtain ⟨rfl, hsz, hP, zz, hD0⟩ := hv
  subst hsz
  have X := zx_of (F := 0) (L := 0) B hml (Nat.le_refl _) (Nat.le_refl _)
  have hD := hD0.self (sz := s.heap.size)
  have hA : ∀ q : Nat, s.heap.size ≤ q → va_A (zwD adD adD_parts adD_bytes adD_lows adD_highs cB cI cL sD) s.heap.size q := fun q h => Or.inr h
  have hl := lv_entry ([.ref adD, .int v1, .int v2, .int v3, .int v4, .int v5]) (n := 7) (Nat.le_of_ble_eq_true rfl)
  rw [lg_entry_eq]
  generalize (lg_sl ([.ref adD, .int v1, .int v2, .int v3, .int v4, .int v5]) ++ List.replicate (7 - (lg_sl ([.ref adD, .int v1, .int v2, .int v3, .int v4, .int v5])).length) Slot.unset).toArray = ls at hl ⊢
  exact k_D_isHeader_0 X hA zz sD v1 v2 v3 v4 v5 a hG adD adD_parts adD_bytes adD_lows adD_highs _ _ hP hD va_S.rf ls hl
noncomputable def g_D_isBit_17 (s0 : Int32) : Option (Int32) := zg (narrow .boolean (.int s0) = .int s0) (some (s0))
noncomputable def g_D_isBit_12  : Option (Int32) := g_D_isBit_17 (1 : Int32)
noncomputable def g_D_isBit (v0 : Int64) : Option (Int32) := if (lg_cmp v0 (0 : Int64)) = (0 : Int32) then g_D_isBit_12 else (if (lg_cmp v0 (1 : Int64)) = (0 : Int32) then g_D_isBit_12 else (g_D_isBit_17 (0 : Int32)))
def q_D_isBit (dC : Nat → ClassId) (dI : Nat → Nat → Nat) (cB cI cL : ClassId) (A : Nat → Prop) (a : Int32) : Array Value → State → Outcome → State → Prop := va_Qi (fun (r : Int32) (u : Unit) => (r) = a) (fun u U => va_P (dC, dI) zcl ([] : va_W) U.heap ∧ va_D A ([] : va_W)) A
set_option maxRecDepth 100000 in
set_option maxHeartbeats 4000000 in
theorem k_D_isBit_17 {p : Program} {l : Launch} {e : Env} {R : Room} {s : State} {m : MethodId} {args : Array Value} {below : List Frame} {meth : Method} {c : Code} {dC : Nat → ClassId} {dI : Nat → Nat → Nat} {cB cI cL : ClassId} {A : Nat → Prop} (X : zx p s m args meth c R R_D b_D_isBit (some .boolean) 2 0 0) (hA : ∀ q, s.heap.size ≤ q → A q) (zz : zk dC dI cB cI cL A s)  (s0 : Int32) (a : Int32) (hG : g_D_isBit_17 s0 = some a) (H : Heap) (locs : List Loc) (hP : va_P (dC, dI) zcl ([] : va_W) H) (hD : va_D A ([] : va_W)) (hS : va_S A s.heap H locs) (ls : Array Slot) (hl : lv_has ls 2 []) : W p l e R s m args below meth c H locs 0 0 (MQ below (q_D_isBit dC dI cB cI cL A a) args s 0 0 A) (F0 m 17 ls [.int s0]) := by
  obtain ⟨hx, hb, hr, hml, hown, hts, hlocks, hRf, hRl⟩ := id X
  unfold g_D_isBit_17 at hG
  obtain ⟨hnb, hG⟩ := zgd hG
  exact W.zret (v := s0) hx hb hr hnb (fun t9 ht9 hW9 => ⟨⟨s0, (), rfl, Option.some.inj hG, by rw [ht9]; exact hP, hD⟩, hS.F ht9⟩) hS.2.2 d_D_isBit_17
set_option maxRecDepth 100000 in
set_option maxHeartbeats 4000000 in
theorem k_D_isBit_12 {p : Program} {l : Launch} {e : Env} {R : Room} {s : State} {m : MethodId} {args : Array Value} {below : List Frame} {meth : Method} {c : Code} {dC : Nat → ClassId} {dI : Nat → Nat → Nat} {cB cI cL : ClassId} {A : Nat → Prop} (X : zx p s m args meth c R R_D b_D_isBit (some .boolean) 2 0 0) (hA : ∀ q, s.heap.size ≤ q → A q) (zz : zk dC dI cB cI cL A s)  (a : Int32) (hG : g_D_isBit_12  = some a) (H : Heap) (locs : List Loc) (hP : va_P (dC, dI) zcl ([] : va_W) H) (hD : va_D A ([] : va_W)) (hS : va_S A s.heap H locs) (ls : Array Slot) (hl : lv_has ls 2 []) : W p l e R s m args below meth c H locs 0 0 (MQ below (q_D_isBit dC dI cB cI cL A a) args s 0 0 A) (F0 m 12 ls []) := by
  obtain ⟨hx, hb, hr, hml, hown, hts, hlocks, hRf, hRl⟩ := id X
  unfold g_D_isBit_12 at hG
  refine lv_iconst (v := (1 : Int32)) hx hb d_D_isBit_12 (by decide) ?_
  refine lv_goto (tgt := 17) hx hb d_D_isBit_13 (by decide) ?_
  exact k_D_isBit_17 X hA zz (1 : Int32) _ hG _ _ hP hD hS _ (lv_sub hl [] rfl)
set_option maxRecDepth 100000 in
set_option maxHeartbeats 4000000 in
theorem k_D_isBit_0 {p : Program} {l : Launch} {e : Env} {R : Room} {s : State} {m : MethodId} {args : Array Value} {below : List Frame} {meth : Method} {c : Code} {dC : Nat → ClassId} {dI : Nat → Nat → Nat} {cB cI cL : ClassId} {A : Nat → Prop} (X : zx p s m args meth c R R_D b_D_isBit (some .boolean) 2 0 0) (hA : ∀ q, s.heap.size ≤ q → A q) (zz : zk dC dI cB cI cL A s)  (v0 : Int64) (a : Int32) (hG : g_D_isBit v0 = some a) (H : Heap) (locs : List Loc) (hP : va_P (dC, dI) zcl ([] : va_W) H) (hD : va_D A ([] : va_W)) (hS : va_S A s.heap H locs) (ls : Array Slot) (hl : lv_has ls 2 [(0, .long v0)]) : W p l e R s m args below meth c H locs 0 0 (MQ below (q_D_isBit dC dI cB cI cL A a) args s 0 0 A) (F0 m 0 ls []) := by
  obtain ⟨hx, hb, hr, hml, hown, hts, hlocks, hRf, hRl⟩ := id X
  unfold g_D_isBit at hG
  refine lv_lload_n hx hb d_D_isBit_0 rfl (lv_at hl 0 rfl) ?_
  refine lv_lconst (v := (0 : Int64)) hx hb d_D_isBit_1 (by decide) ?_
  refine W.lcmp hx hb d_D_isBit_2 ?_
  refine lv_if_eq (tgt := 12) hx hb d_D_isBit_3 (by decide) (fun hc => ?_) (fun hc => ?_)
  · have hG := zt hG hc
    exact k_D_isBit_12 X hA zz _ hG _ _ hP hD hS _ (lv_sub hl [] rfl)
  · have hG := zf hG hc
    refine lv_lload_n hx hb d_D_isBit_6 rfl (lv_at hl 0 rfl) ?_
    refine lv_lconst (v := (1 : Int64)) hx hb d_D_isBit_7 (by decide) ?_
    refine W.lcmp hx hb d_D_isBit_8 ?_
    refine lv_if_ne (tgt := 16) hx hb d_D_isBit_9 (by decide) (fun hc => ?_) (fun hc => ?_)
    · have hG := zf hG hc
      refine lv_iconst (v := (0 : Int32)) hx hb d_D_isBit_16 (by decide) ?_
      exact k_D_isBit_17 X hA zz (0 : Int32) _ hG _ _ hP hD hS _ (lv_sub hl [] rfl)
    · have hG := zt hG hc
      exact k_D_isBit_12 X hA zz _ hG _ _ hP hD hS _ (lv_sub hl [] rfl)
set_option maxRecDepth 100000 in
set_option maxHeartbeats 4000000 in
theorem c_D_isBit (l : Launch) (dC : Nat → ClassId) (dI : Nat → Nat → Nat) (cB cI cL : ClassId) (sz : Nat) (v0 : Int64) (a : Int32) (hG : g_D_isBit v0 = some a) : Met l y_D_isBit (zw y_D_isBit b_D_isBit 2 (some .boolean)) ({ frames := 0, cells := 0, slots := 0, locals := 0 }) (va_Pc [.long v0] (zpre dC dI cB cI cL sz ([] : va_W))) (q_D_isBit dC dI cB cI cL (va_A ([] : va_W) sz) a) 0 0 (va_A ([] : va_W) sz) := by
  refine Met.ofW (cc := b_D_isBit) (maxL := 2) (ret := (some .boolean)) (by decide) rfl ?_
  intro p e s m args below meth c s₁ B hml hv
  obtain ⟨rfl, hsz, hP, zz, hD0⟩ := hv
  subst hsz
  have X := zx_of (F := 0) (L := 0) B hml (Nat.le_refl _) (Nat.le_refl _)
  have hD := hD0.self (sz := s.heap.size)
  have hA : ∀ q : Nat, s.heap.size ≤ q → va_A ([] : va_W) s.heap.size q := fun q h => Or.inr h
  have hl := lv_entry ([.long v0]) (n := 2) (Nat.le_of_ble_eq_true rfl)
  rw [lg_entry_eq]
  generalize (lg_sl ([.long v0]) ++ List.replicate (2 - (lg_sl ([.long v0])).length) Slot.unset).toArray = ls at hl ⊢
  exact k_D_isBit_0 X hA zz v0 a hG _ _ hP hD va_S.rf ls hl
noncomputable def g_D_shapeOf_21 (s0 : Int32) : Option (Int32) := some (s0)
noncomputable def g_D_shapeOf_20  : Option (Int32) := g_D_shapeOf_21 (0 : Int32)
noncomputable def g_D_shapeOf (v0 : Int32) : Option (Int32) := if v0 < (0 : Int32) then g_D_shapeOf_20 else (if (31 : Int32) ≤ v0 then g_D_shapeOf_20 else (zg (vp_in v0 31) (g_D_shapeOf_21 (zsS v0.toNatClampNeg))))
def q_D_shapeOf (dC : Nat → ClassId) (dI : Nat → Nat → Nat) (cB cI cL : ClassId) (A : Nat → Prop) (a : Int32) : Array Value → State → Outcome → State → Prop := va_Qi (fun (r : Int32) (u : Unit) => (r) = a) (fun u U => va_P (dC, dI) zcl ([] : va_W) U.heap ∧ va_D A ([] : va_W)) A
set_option maxRecDepth 100000 in
set_option maxHeartbeats 4000000 in
theorem k_D_shapeOf_21 {p : Program} {l : Launch} {e : Env} {R : Room} {s : State} {m : MethodId} {args : Array Value} {below : List Frame} {meth : Method} {c : Code} {dC : Nat → ClassId} {dI : Nat → Nat → Nat} {cB cI cL : ClassId} {A : Nat → Prop} (X : zx p s m args meth c R R_D b_D_shapeOf (some .int) 1 0 0) (hA : ∀ q, s.heap.size ≤ q → A q) (zz : zk dC dI cB cI cL A s)  (s0 : Int32) (a : Int32) (hG : g_D_shapeOf_21 s0 = some a) (H : Heap) (locs : List Loc) (hP : va_P (dC, dI) zcl ([] : va_W) H) (hD : va_D A ([] : va_W)) (hS : va_S A s.heap H locs) (ls : Array Slot) (hl : lv_has ls 1 []) : W p l e R s m args below meth c H locs 0 0 (MQ below (q_D_shapeOf dC dI cB cI cL A a) args s 0 0 A) (F0 m 21 ls [.int s0]) := by
  obtain ⟨hx, hb, hr, hml, hown, hts, hlocks, hRf, hRl⟩ := id X
  unfold g_D_shapeOf_21 at hG
  exact W.iret (v := s0) hx hb hr (fun t9 ht9 hW9 => ⟨⟨s0, (), rfl, Option.some.inj hG, by rw [ht9]; exact hP, hD⟩, hS.F ht9⟩) hS.2.2 d_D_shapeOf_21
set_option maxRecDepth 100000 in
set_option maxHeartbeats 4000000 in
theorem k_D_shapeOf_20 {p : Program} {l : Launch} {e : Env} {R : Room} {s : State} {m : MethodId} {args : Array Value} {below : List Frame} {meth : Method} {c : Code} {dC : Nat → ClassId} {dI : Nat → Nat → Nat} {cB cI cL : ClassId} {A : Nat → Prop} (X : zx p s m args meth c R R_D b_D_shapeOf (some .int) 1 0 0) (hA : ∀ q, s.heap.size ≤ q → A q) (zz : zk dC dI cB cI cL A s)  (a : Int32) (hG : g_D_shapeOf_20  = some a) (H : Heap) (locs : List Loc) (hP : va_P (dC, dI) zcl ([] : va_W) H) (hD : va_D A ([] : va_W)) (hS : va_S A s.heap H locs) (ls : Array Slot) (hl : lv_has ls 1 []) : W p l e R s m args below meth c H locs 0 0 (MQ below (q_D_shapeOf dC dI cB cI cL A a) args s 0 0 A) (F0 m 20 ls []) := by
  obtain ⟨hx, hb, hr, hml, hown, hts, hlocks, hRf, hRl⟩ := id X
  unfold g_D_shapeOf_20 at hG
  refine lv_iconst (v := (0 : Int32)) hx hb d_D_shapeOf_20 (by decide) ?_
  exact k_D_shapeOf_21 X hA zz (0 : Int32) _ hG _ _ hP hD hS _ (lv_sub hl [] rfl)
set_option maxRecDepth 100000 in
set_option maxHeartbeats 4000000 in
theorem k_D_shapeOf_0 {p : Program} {l : Launch} {e : Env} {R : Room} {s : State} {m : MethodId} {args : Array Value} {below : List Frame} {meth : Method} {c : Code} {dC : Nat → ClassId} {dI : Nat → Nat → Nat} {cB cI cL : ClassId} {A : Nat → Prop} (X : zx p s m args meth c R R_D b_D_shapeOf (some .int) 1 0 0) (hA : ∀ q, s.heap.size ≤ q → A q) (zz : zk dC dI cB cI cL A s)  (v0 : Int32) (a : Int32) (hG : g_D_shapeOf v0 = some a) (H : Heap) (locs : List Loc) (hP : va_P (dC, dI) zcl ([] : va_W) H) (hD : va_D A ([] : va_W)) (hS : va_S A s.heap H locs) (ls : Array Slot) (hl : lv_has ls 1 [(0, .int v0)]) : W p l e R s m args below meth c H locs 0 0 (MQ below (q_D_shapeOf dC dI cB cI cL A a) args s 0 0 A) (F0 m 0 ls []) := by
  obtain ⟨hx, hb, hr, hml, hown, hts, hlocks, hRf, hRl⟩ := id X
  unfold g_D_shapeOf at hG
  refine lv_iload_n hx hb d_D_shapeOf_0 rfl (lv_at hl 0 rfl) ?_
  refine lv_if_lt (tgt := 20) hx hb d_D_shapeOf_1 (by decide) (fun hc => ?_) (fun hc => ?_)
  · have hG := zt hG hc
    exact k_D_shapeOf_20 X hA zz _ hG _ _ hP hD hS _ (lv_sub hl [] rfl)
  · have hG := zf hG hc
    refine lv_iload_n hx hb d_D_shapeOf_4 rfl (lv_at hl 0 rfl) ?_
    obtain ⟨adS_SHAPES, hZ_SHAPES, hT_SHAPES, hE_SHAPES⟩ := zz.2.2.1.1
    refine va_getsN hx hb hZ_SHAPES hS hown (va_Nw.use rfl (zz.2.1 _ znest_D_88)) (fun _ h9 => h9) d_D_shapeOf_5 ?_
    refine va_tlen (v := (31 : Int32)) hx hb hT_SHAPES hS (by decide) d_D_shapeOf_8 ?_
    refine lv_icmp_ge (tgt := 20) hx hb d_D_shapeOf_9 (by decide) (fun hc => ?_) (fun hc => ?_)
    · have hG := zt hG hc
      exact k_D_shapeOf_20 X hA zz _ hG _ _ hP hD hS _ (lv_sub hl [] rfl)
    · have hG := zf hG hc
      refine va_getsN hx hb hZ_SHAPES hS hown (va_Nw.use rfl (zz.2.1 _ znest_D_88)) (fun _ h9 => h9) d_D_shapeOf_12 ?_
      refine lv_iload_n hx hb d_D_shapeOf_15 rfl (lv_at hl 0 rfl) ?_
      obtain ⟨hin, hG⟩ := zgd hG
      refine va_ti hx hb hT_SHAPES hS hin rfl d_D_shapeOf_16 ?_
      refine lv_goto (tgt := 21) hx hb d_D_shapeOf_17 (by decide) ?_
      exact k_D_shapeOf_21 X hA zz (zsS v0.toNatClampNeg) _ hG _ _ hP hD hS _ (lv_sub hl [] rfl)
set_option maxRecDepth 100000 in
set_option maxHeartbeats 4000000 in
theorem c_D_shapeOf (l : Launch) (dC : Nat → ClassId) (dI : Nat → Nat → Nat) (cB cI cL : ClassId) (sz : Nat) (v0 : Int32) (a : Int32) (hG : g_D_shapeOf v0 = some a) : Met l y_D_shapeOf (zw y_D_shapeOf b_D_shapeOf 1 (some .int)) ({ frames := 0, cells := 0, slots := 0, locals := 0 }) (va_Pc [.int v0] (zpre dC dI cB cI cL sz ([] : va_W))) (q_D_shapeOf dC dI cB cI cL (va_A ([] : va_W) sz) a) 0 0 (va_A ([] : va_W) sz) := by
  refine Met.ofW (cc := b_D_shapeOf) (maxL := 1) (ret := (some .int)) (by decide) rfl ?_
  intro p e s m args below meth c s₁ B hml hv
  obtain ⟨rfl, hsz, hP, zz, hD0⟩ := hv
  subst hsz
  have X := zx_of (F := 0) (L := 0) B hml (Nat.le_refl _) (Nat.le_refl _)
  have hD := hD0.self (sz := s.heap.size)
  have hA : ∀ q : Nat, s.heap.size ≤ q → va_A ([] : va_W) s.heap.size q := fun q h => Or.inr h
  have hl := lv_entry ([.int v0]) (n := 1) (Nat.le_of_ble_eq_true rfl)
  rw [lg_entry_eq]
  generalize (lg_sl ([.int v0]) ++ List.replicate (1 - (lg_sl ([.int v0])).length) Slot.unset).toArray = ls at hl ⊢
  exact k_D_shapeOf_0 X hA zz v0 a hG _ _ hP hD va_S.rf ls hl
noncomputable def g_D_firstByte_60 (sD : zD) (s0 : Int32) (s1 : Int32) : Option (Int32) := some (s1 ||| s0)
noncomputable def g_D_firstByte_43 (sD : zD) (s0 : Int32) (s1 : Int32) : Option (Int32) := zg (vp_in (2 : Int32) 12) (if (lg_cmp ((zD_parts sD) (2 : Int32).toNatClampNeg) (1 : Int64)) = (0 : Int32) then (g_D_firstByte_60 sD (1 : Int32) (s1 ||| s0)) else (g_D_firstByte_60 sD (0 : Int32) (s1 ||| s0)))
noncomputable def g_D_firstByte_26 (sD : zD) (s0 : Int32) (s1 : Int32) : Option (Int32) := zg (vp_in (3 : Int32) 12) (if (lg_cmp ((zD_parts sD) (3 : Int32).toNatClampNeg) (1 : Int64)) = (0 : Int32) then (g_D_firstByte_43 sD (2 : Int32) (s1 ||| s0)) else (g_D_firstByte_43 sD (0 : Int32) (s1 ||| s0)))
noncomputable def g_D_firstByte (sD : zD) (v1 : Int32) : Option (Int32) := if v1 = (8 : Int32) then (zg (vp_in (1 : Int32) 12) (if (lg_cmp ((zD_parts sD) (1 : Int32).toNatClampNeg) (0 : Int64)) = (0 : Int32) then (g_D_firstByte_26 sD (0 : Int32) (8 : Int32)) else (g_D_firstByte_26 sD (4 : Int32) (8 : Int32)))) else (some (v1))
def q_D_firstByte (dC : Nat → ClassId) (dI : Nat → Nat → Nat) (cB cI cL : ClassId) (A : Nat → Prop) (adD : Nat) (adD_parts : Nat) (adD_bytes : Nat) (adD_lows : Nat) (adD_highs : Nat) (sD : zD) (a : Int32) : Array Value → State → Outcome → State → Prop := va_Qi (fun (r : Int32) (u : Unit) => (r) = a) (fun u U => va_P (dC, dI) zcl (zwD adD adD_parts adD_bytes adD_lows adD_highs cB cI cL sD) U.heap ∧ va_D A (zwD adD adD_parts adD_bytes adD_lows adD_highs cB cI cL sD)) A
set_option maxRecDepth 100000 in
set_option maxHeartbeats 4000000 in
theorem k_D_firstByte_60 {p : Program} {l : Launch} {e : Env} {R : Room} {s : State} {m : MethodId} {args : Array Value} {below : List Frame} {meth : Method} {c : Code} {dC : Nat → ClassId} {dI : Nat → Nat → Nat} {cB cI cL : ClassId} {A : Nat → Prop} (X : zx p s m args meth c R R_D b_D_firstByte (some .int) 2 0 0) (hA : ∀ q, s.heap.size ≤ q → A q) (zz : zk dC dI cB cI cL A s)  (sD : zD) (s0 : Int32) (s1 : Int32) (a : Int32) (hG : g_D_firstByte_60 sD s0 s1 = some a) (adD adD_parts adD_bytes adD_lows adD_highs : Nat) (H : Heap) (locs : List Loc) (hP : va_P (dC, dI) zcl (zwD adD adD_parts adD_bytes adD_lows adD_highs cB cI cL sD) H) (hD : va_D A (zwD adD adD_parts adD_bytes adD_lows adD_highs cB cI cL sD)) (hS : va_S A s.heap H locs) (ls : Array Slot) (hl : lv_has ls 2 []) : W p l e R s m args below meth c H locs 0 0 (MQ below (q_D_firstByte dC dI cB cI cL A adD adD_parts adD_bytes adD_lows adD_highs sD a) args s 0 0 A) (F0 m 60 ls [.int s0, .int s1]) := by
  obtain ⟨hx, hb, hr, hml, hown, hts, hlocks, hRf, hRl⟩ := id X
  unfold g_D_firstByte_60 at hG
  refine lv_ior hx hb d_D_firstByte_60 ?_
  exact W.iret (v := s1 ||| s0) hx hb hr (fun t9 ht9 hW9 => ⟨⟨s1 ||| s0, (), rfl, Option.some.inj hG, by rw [ht9]; exact hP, hD⟩, hS.F ht9⟩) hS.2.2 d_D_firstByte_61
set_option maxRecDepth 100000 in
set_option maxHeartbeats 4000000 in
theorem k_D_firstByte_43 {p : Program} {l : Launch} {e : Env} {R : Room} {s : State} {m : MethodId} {args : Array Value} {below : List Frame} {meth : Method} {c : Code} {dC : Nat → ClassId} {dI : Nat → Nat → Nat} {cB cI cL : ClassId} {A : Nat → Prop} (X : zx p s m args meth c R R_D b_D_firstByte (some .int) 2 0 0) (hA : ∀ q, s.heap.size ≤ q → A q) (zz : zk dC dI cB cI cL A s)  (sD : zD) (s0 : Int32) (s1 : Int32) (a : Int32) (hG : g_D_firstByte_43 sD s0 s1 = some a) (adD adD_parts adD_bytes adD_lows adD_highs : Nat) (H : Heap) (locs : List Loc) (hP : va_P (dC, dI) zcl (zwD adD adD_parts adD_bytes adD_lows adD_highs cB cI cL sD) H) (hD : va_D A (zwD adD adD_parts adD_bytes adD_lows adD_highs cB cI cL sD)) (hS : va_S A s.heap H locs) (ls : Array Slot) (hl : lv_has ls 2 [(0, .ref adD)]) : W p l e R s m args below meth c H locs 0 0 (MQ below (q_D_firstByte dC dI cB cI cL A adD adD_parts adD_bytes adD_lows adD_highs sD a) args s 0 0 A) (F0 m 43 ls [.int s0, .int s1]) := by
  obtain ⟨hx, hb, hr, hml, hown, hts, hlocks, hRf, hRl⟩ := id X
  unfold g_D_firstByte_43 at hG
  refine lv_ior hx hb d_D_firstByte_43 ?_
  refine lv_aload_n hx hb d_D_firstByte_44 rfl (lv_at hl 0 rfl) ?_
  refine va_get (D := (dC, dI)) (ci := 6) (v := .ref adD_parts) (C := R_D) (T := F_D) (N := 6) hx hb hts zi_D hown zz.1 hP 0 rfl rfl 0 (by decide) (hts (.fieldLink R_D 9 "WireCodec$Draft" "parts" "[J") zin_D_9) (fun _ h9 => h9) rfl d_D_firstByte_45 ?_
  refine lv_iconst (v := (2 : Int32)) hx hb d_D_firstByte_48 (by decide) ?_
  obtain ⟨hin, hG⟩ := zgd hG
  refine va_lald hx hb zz.1 hP 1 2 rfl rfl hin d_D_firstByte_49 ?_
  refine lv_lconst (v := (1 : Int64)) hx hb d_D_firstByte_50 (by decide) ?_
  refine W.lcmp hx hb d_D_firstByte_51 ?_
  refine lv_if_ne (tgt := 59) hx hb d_D_firstByte_52 (by decide) (fun hc => ?_) (fun hc => ?_)
  · have hG := zf hG hc
    refine lv_iconst (v := (0 : Int32)) hx hb d_D_firstByte_59 (by decide) ?_
    exact k_D_firstByte_60 X hA zz sD (0 : Int32) (s1 ||| s0) _ hG adD adD_parts adD_bytes adD_lows adD_highs _ _ hP hD hS _ (lv_sub hl [] rfl)
  · have hG := zt hG hc
    refine lv_iconst (v := (1 : Int32)) hx hb d_D_firstByte_55 (by decide) ?_
    refine lv_goto (tgt := 60) hx hb d_D_firstByte_56 (by decide) ?_
    exact k_D_firstByte_60 X hA zz sD (1 : Int32) (s1 ||| s0) _ hG adD adD_parts adD_bytes adD_lows adD_highs _ _ hP hD hS _ (lv_sub hl [] rfl)
set_option maxRecDepth 100000 in
set_option maxHeartbeats 4000000 in
theorem k_D_firstByte_26 {p : Program} {l : Launch} {e : Env} {R : Room} {s : State} {m : MethodId} {args : Array Value} {below : List Frame} {meth : Method} {c : Code} {dC : Nat → ClassId} {dI : Nat → Nat → Nat} {cB cI cL : ClassId} {A : Nat → Prop} (X : zx p s m args meth c R R_D b_D_firstByte (some .int) 2 0 0) (hA : ∀ q, s.heap.size ≤ q → A q) (zz : zk dC dI cB cI cL A s)  (sD : zD) (s0 : Int32) (s1 : Int32) (a : Int32) (hG : g_D_firstByte_26 sD s0 s1 = some a) (adD adD_parts adD_bytes adD_lows adD_highs : Nat) (H : Heap) (locs : List Loc) (hP : va_P (dC, dI) zcl (zwD adD adD_parts adD_bytes adD_lows adD_highs cB cI cL sD) H) (hD : va_D A (zwD adD adD_parts adD_bytes adD_lows adD_highs cB cI cL sD)) (hS : va_S A s.heap H locs) (ls : Array Slot) (hl : lv_has ls 2 [(0, .ref adD)]) : W p l e R s m args below meth c H locs 0 0 (MQ below (q_D_firstByte dC dI cB cI cL A adD adD_parts adD_bytes adD_lows adD_highs sD a) args s 0 0 A) (F0 m 26 ls [.int s0, .int s1]) := by
  obtain ⟨hx, hb, hr, hml, hown, hts, hlocks, hRf, hRl⟩ := id X
  unfold g_D_firstByte_26 at hG
  refine lv_ior hx hb d_D_firstByte_26 ?_
  refine lv_aload_n hx hb d_D_firstByte_27 rfl (lv_at hl 0 rfl) ?_
  refine va_get (D := (dC, dI)) (ci := 6) (v := .ref adD_parts) (C := R_D) (T := F_D) (N := 6) hx hb hts zi_D hown zz.1 hP 0 rfl rfl 0 (by decide) (hts (.fieldLink R_D 9 "WireCodec$Draft" "parts" "[J") zin_D_9) (fun _ h9 => h9) rfl d_D_firstByte_28 ?_
  refine lv_iconst (v := (3 : Int32)) hx hb d_D_firstByte_31 (by decide) ?_
  obtain ⟨hin, hG⟩ := zgd hG
  refine va_lald hx hb zz.1 hP 1 2 rfl rfl hin d_D_firstByte_32 ?_
  refine lv_lconst (v := (1 : Int64)) hx hb d_D_firstByte_33 (by decide) ?_
  refine W.lcmp hx hb d_D_firstByte_34 ?_
  refine lv_if_ne (tgt := 42) hx hb d_D_firstByte_35 (by decide) (fun hc => ?_) (fun hc => ?_)
  · have hG := zf hG hc
    refine lv_iconst (v := (0 : Int32)) hx hb d_D_firstByte_42 (by decide) ?_
    exact k_D_firstByte_43 X hA zz sD (0 : Int32) (s1 ||| s0) _ hG adD adD_parts adD_bytes adD_lows adD_highs _ _ hP hD hS _ (lv_sub hl [0] rfl)
  · have hG := zt hG hc
    refine lv_iconst (v := (2 : Int32)) hx hb d_D_firstByte_38 (by decide) ?_
    refine lv_goto (tgt := 43) hx hb d_D_firstByte_39 (by decide) ?_
    exact k_D_firstByte_43 X hA zz sD (2 : Int32) (s1 ||| s0) _ hG adD adD_parts adD_bytes adD_lows adD_highs _ _ hP hD hS _ (lv_sub hl [0] rfl)
set_option maxRecDepth 100000 in
set_option maxHeartbeats 4000000 in
theorem k_D_firstByte_0 {p : Program} {l : Launch} {e : Env} {R : Room} {s : State} {m : MethodId} {args : Array Value} {below : List Frame} {meth : Method} {c : Code} {dC : Nat → ClassId} {dI : Nat → Nat → Nat} {cB cI cL : ClassId} {A : Nat → Prop} (X : zx p s m args meth c R R_D b_D_firstByte (some .int) 2 0 0) (hA : ∀ q, s.heap.size ≤ q → A q) (zz : zk dC dI cB cI cL A s)  (sD : zD) (v1 : Int32) (a : Int32) (hG : g_D_firstByte sD v1 = some a) (adD adD_parts adD_bytes adD_lows adD_highs : Nat) (H : Heap) (locs : List Loc) (hP : va_P (dC, dI) zcl (zwD adD adD_parts adD_bytes adD_lows adD_highs cB cI cL sD) H) (hD : va_D A (zwD adD adD_parts adD_bytes adD_lows adD_highs cB cI cL sD)) (hS : va_S A s.heap H locs) (ls : Array Slot) (hl : lv_has ls 2 [(0, .ref adD), (1, .int v1)]) : W p l e R s m args below meth c H locs 0 0 (MQ below (q_D_firstByte dC dI cB cI cL A adD adD_parts adD_bytes adD_lows adD_highs sD a) args s 0 0 A) (F0 m 0 ls []) := by
  obtain ⟨hx, hb, hr, hml, hown, hts, hlocks, hRf, hRl⟩ := id X
  unfold g_D_firstByte at hG
  refine lv_iload_n hx hb d_D_firstByte_0 rfl (lv_at hl 1 rfl) ?_
  refine lv_bipush (v := (8 : Int32)) hx hb d_D_firstByte_1 (by decide) ?_
  refine lv_icmp_eq (tgt := 8) hx hb d_D_firstByte_3 (by decide) (fun hc => ?_) (fun hc => ?_)
  · have hG := zt hG hc
    refine lv_bipush (v := (8 : Int32)) hx hb d_D_firstByte_8 (by decide) ?_
    refine lv_aload_n hx hb d_D_firstByte_10 rfl (lv_at hl 0 rfl) ?_
    refine va_get (D := (dC, dI)) (ci := 6) (v := .ref adD_parts) (C := R_D) (T := F_D) (N := 6) hx hb hts zi_D hown zz.1 hP 0 rfl rfl 0 (by decide) (hts (.fieldLink R_D 9 "WireCodec$Draft" "parts" "[J") zin_D_9) (fun _ h9 => h9) rfl d_D_firstByte_11 ?_
    refine lv_iconst (v := (1 : Int32)) hx hb d_D_firstByte_14 (by decide) ?_
    obtain ⟨hin, hG⟩ := zgd hG
    refine va_lald hx hb zz.1 hP 1 2 rfl rfl hin d_D_firstByte_15 ?_
    refine lv_lconst (v := (0 : Int64)) hx hb d_D_firstByte_16 (by decide) ?_
    refine W.lcmp hx hb d_D_firstByte_17 ?_
    refine lv_if_eq (tgt := 25) hx hb d_D_firstByte_18 (by decide) (fun hc => ?_) (fun hc => ?_)
    · have hG := zt hG hc
      refine lv_iconst (v := (0 : Int32)) hx hb d_D_firstByte_25 (by decide) ?_
      exact k_D_firstByte_26 X hA zz sD (0 : Int32) (8 : Int32) _ hG adD adD_parts adD_bytes adD_lows adD_highs _ _ hP hD hS _ (lv_sub hl [0] rfl)
    · have hG := zf hG hc
      refine lv_iconst (v := (4 : Int32)) hx hb d_D_firstByte_21 (by decide) ?_
      refine lv_goto (tgt := 26) hx hb d_D_firstByte_22 (by decide) ?_
      exact k_D_firstByte_26 X hA zz sD (4 : Int32) (8 : Int32) _ hG adD adD_parts adD_bytes adD_lows adD_highs _ _ hP hD hS _ (lv_sub hl [0] rfl)
  · have hG := zf hG hc
    refine lv_iload_n hx hb d_D_firstByte_6 rfl (lv_at hl 1 rfl) ?_
    exact W.iret (v := v1) hx hb hr (fun t9 ht9 hW9 => ⟨⟨v1, (), rfl, Option.some.inj hG, by rw [ht9]; exact hP, hD⟩, hS.F ht9⟩) hS.2.2 d_D_firstByte_7
set_option maxRecDepth 100000 in
set_option maxHeartbeats 4000000 in
theorem c_D_firstByte (l : Launch) (dC : Nat → ClassId) (dI : Nat → Nat → Nat) (cB cI cL : ClassId) (sz : Nat) (adD adD_parts adD_bytes adD_lows adD_highs : Nat) (sD : zD) (v1 : Int32) (a : Int32) (hG : g_D_firstByte sD v1 = some a) : Met l y_D_firstByte (zw y_D_firstByte b_D_firstByte 2 (some .int)) ({ frames := 0, cells := 0, slots := 0, locals := 0 }) (va_Pc [.ref adD, .int v1] (zpre dC dI cB cI cL sz (zwD adD adD_parts adD_bytes adD_lows adD_highs cB cI cL sD))) (q_D_firstByte dC dI cB cI cL (va_A (zwD adD adD_parts adD_bytes adD_lows adD_highs cB cI cL sD) sz) adD adD_parts adD_bytes adD_lows adD_highs sD a) 0 0 (va_A (zwD adD adD_parts adD_bytes adD_lows adD_highs cB cI cL sD) sz) := by
  refine Met.ofW (cc := b_D_firstByte) (maxL := 2) (ret := (some .int)) (by decide) rfl ?_
  intro p e s m args below meth c s₁ B hml hv
  obtain ⟨rfl, hsz, hP, zz, hD0⟩ := hv
  subst hsz
  have X := zx_of (F := 0) (L := 0) B hml (Nat.le_refl _) (Nat.le_refl _)
  have hD := hD0.self (sz := s.heap.size)
  have hA : ∀ q : Nat, s.heap.size ≤ q → va_A (zwD adD adD_parts adD_bytes adD_lows adD_highs cB cI cL sD) s.heap.size q := fun q h => Or.inr h
  have hl := lv_entry ([.ref adD, .int v1]) (n := 2) (Nat.le_of_ble_eq_true rfl)
  rw [lg_entry_eq]
  generalize (lg_sl ([.ref adD, .int v1]) ++ List.replicate (2 - (lg_sl ([.ref adD, .int v1])).length) Slot.unset).toArray = ls at hl ⊢
  exact k_D_firstByte_0 X hA zz sD v1 a hG adD adD_parts adD_bytes adD_lows adD_highs _ _ hP hD va_S.rf ls hl
noncomputable def g_D_isAck_36 (sD : zD) (s0 : Int32) : Option (Int32) := zg (narrow .boolean (.int s0) = .int s0) (some (s0))
noncomputable def g_D_isAck_35 (sD : zD) : Option (Int32) := g_D_isAck_36 sD (0 : Int32)
noncomputable def g_D_isAck_c25 (sD : zD) (r_25 : Int32) : Option (Int32) := if r_25 = (0 : Int32) then (g_D_isAck_35 sD) else (g_D_isAck_36 sD (1 : Int32))
noncomputable def g_D_isAck_c13 (sD : zD) (r_13 : Int32) : Option (Int32) := if r_13 = (0 : Int32) then (g_D_isAck_35 sD) else (zg (vp_in (1 : Int32) 12) ((g_W_isNumber ((zD_parts sD) (1 : Int32).toNatClampNeg)).bind (fun a => g_D_isAck_c25 sD a)))
noncomputable def g_D_isAck (sD : zD) : Option (Int32) := if (zD_ranges sD) ≤ (0 : Int32) then (g_D_isAck_35 sD) else (zg (vp_in (0 : Int32) 500) ((g_W_isNumber ((zD_highs sD) (0 : Int32).toNatClampNeg)).bind (fun a => g_D_isAck_c13 sD a)))
def q_D_isAck (dC : Nat → ClassId) (dI : Nat → Nat → Nat) (cB cI cL : ClassId) (A : Nat → Prop) (adD : Nat) (adD_parts : Nat) (adD_bytes : Nat) (adD_lows : Nat) (adD_highs : Nat) (sD : zD) (a : Int32) : Array Value → State → Outcome → State → Prop := va_Qi (fun (r : Int32) (u : Unit) => (r) = a) (fun u U => va_P (dC, dI) zcl (zwD adD adD_parts adD_bytes adD_lows adD_highs cB cI cL sD) U.heap ∧ va_D A (zwD adD adD_parts adD_bytes adD_lows adD_highs cB cI cL sD)) A
set_option maxRecDepth 100000 in
set_option maxHeartbeats 4000000 in
theorem k_D_isAck_36 {p : Program} {l : Launch} {e : Env} {R : Room} {s : State} {m : MethodId} {args : Array Value} {below : List Frame} {meth : Method} {c : Code} {dC : Nat → ClassId} {dI : Nat → Nat → Nat} {cB cI cL : ClassId} {A : Nat → Prop} (X : zx p s m args meth c R R_D b_D_isAck (some .boolean) 1 1 21) (hA : ∀ q, s.heap.size ≤ q → A q) (zz : zk dC dI cB cI cL A s)  (sD : zD) (s0 : Int32) (a : Int32) (hG : g_D_isAck_36 sD s0 = some a) (adD adD_parts adD_bytes adD_lows adD_highs : Nat) (H : Heap) (locs : List Loc) (hP : va_P (dC, dI) zcl (zwD adD adD_parts adD_bytes adD_lows adD_highs cB cI cL sD) H) (hD : va_D A (zwD adD adD_parts adD_bytes adD_lows adD_highs cB cI cL sD)) (hS : va_S A s.heap H locs) (ls : Array Slot) (hl : lv_has ls 1 []) : W p l e R s m args below meth c H locs 0 0 (MQ below (q_D_isAck dC dI cB cI cL A adD adD_parts adD_bytes adD_lows adD_highs sD a) args s 0 0 A) (F0 m 36 ls [.int s0]) := by
  obtain ⟨hx, hb, hr, hml, hown, hts, hlocks, hRf, hRl⟩ := id X
  unfold g_D_isAck_36 at hG
  obtain ⟨hnb, hG⟩ := zgd hG
  exact W.zret (v := s0) hx hb hr hnb (fun t9 ht9 hW9 => ⟨⟨s0, (), rfl, Option.some.inj hG, by rw [ht9]; exact hP, hD⟩, hS.F ht9⟩) hS.2.2 d_D_isAck_36
set_option maxRecDepth 100000 in
set_option maxHeartbeats 4000000 in
theorem k_D_isAck_35 {p : Program} {l : Launch} {e : Env} {R : Room} {s : State} {m : MethodId} {args : Array Value} {below : List Frame} {meth : Method} {c : Code} {dC : Nat → ClassId} {dI : Nat → Nat → Nat} {cB cI cL : ClassId} {A : Nat → Prop} (X : zx p s m args meth c R R_D b_D_isAck (some .boolean) 1 1 21) (hA : ∀ q, s.heap.size ≤ q → A q) (zz : zk dC dI cB cI cL A s)  (sD : zD) (a : Int32) (hG : g_D_isAck_35 sD = some a) (adD adD_parts adD_bytes adD_lows adD_highs : Nat) (H : Heap) (locs : List Loc) (hP : va_P (dC, dI) zcl (zwD adD adD_parts adD_bytes adD_lows adD_highs cB cI cL sD) H) (hD : va_D A (zwD adD adD_parts adD_bytes adD_lows adD_highs cB cI cL sD)) (hS : va_S A s.heap H locs) (ls : Array Slot) (hl : lv_has ls 1 []) : W p l e R s m args below meth c H locs 0 0 (MQ below (q_D_isAck dC dI cB cI cL A adD adD_parts adD_bytes adD_lows adD_highs sD a) args s 0 0 A) (F0 m 35 ls []) := by
  obtain ⟨hx, hb, hr, hml, hown, hts, hlocks, hRf, hRl⟩ := id X
  unfold g_D_isAck_35 at hG
  refine lv_iconst (v := (0 : Int32)) hx hb d_D_isAck_35 (by decide) ?_
  exact k_D_isAck_36 X hA zz sD (0 : Int32) _ hG adD adD_parts adD_bytes adD_lows adD_highs _ _ hP hD hS _ (lv_sub hl [] rfl)
set_option maxRecDepth 100000 in
set_option maxHeartbeats 4000000 in
theorem k_D_isAck_0 {p : Program} {l : Launch} {e : Env} {R : Room} {s : State} {m : MethodId} {args : Array Value} {below : List Frame} {meth : Method} {c : Code} {dC : Nat → ClassId} {dI : Nat → Nat → Nat} {cB cI cL : ClassId} {A : Nat → Prop} (X : zx p s m args meth c R R_D b_D_isAck (some .boolean) 1 1 21) (hA : ∀ q, s.heap.size ≤ q → A q) (zz : zk dC dI cB cI cL A s)  (sD : zD) (a : Int32) (hG : g_D_isAck sD = some a) (adD adD_parts adD_bytes adD_lows adD_highs : Nat) (H : Heap) (locs : List Loc) (hP : va_P (dC, dI) zcl (zwD adD adD_parts adD_bytes adD_lows adD_highs cB cI cL sD) H) (hD : va_D A (zwD adD adD_parts adD_bytes adD_lows adD_highs cB cI cL sD)) (hS : va_S A s.heap H locs) (ls : Array Slot) (hl : lv_has ls 1 [(0, .ref adD)]) : W p l e R s m args below meth c H locs 0 0 (MQ below (q_D_isAck dC dI cB cI cL A adD adD_parts adD_bytes adD_lows adD_highs sD a) args s 0 0 A) (F0 m 0 ls []) := by
  obtain ⟨hx, hb, hr, hml, hown, hts, hlocks, hRf, hRl⟩ := id X
  unfold g_D_isAck at hG
  refine lv_aload_n hx hb d_D_isAck_0 rfl (lv_at hl 0 rfl) ?_
  refine va_get (D := (dC, dI)) (ci := 6) (v := .int (zD_ranges sD)) (C := R_D) (T := F_D) (N := 6) hx hb hts zi_D hown zz.1 hP 0 rfl rfl 5 (by decide) (hts (.fieldLink R_D 35 "WireCodec$Draft" "ranges" "I") zin_D_35) (fun _ h9 => h9) rfl d_D_isAck_1 ?_
  refine lv_if_le (tgt := 35) hx hb d_D_isAck_4 (by decide) (fun hc => ?_) (fun hc => ?_)
  · have hG := zt hG hc
    exact k_D_isAck_35 X hA zz sD _ hG adD adD_parts adD_bytes adD_lows adD_highs _ _ hP hD hS _ (lv_sub hl [] rfl)
  · have hG := zf hG hc
    refine lv_aload_n hx hb d_D_isAck_7 rfl (lv_at hl 0 rfl) ?_
    refine va_get (D := (dC, dI)) (ci := 6) (v := .ref adD_highs) (C := R_D) (T := F_D) (N := 6) hx hb hts zi_D hown zz.1 hP 0 rfl rfl 3 (by decide) (hts (.fieldLink R_D 22 "WireCodec$Draft" "highs" "[J") zin_D_22) (fun _ h9 => h9) rfl d_D_isAck_8 ?_
    refine lv_iconst (v := (0 : Int32)) hx hb d_D_isAck_11 (by decide) ?_
    obtain ⟨hin, hG⟩ := zgd hG
    refine va_lald hx hb zz.1 hP 4 2 rfl rfl hin d_D_isAck_12 ?_
    obtain ⟨a_13, hx_13, hG⟩ := zb hG
    have hr_13 := zrunSN (p := p) (e := e) (below := below) (meth := meth) (As := [.long ((zD_highs sD) (0 : Int32).toNatClampNeg)]) (rest := []) (st0 := [.long ((zD_highs sD) (0 : Int32).toNatClampNeg)]) (cells := 0) (slots := 0) X zz hP hD hS hA [] (by decide) rfl (c_W_isNumber l dC dI cB cI cL H.size ((zD_highs sD) (0 : Int32).toNatClampNeg) _ hx_13) zy_W_isNumber zv_W_isNumber (zz.2.1 _ znest_D_92) hl rfl rfl d_D_isAck_13 (lv_room (Nat.le_of_ble_eq_true rfl)) rfl rfl ⟨Nat.le_trans (Nat.le_of_ble_eq_true rfl) hRf, Nat.le_trans (Nat.le_of_ble_eq_true rfl) hRl⟩ ⟨Nat.zero_le _, Nat.zero_le _⟩
    refine zcalli (wr := (zwD adD adD_parts adD_bytes adD_lows adD_highs cB cI cL sD)) hr_13 hP hD hS hA [] [0, 1, 2, 3, 4] rfl rfl (by decide) (by decide) (fun r_13 u_13 H locs hw_13 hP hD hS => ?_)
    subst hw_13
    have hP : va_P (dC, dI) zcl (zwD adD adD_parts adD_bytes adD_lows adD_highs cB cI cL sD) H := hP
    have hD : va_D A (zwD adD adD_parts adD_bytes adD_lows adD_highs cB cI cL sD) := hD
    have hG : g_D_isAck_c13 sD r_13 = some a := hG
    unfold g_D_isAck_c13 at hG
    refine lv_if_eq (tgt := 35) hx hb d_D_isAck_16 (by decide) (fun hc => ?_) (fun hc => ?_)
    · have hG := zt hG hc
      exact k_D_isAck_35 X hA zz sD _ hG adD adD_parts adD_bytes adD_lows adD_highs _ _ hP hD hS _ (lv_sub hl [] rfl)
    · have hG := zf hG hc
      refine lv_aload_n hx hb d_D_isAck_19 rfl (lv_at hl 0 rfl) ?_
      refine va_get (D := (dC, dI)) (ci := 6) (v := .ref adD_parts) (C := R_D) (T := F_D) (N := 6) hx hb hts zi_D hown zz.1 hP 0 rfl rfl 0 (by decide) (hts (.fieldLink R_D 9 "WireCodec$Draft" "parts" "[J") zin_D_9) (fun _ h9 => h9) rfl d_D_isAck_20 ?_
      refine lv_iconst (v := (1 : Int32)) hx hb d_D_isAck_23 (by decide) ?_
      obtain ⟨hin, hG⟩ := zgd hG
      refine va_lald hx hb zz.1 hP 1 2 rfl rfl hin d_D_isAck_24 ?_
      obtain ⟨a_25, hx_25, hG⟩ := zb hG
      have hr_25 := zrunSN (p := p) (e := e) (below := below) (meth := meth) (As := [.long ((zD_parts sD) (1 : Int32).toNatClampNeg)]) (rest := []) (st0 := [.long ((zD_parts sD) (1 : Int32).toNatClampNeg)]) (cells := 0) (slots := 0) X zz hP hD hS hA [] (by decide) rfl (c_W_isNumber l dC dI cB cI cL H.size ((zD_parts sD) (1 : Int32).toNatClampNeg) _ hx_25) zy_W_isNumber zv_W_isNumber (zz.2.1 _ znest_D_92) hl rfl rfl d_D_isAck_25 (lv_room (Nat.le_of_ble_eq_true rfl)) rfl rfl ⟨Nat.le_trans (Nat.le_of_ble_eq_true rfl) hRf, Nat.le_trans (Nat.le_of_ble_eq_true rfl) hRl⟩ ⟨Nat.zero_le _, Nat.zero_le _⟩
      refine zcalli (wr := (zwD adD adD_parts adD_bytes adD_lows adD_highs cB cI cL sD)) hr_25 hP hD hS hA [] [0, 1, 2, 3, 4] rfl rfl (by decide) (by decide) (fun r_25 u_25 H locs hw_25 hP hD hS => ?_)
      subst hw_25
      have hP : va_P (dC, dI) zcl (zwD adD adD_parts adD_bytes adD_lows adD_highs cB cI cL sD) H := hP
      have hD : va_D A (zwD adD adD_parts adD_bytes adD_lows adD_highs cB cI cL sD) := hD
      have hG : g_D_isAck_c25 sD r_25 = some a := hG
      unfold g_D_isAck_c25 at hG
      refine lv_if_eq (tgt := 35) hx hb d_D_isAck_28 (by decide) (fun hc => ?_) (fun hc => ?_)
      · have hG := zt hG hc
        exact k_D_isAck_35 X hA zz sD _ hG adD adD_parts adD_bytes adD_lows adD_highs _ _ hP hD hS _ (lv_sub hl [] rfl)
      · have hG := zf hG hc
        refine lv_iconst (v := (1 : Int32)) hx hb d_D_isAck_31 (by decide) ?_
        refine lv_goto (tgt := 36) hx hb d_D_isAck_32 (by decide) ?_
        exact k_D_isAck_36 X hA zz sD (1 : Int32) _ hG adD adD_parts adD_bytes adD_lows adD_highs _ _ hP hD hS _ (lv_sub hl [] rfl)
set_option maxRecDepth 100000 in
set_option maxHeartbeats 4000000 in
theorem c_D_isAck (l : Launch) (dC : Nat → ClassId) (dI : Nat → Nat → Nat) (cB cI cL : ClassId) (sz : Nat) (adD adD_parts adD_bytes adD_lows adD_highs : Nat) (sD : zD) (a : Int32) (hG : g_D_isAck sD = some a) : Met l y_D_isAck (zw y_D_isAck b_D_isAck 1 (some .boolean)) ({ frames := 1, cells := 0, slots := 0, locals := 21 }) (va_Pc [.ref adD] (zpre dC dI cB cI cL sz (zwD adD adD_parts adD_bytes adD_lows adD_highs cB cI cL sD))) (q_D_isAck dC dI cB cI cL (va_A (zwD adD adD_parts adD_bytes adD_lows adD_highs cB cI cL sD) sz) adD adD_parts adD_bytes adD_lows adD_highs sD a) 0 0 (va_A (zwD adD adD_parts adD_bytes adD_lows adD_highs cB cI cL sD) sz) := by
  refine Met.ofW (cc := b_D_isAck) (maxL := 1) (ret := (some .boolean)) (by decide) rfl ?_
  intro p e s m args below meth c s₁ B hml hv
  obtain ⟨rfl, hsz, hP, zz, hD0⟩ := hv
  subst hsz
  have X := zx_of (F := 1) (L := 21) B hml (Nat.le_refl _) (Nat.le_refl _)
  have hD := hD0.self (sz := s.heap.size)
  have hA : ∀ q : Nat, s.heap.size ≤ q → va_A (zwD adD adD_parts adD_bytes adD_lows adD_highs cB cI cL sD) s.heap.size q := fun q h => Or.inr h
  have hl := lv_entry ([.ref adD]) (n := 1) (Nat.le_of_ble_eq_true rfl)
  rw [lg_entry_eq]
  generalize (lg_sl ([.ref adD]) ++ List.replicate (1 - (lg_sl ([.ref adD])).length) Slot.unset).toArray = ls at hl ⊢
  exact k_D_isAck_0 X hA zz sD a hG adD adD_parts adD_bytes adD_lows adD_highs _ _ hP hD va_S.rf ls hl
noncomputable def g_D_hasCounts_32 (N : Nat) (kr : zD → Int32 → Int32 → Option (Int32)) (sD : zD) (v2 : Int32) (s0 : Int32) : Option (Int32) := kr sD s0 (v2 + 1)
noncomputable def g_D_hasCounts_31 (N : Nat) (kr : zD → Int32 → Int32 → Option (Int32)) (sD : zD) (v2 : Int32) : Option (Int32) := g_D_hasCounts_32 N kr sD v2 (0 : Int32)
noncomputable def g_D_hasCounts_c21 (N : Nat) (kr : zD → Int32 → Int32 → Option (Int32)) (sD : zD) (v2 : Int32) (r_21 : Int32) : Option (Int32) := if r_21 = (0 : Int32) then (g_D_hasCounts_31 N kr sD v2) else (g_D_hasCounts_32 N kr sD v2 (1 : Int32))
noncomputable def g_D_hasCounts_5_b (N : Nat) (kr : zD → Int32 → Int32 → Option (Int32)) (sD : zD) (v1 : Int32) (v2 : Int32) : Option (Int32) := if (12 : Int32) ≤ v2 then (zg (narrow .boolean (.int v1) = .int v1) (some (v1))) else (if v1 = (0 : Int32) then (g_D_hasCounts_31 N kr sD v2) else (zg (vp_in v2 12) ((g_W_isNumber ((zD_parts sD) v2.toNatClampNeg)).bind (fun a => g_D_hasCounts_c21 N kr sD v2 a))))
noncomputable def g_D_hasCounts_5 (N : Nat) : Nat → zD → Int32 → Int32 → Option (Int32)
  | 0 => fun _ _ _ => none
  | k + 1 => fun sD v1 v2 => g_D_hasCounts_5_b N (g_D_hasCounts_5 N k) sD v1 v2
noncomputable def g_D_hasCounts (N : Nat) (sD : zD) : Option (Int32) := g_D_hasCounts_5 N N sD (1 : Int32) (9 : Int32)
def q_D_hasCounts (dC : Nat → ClassId) (dI : Nat → Nat → Nat) (cB cI cL : ClassId) (A : Nat → Prop) (adD : Nat) (adD_parts : Nat) (adD_bytes : Nat) (adD_lows : Nat) (adD_highs : Nat) (sD : zD) (a : Int32) : Array Value → State → Outcome → State → Prop := va_Qi (fun (r : Int32) (u : Unit) => (r) = a) (fun u U => va_P (dC, dI) zcl (zwD adD adD_parts adD_bytes adD_lows adD_highs cB cI cL sD) U.heap ∧ va_D A (zwD adD adD_parts adD_bytes adD_lows adD_highs cB cI cL sD)) A
set_option maxRecDepth 100000 in
set_option maxHeartbeats 4000000 in
theorem k_D_hasCounts_32 {p : Program} {l : Launch} {e : Env} {R : Room} {s : State} {m : MethodId} {args : Array Value} {below : List Frame} {meth : Method} {c : Code} {dC : Nat → ClassId} {dI : Nat → Nat → Nat} {cB cI cL : ClassId} {A : Nat → Prop} (kr : zD → Int32 → Int32 → Option (Int32)) (hrec : ∀ (sD : zD) (v1 : Int32) (v2 : Int32) (a : Int32), kr sD v1 v2 = some a → ∀ (adD adD_parts adD_bytes adD_lows adD_highs : Nat) (H : Heap) (locs : List Loc), va_P (dC, dI) zcl (zwD adD adD_parts adD_bytes adD_lows adD_highs cB cI cL sD) H → va_D A (zwD adD adD_parts adD_bytes adD_lows adD_highs cB cI cL sD) → va_S A s.heap H locs → ∀ ls : Array Slot, lv_has ls 3 [(0, .ref adD), (1, .int v1), (2, .int v2)] → W p l e R s m args below meth c H locs 0 0 (MQ below (q_D_hasCounts dC dI cB cI cL A adD adD_parts adD_bytes adD_lows adD_highs sD a) args s 0 0 A) (F0 m 5 ls [])) (X : zx p s m args meth c R R_D b_D_hasCounts (some .boolean) 3 1 21) (hA : ∀ q, s.heap.size ≤ q → A q) (zz : zk dC dI cB cI cL A s)  (N : Nat) (sD : zD) (v2 : Int32) (s0 : Int32) (a : Int32) (hG : g_D_hasCounts_32 N kr sD v2 s0 = some a) (adD adD_parts adD_bytes adD_lows adD_highs : Nat) (H : Heap) (locs : List Loc) (hP : va_P (dC, dI) zcl (zwD adD adD_parts adD_bytes adD_lows adD_highs cB cI cL sD) H) (hD : va_D A (zwD adD adD_parts adD_bytes adD_lows adD_highs cB cI cL sD)) (hS : va_S A s.heap H locs) (ls : Array Slot) (hl : lv_has ls 3 [(0, .ref adD), (2, .int v2)]) : W p l e R s m args below meth c H locs 0 0 (MQ below (q_D_hasCounts dC dI cB cI cL A adD adD_parts adD_bytes adD_lows adD_highs sD a) args s 0 0 A) (F0 m 32 ls [.int s0]) := by
  obtain ⟨hx, hb, hr, hml, hown, hts, hlocks, hRf, hRl⟩ := id X
  unfold g_D_hasCounts_32 at hG
  refine lv_istore_n (lv' := [(1, .int s0), (0, .ref adD), (2, .int v2)]) hx hb d_D_hasCounts_32 rfl hl (by decide) rfl (fun ls hl => ?_)
  refine lv_iinc (v := v2 + 1) (lv' := [(2, .int (v2 + 1)), (1, .int s0), (0, .ref adD)]) hx hb d_D_hasCounts_33 hl (k := 2) rfl rfl (by decide) rfl (fun ls hl => ?_)
  refine lv_goto (tgt := 5) hx hb d_D_hasCounts_36 (by decide) ?_
  exact hrec sD s0 (v2 + 1) _ hG adD adD_parts adD_bytes adD_lows adD_highs _ _ hP hD hS _ (lv_sub hl [2, 1, 0] rfl)
set_option maxRecDepth 100000 in
set_option maxHeartbeats 4000000 in
theorem k_D_hasCounts_31 {p : Program} {l : Launch} {e : Env} {R : Room} {s : State} {m : MethodId} {args : Array Value} {below : List Frame} {meth : Method} {c : Code} {dC : Nat → ClassId} {dI : Nat → Nat → Nat} {cB cI cL : ClassId} {A : Nat → Prop} (kr : zD → Int32 → Int32 → Option (Int32)) (hrec : ∀ (sD : zD) (v1 : Int32) (v2 : Int32) (a : Int32), kr sD v1 v2 = some a → ∀ (adD adD_parts adD_bytes adD_lows adD_highs : Nat) (H : Heap) (locs : List Loc), va_P (dC, dI) zcl (zwD adD adD_parts adD_bytes adD_lows adD_highs cB cI cL sD) H → va_D A (zwD adD adD_parts adD_bytes adD_lows adD_highs cB cI cL sD) → va_S A s.heap H locs → ∀ ls : Array Slot, lv_has ls 3 [(0, .ref adD), (1, .int v1), (2, .int v2)] → W p l e R s m args below meth c H locs 0 0 (MQ below (q_D_hasCounts dC dI cB cI cL A adD adD_parts adD_bytes adD_lows adD_highs sD a) args s 0 0 A) (F0 m 5 ls [])) (X : zx p s m args meth c R R_D b_D_hasCounts (some .boolean) 3 1 21) (hA : ∀ q, s.heap.size ≤ q → A q) (zz : zk dC dI cB cI cL A s)  (N : Nat) (sD : zD) (v2 : Int32) (a : Int32) (hG : g_D_hasCounts_31 N kr sD v2 = some a) (adD adD_parts adD_bytes adD_lows adD_highs : Nat) (H : Heap) (locs : List Loc) (hP : va_P (dC, dI) zcl (zwD adD adD_parts adD_bytes adD_lows adD_highs cB cI cL sD) H) (hD : va_D A (zwD adD adD_parts adD_bytes adD_lows adD_highs cB cI cL sD)) (hS : va_S A s.heap H locs) (ls : Array Slot) (hl : lv_has ls 3 [(0, .ref adD), (2, .int v2)]) : W p l e R s m args below meth c H locs 0 0 (MQ below (q_D_hasCounts dC dI cB cI cL A adD adD_parts adD_bytes adD_lows adD_highs sD a) args s 0 0 A) (F0 m 31 ls []) := by
  obtain ⟨hx, hb, hr, hml, hown, hts, hlocks, hRf, hRl⟩ := id X
  unfold g_D_hasCounts_31 at hG
  refine lv_iconst (v := (0 : Int32)) hx hb d_D_hasCounts_31 (by decide) ?_
  exact k_D_hasCounts_32 kr hrec X hA zz N sD v2 (0 : Int32) _ hG adD adD_parts adD_bytes adD_lows adD_highs _ _ hP hD hS _ (lv_sub hl [0, 1] rfl)
set_option maxRecDepth 100000 in
set_option maxHeartbeats 4000000 in
theorem k_D_hasCounts_5_b {p : Program} {l : Launch} {e : Env} {R : Room} {s : State} {m : MethodId} {args : Array Value} {below : List Frame} {meth : Method} {c : Code} {dC : Nat → ClassId} {dI : Nat → Nat → Nat} {cB cI cL : ClassId} {A : Nat → Prop} (kr : zD → Int32 → Int32 → Option (Int32)) (hrec : ∀ (sD : zD) (v1 : Int32) (v2 : Int32) (a : Int32), kr sD v1 v2 = some a → ∀ (adD adD_parts adD_bytes adD_lows adD_highs : Nat) (H : Heap) (locs : List Loc), va_P (dC, dI) zcl (zwD adD adD_parts adD_bytes adD_lows adD_highs cB cI cL sD) H → va_D A (zwD adD adD_parts adD_bytes adD_lows adD_highs cB cI cL sD) → va_S A s.heap H locs → ∀ ls : Array Slot, lv_has ls 3 [(0, .ref adD), (1, .int v1), (2, .int v2)] → W p l e R s m args below meth c H locs 0 0 (MQ below (q_D_hasCounts dC dI cB cI cL A adD adD_parts adD_bytes adD_lows adD_highs sD a) args s 0 0 A) (F0 m 5 ls [])) (X : zx p s m args meth c R R_D b_D_hasCounts (some .boolean) 3 1 21) (hA : ∀ q, s.heap.size ≤ q → A q) (zz : zk dC dI cB cI cL A s)  (N : Nat) (sD : zD) (v1 : Int32) (v2 : Int32) (a : Int32) (hG : g_D_hasCounts_5_b N kr sD v1 v2 = some a) (adD adD_parts adD_bytes adD_lows adD_highs : Nat) (H : Heap) (locs : List Loc) (hP : va_P (dC, dI) zcl (zwD adD adD_parts adD_bytes adD_lows adD_highs cB cI cL sD) H) (hD : va_D A (zwD adD adD_parts adD_bytes adD_lows adD_highs cB cI cL sD)) (hS : va_S A s.heap H locs) (ls : Array Slot) (hl : lv_has ls 3 [(0, .ref adD), (1, .int v1), (2, .int v2)]) : W p l e R s m args below meth c H locs 0 0 (MQ below (q_D_hasCounts dC dI cB cI cL A adD adD_parts adD_bytes adD_lows adD_highs sD a) args s 0 0 A) (F0 m 5 ls []) := by
  obtain ⟨hx, hb, hr, hml, hown, hts, hlocks, hRf, hRl⟩ := id X
  unfold g_D_hasCounts_5_b at hG
  refine lv_iload_n hx hb d_D_hasCounts_5 rfl (lv_at hl 2 rfl) ?_
  refine lv_bipush (v := (12 : Int32)) hx hb d_D_hasCounts_6 (by decide) ?_
  refine lv_icmp_ge (tgt := 39) hx hb d_D_hasCounts_8 (by decide) (fun hc => ?_) (fun hc => ?_)
  · have hG := zt hG hc
    refine lv_iload_n hx hb d_D_hasCounts_39 rfl (lv_at hl 1 rfl) ?_
    obtain ⟨hnb, hG⟩ := zgd hG
    exact W.zret (v := v1) hx hb hr hnb (fun t9 ht9 hW9 => ⟨⟨v1, (), rfl, Option.some.inj hG, by rw [ht9]; exact hP, hD⟩, hS.F ht9⟩) hS.2.2 d_D_hasCounts_40
  · have hG := zf hG hc
    refine lv_iload_n hx hb d_D_hasCounts_11 rfl (lv_at hl 1 rfl) ?_
    refine lv_if_eq (tgt := 31) hx hb d_D_hasCounts_12 (by decide) (fun hc => ?_) (fun hc => ?_)
    · have hG := zt hG hc
      exact k_D_hasCounts_31 kr hrec X hA zz N sD v2 _ hG adD adD_parts adD_bytes adD_lows adD_highs _ _ hP hD hS _ (lv_sub hl [0, 2] rfl)
    · have hG := zf hG hc
      refine lv_aload_n hx hb d_D_hasCounts_15 rfl (lv_at hl 0 rfl) ?_
      refine va_get (D := (dC, dI)) (ci := 6) (v := .ref adD_parts) (C := R_D) (T := F_D) (N := 6) hx hb hts zi_D hown zz.1 hP 0 rfl rfl 0 (by decide) (hts (.fieldLink R_D 9 "WireCodec$Draft" "parts" "[J") zin_D_9) (fun _ h9 => h9) rfl d_D_hasCounts_16 ?_
      refine lv_iload_n hx hb d_D_hasCounts_19 rfl (lv_at hl 2 rfl) ?_
      obtain ⟨hin, hG⟩ := zgd hG
      refine va_lald hx hb zz.1 hP 1 2 rfl rfl hin d_D_hasCounts_20 ?_
      obtain ⟨a_21, hx_21, hG⟩ := zb hG
      have hr_21 := zrunSN (p := p) (e := e) (below := below) (meth := meth) (As := [.long ((zD_parts sD) v2.toNatClampNeg)]) (rest := []) (st0 := [.long ((zD_parts sD) v2.toNatClampNeg)]) (cells := 0) (slots := 0) X zz hP hD hS hA [] (by decide) rfl (c_W_isNumber l dC dI cB cI cL H.size ((zD_parts sD) v2.toNatClampNeg) _ hx_21) zy_W_isNumber zv_W_isNumber (zz.2.1 _ znest_D_92) hl rfl rfl d_D_hasCounts_21 (lv_room (Nat.le_of_ble_eq_true rfl)) rfl rfl ⟨Nat.le_trans (Nat.le_of_ble_eq_true rfl) hRf, Nat.le_trans (Nat.le_of_ble_eq_true rfl) hRl⟩ ⟨Nat.zero_le _, Nat.zero_le _⟩
      refine zcalli (wr := (zwD adD adD_parts adD_bytes adD_lows adD_highs cB cI cL sD)) hr_21 hP hD hS hA [] [0, 1, 2, 3, 4] rfl rfl (by decide) (by decide) (fun r_21 u_21 H locs hw_21 hP hD hS => ?_)
      subst hw_21
      have hP : va_P (dC, dI) zcl (zwD adD adD_parts adD_bytes adD_lows adD_highs cB cI cL sD) H := hP
      have hD : va_D A (zwD adD adD_parts adD_bytes adD_lows adD_highs cB cI cL sD) := hD
      have hG : g_D_hasCounts_c21 N kr sD v2 r_21 = some a := hG
      unfold g_D_hasCounts_c21 at hG
      refine lv_if_eq (tgt := 31) hx hb d_D_hasCounts_24 (by decide) (fun hc => ?_) (fun hc => ?_)
      · have hG := zt hG hc
        exact k_D_hasCounts_31 kr hrec X hA zz N sD v2 _ hG adD adD_parts adD_bytes adD_lows adD_highs _ _ hP hD hS _ (lv_sub hl [0, 2] rfl)
      · have hG := zf hG hc
        refine lv_iconst (v := (1 : Int32)) hx hb d_D_hasCounts_27 (by decide) ?_
        refine lv_goto (tgt := 32) hx hb d_D_hasCounts_28 (by decide) ?_
        exact k_D_hasCounts_32 kr hrec X hA zz N sD v2 (1 : Int32) _ hG adD adD_parts adD_bytes adD_lows adD_highs _ _ hP hD hS _ (lv_sub hl [0, 2] rfl)
theorem k_D_hasCounts_5 {p : Program} {l : Launch} {e : Env} {R : Room} {s : State} {m : MethodId} {args : Array Value} {below : List Frame} {meth : Method} {c : Code} {dC : Nat → ClassId} {dI : Nat → Nat → Nat} {cB cI cL : ClassId} {A : Nat → Prop} (X : zx p s m args meth c R R_D b_D_hasCounts (some .boolean) 3 1 21) (hA : ∀ q, s.heap.size ≤ q → A q) (zz : zk dC dI cB cI cL A s)  (N : Nat) : ∀ (k : Nat) (sD : zD) (v1 : Int32) (v2 : Int32) (a : Int32) (hG : g_D_hasCounts_5 N k sD v1 v2 = some a) (adD adD_parts adD_bytes adD_lows adD_highs : Nat) (H : Heap) (locs : List Loc) (hP : va_P (dC, dI) zcl (zwD adD adD_parts adD_bytes adD_lows adD_highs cB cI cL sD) H) (hD : va_D A (zwD adD adD_parts adD_bytes adD_lows adD_highs cB cI cL sD)) (hS : va_S A s.heap H locs) (ls : Array Slot) (hl : lv_has ls 3 [(0, .ref adD), (1, .int v1), (2, .int v2)]), W p l e R s m args below meth c H locs 0 0 (MQ below (q_D_hasCounts dC dI cB cI cL A adD adD_parts adD_bytes adD_lows adD_highs sD a) args s 0 0 A) (F0 m 5 ls []) := by
  intro k
  induction k with
  | zero => intro sD v1 v2 a hG; exact absurd hG (by unfold g_D_hasCounts_5; simp)
  | succ k ih => intro sD v1 v2 a hG adD adD_parts adD_bytes adD_lows adD_highs H locs hP hD hS ls hl; exact k_D_hasCounts_5_b _ ih X hA zz N sD v1 v2 a hG adD adD_parts adD_bytes adD_lows adD_highs H locs hP hD hS ls hl
set_option maxRecDepth 100000 in
set_option maxHeartbeats 4000000 in
theorem k_D_hasCounts_0 {p : Program} {l : Launch} {e : Env} {R : Room} {s : State} {m : MethodId} {args : Array Value} {below : List Frame} {meth : Method} {c : Code} {dC : Nat → ClassId} {dI : Nat → Nat → Nat} {cB cI cL : ClassId} {A : Nat → Prop} (X : zx p s m args meth c R R_D b_D_hasCounts (some .boolean) 3 1 21) (hA : ∀ q, s.heap.size ≤ q → A q) (zz : zk dC dI cB cI cL A s)  (N : Nat) (sD : zD) (a : Int32) (hG : g_D_hasCounts N sD = some a) (adD adD_parts adD_bytes adD_lows adD_highs : Nat) (H : Heap) (locs : List Loc) (hP : va_P (dC, dI) zcl (zwD adD adD_parts adD_bytes adD_lows adD_highs cB cI cL sD) H) (hD : va_D A (zwD adD adD_parts adD_bytes adD_lows adD_highs cB cI cL sD)) (hS : va_S A s.heap H locs) (ls : Array Slot) (hl : lv_has ls 3 [(0, .ref adD)]) : W p l e R s m args below meth c H locs 0 0 (MQ below (q_D_hasCounts dC dI cB cI cL A adD adD_parts adD_bytes adD_lows adD_highs sD a) args s 0 0 A) (F0 m 0 ls []) := by
  obtain ⟨hx, hb, hr, hml, hown, hts, hlocks, hRf, hRl⟩ := id X
  unfold g_D_hasCounts at hG
  refine lv_iconst (v := (1 : Int32)) hx hb d_D_hasCounts_0 (by decide) ?_
  refine lv_istore_n (lv' := [(1, .int (1 : Int32)), (0, .ref adD)]) hx hb d_D_hasCounts_1 rfl hl (by decide) rfl (fun ls hl => ?_)
  refine lv_bipush (v := (9 : Int32)) hx hb d_D_hasCounts_2 (by decide) ?_
  refine lv_istore_n (lv' := [(2, .int (9 : Int32)), (1, .int (1 : Int32)), (0, .ref adD)]) hx hb d_D_hasCounts_4 rfl hl (by decide) rfl (fun ls hl => ?_)
  exact k_D_hasCounts_5 X hA zz N N sD (1 : Int32) (9 : Int32) _ hG adD adD_parts adD_bytes adD_lows adD_highs _ _ hP hD hS _ (lv_sub hl [2, 1, 0] rfl)
set_option maxRecDepth 100000 in
set_option maxHeartbeats 4000000 in
theorem c_D_hasCounts (l : Launch) (dC : Nat → ClassId) (dI : Nat → Nat → Nat) (cB cI cL : ClassId) (sz : Nat) (adD adD_parts adD_bytes adD_lows adD_highs : Nat) (N : Nat) (sD : zD) (a : Int32) (hG : g_D_hasCounts N sD = some a) : Met l y_D_hasCounts (zw y_D_hasCounts b_D_hasCounts 3 (some .boolean)) ({ frames := 1, cells := 0, slots := 0, locals := 21 }) (va_Pc [.ref adD] (zpre dC dI cB cI cL sz (zwD adD adD_parts adD_bytes adD_lows adD_highs cB cI cL sD))) (q_D_hasCounts dC dI cB cI cL (va_A (zwD adD adD_parts adD_bytes adD_lows adD_highs cB cI cL sD) sz) adD adD_parts adD_bytes adD_lows adD_highs sD a) 0 0 (va_A (zwD adD adD_parts adD_bytes adD_lows adD_highs cB cI cL sD) sz) := by
  refine Met.ofW (cc := b_D_hasCounts) (maxL := 3) (ret := (some .boolean)) (by decide) rfl ?_
  intro p e s m args below meth c s₁ B hml hv
  obtain ⟨rfl, hsz, hP, zz, hD0⟩ := hv
  subst hsz
  have X := zx_of (F := 1) (L := 21) B hml (Nat.le_refl _) (Nat.le_refl _)
  have hD := hD0.self (sz := s.heap.size)
  have hA : ∀ q : Nat, s.heap.size ≤ q → va_A (zwD adD adD_parts adD_bytes adD_lows adD_highs cB cI cL sD) s.heap.size q := fun q h => Or.inr h
  have hl := lv_entry ([.ref adD]) (n := 3) (Nat.le_of_ble_eq_true rfl)
  rw [lg_entry_eq]
  generalize (lg_sl ([.ref adD]) ++ List.replicate (3 - (lg_sl ([.ref adD])).length) Slot.unset).toArray = ls at hl ⊢
  exact k_D_hasCounts_0 X hA zz N sD a hG adD adD_parts adD_bytes adD_lows adD_highs _ _ hP hD va_S.rf ls hl
noncomputable def g_D_hasShape_122 (sD : zD) (s0 : Int32) : Option (Int32) := zg (narrow .boolean (.int s0) = .int s0) (some (s0))
noncomputable def g_D_hasShape_121 (sD : zD) : Option (Int32) := g_D_hasShape_122 sD (0 : Int32)
noncomputable def g_D_hasShape_c111 (sD : zD) (r_111 : Int32) : Option (Int32) := if r_111 = (0 : Int32) then (g_D_hasShape_121 sD) else (g_D_hasShape_122 sD (1 : Int32))
noncomputable def g_D_hasShape_89 (sD : zD) (v1 : Int32) (v3 : Int32) (s0 : Int32) : Option (Int32) := if v3 = (0 : Int32) then (g_D_hasShape_121 sD) else (zg (vp_in (0 : Int32) 12) (zg (vp_in (1 : Int32) 12) ((g_W_fieldsHold v1 ((zD_parts sD) (0 : Int32).toNatClampNeg) ((zD_parts sD) (1 : Int32).toNatClampNeg) s0.toInt64).bind (fun a => g_D_hasShape_c111 sD a))))
noncomputable def g_D_hasShape_68 (sD : zD) (v1 : Int32) (s0 : Int32) : Option (Int32) := if v1 = (24 : Int32) then (g_D_hasShape_89 sD v1 s0 ((zD_length sD) - (16 : Int32))) else (g_D_hasShape_89 sD v1 s0 (zD_length sD))
noncomputable def g_D_hasShape_63 (sD : zD) (v1 : Int32) : Option (Int32) := g_D_hasShape_68 sD v1 (1 : Int32)
noncomputable def g_D_hasShape_67 (sD : zD) (v1 : Int32) : Option (Int32) := g_D_hasShape_68 sD v1 (0 : Int32)
noncomputable def g_D_hasShape_c57 (sD : zD) (v1 : Int32) (r_57 : Int32) : Option (Int32) := if r_57 = (0 : Int32) then (g_D_hasShape_67 sD v1) else (g_D_hasShape_63 sD v1)
noncomputable def g_D_hasShape_45 (sD : zD) (v1 : Int32) (v2 : Int32) : Option (Int32) := if (v2 &&& (4 : Int32)) = (0 : Int32) then (g_D_hasShape_63 sD v1) else (zg (vp_in (2 : Int32) 12) ((g_W_isNumber ((zD_parts sD) (2 : Int32).toNatClampNeg)).bind (fun a => g_D_hasShape_c57 sD v1 a)))
noncomputable def g_D_hasShape_c39 (sD : zD) (v1 : Int32) (v2 : Int32) (r_39 : Int32) : Option (Int32) := if r_39 = (0 : Int32) then (g_D_hasShape_67 sD v1) else (g_D_hasShape_45 sD v1 v2)
noncomputable def g_D_hasShape_27 (sD : zD) (v1 : Int32) (v2 : Int32) : Option (Int32) := if (v2 &&& (2 : Int32)) = (0 : Int32) then (g_D_hasShape_45 sD v1 v2) else (zg (vp_in (1 : Int32) 12) ((g_W_isNumber ((zD_parts sD) (1 : Int32).toNatClampNeg)).bind (fun a => g_D_hasShape_c39 sD v1 v2 a)))
noncomputable def g_D_hasShape_c21 (sD : zD) (v1 : Int32) (r_5 : Int32) (r_21 : Int32) : Option (Int32) := if r_21 = (0 : Int32) then (g_D_hasShape_67 sD v1) else (g_D_hasShape_27 sD v1 r_5)
noncomputable def g_D_hasShape_c5 (sD : zD) (v1 : Int32) (r_5 : Int32) : Option (Int32) := if (r_5 &&& (1 : Int32)) = (0 : Int32) then (g_D_hasShape_27 sD v1 r_5) else (zg (vp_in (0 : Int32) 12) ((g_W_isNumber ((zD_parts sD) (0 : Int32).toNatClampNeg)).bind (fun a => g_D_hasShape_c21 sD v1 r_5 a)))
noncomputable def g_D_hasShape_c2 (sD : zD) (v1 : Int32) (r_2 : Int32) : Option (Int32) := (g_D_shapeOf r_2).bind (fun a => g_D_hasShape_c5 sD v1 a)
noncomputable def g_D_hasShape (sD : zD) (v1 : Int32) : Option (Int32) := (g_D_firstByte sD v1).bind (fun a => g_D_hasShape_c2 sD v1 a)
def q_D_hasShape (dC : Nat → ClassId) (dI : Nat → Nat → Nat) (cB cI cL : ClassId) (A : Nat → Prop) (adD : Nat) (adD_parts : Nat) (adD_bytes : Nat) (adD_lows : Nat) (adD_highs : Nat) (sD : zD) (a : Int32) : Array Value → State → Outcome → State → Prop := va_Qi (fun (r : Int32) (u : Unit) => (r) = a) (fun u U => va_P (dC, dI) zcl (zwD adD adD_parts adD_bytes adD_lows adD_highs cB cI cL sD) U.heap ∧ va_D A (zwD adD adD_parts adD_bytes adD_lows adD_highs cB cI cL sD)) A
set_option maxRecDepth 100000 in
set_option maxHeartbeats 4000000 in
theorem k_D_hasShape_122 {p : Program} {l : Launch} {e : Env} {R : Room} {s : State} {m : MethodId} {args : Array Value} {below : List Frame} {meth : Method} {c : Code} {dC : Nat → ClassId} {dI : Nat → Nat → Nat} {cB cI cL : ClassId} {A : Nat → Prop} (X : zx p s m args meth c R R_D b_D_hasShape (some .boolean) 5 1 26) (hA : ∀ q, s.heap.size ≤ q → A q) (zz : zk dC dI cB cI cL A s)  (sD : zD) (s0 : Int32) (a : Int32) (hG : g_D_hasShape_122 sD s0 = some a) (adD adD_parts adD_bytes adD_lows adD_highs : Nat) (H : Heap) (locs : List Loc) (hP : va_P (dC, dI) zcl (zwD adD adD_parts adD_bytes adD_lows adD_highs cB cI cL sD) H) (hD : va_D A (zwD adD adD_parts adD_bytes adD_lows adD_highs cB cI cL sD)) (hS : va_S A s.heap H locs) (ls : Array Slot) (hl : lv_has ls 5 []) : W p l e R s m args below meth c H locs 0 0 (MQ below (q_D_hasShape dC dI cB cI cL A adD adD_parts adD_bytes adD_lows adD_highs sD a) args s 0 0 A) (F0 m 122 ls [.int s0]) := by
  obtain ⟨hx, hb, hr, hml, hown, hts, hlocks, hRf, hRl⟩ := id X
  unfold g_D_hasShape_122 at hG
  obtain ⟨hnb, hG⟩ := zgd hG
  exact W.zret (v := s0) hx hb hr hnb (fun t9 ht9 hW9 => ⟨⟨s0, (), rfl, Option.some.inj hG, by rw [ht9]; exact hP, hD⟩, hS.F ht9⟩) hS.2.2 d_D_hasShape_122
set_option maxRecDepth 100000 in
set_option maxHeartbeats 4000000 in
theorem k_D_hasShape_121 {p : Program} {l : Launch} {e : Env} {R : Room} {s : State} {m : MethodId} {args : Array Value} {below : List Frame} {meth : Method} {c : Code} {dC : Nat → ClassId} {dI : Nat → Nat → Nat} {cB cI cL : ClassId} {A : Nat → Prop} (X : zx p s m args meth c R R_D b_D_hasShape (some .boolean) 5 1 26) (hA : ∀ q, s.heap.size ≤ q → A q) (zz : zk dC dI cB cI cL A s)  (sD : zD) (a : Int32) (hG : g_D_hasShape_121 sD = some a) (adD adD_parts adD_bytes adD_lows adD_highs : Nat) (H : Heap) (locs : List Loc) (hP : va_P (dC, dI) zcl (zwD adD adD_parts adD_bytes adD_lows adD_highs cB cI cL sD) H) (hD : va_D A (zwD adD adD_parts adD_bytes adD_lows adD_highs cB cI cL sD)) (hS : va_S A s.heap H locs) (ls : Array Slot) (hl : lv_has ls 5 []) : W p l e R s m args below meth c H locs 0 0 (MQ below (q_D_hasShape dC dI cB cI cL A adD adD_parts adD_bytes adD_lows adD_highs sD a) args s 0 0 A) (F0 m 121 ls []) := by
  obtain ⟨hx, hb, hr, hml, hown, hts, hlocks, hRf, hRl⟩ := id X
  unfold g_D_hasShape_121 at hG
  refine lv_iconst (v := (0 : Int32)) hx hb d_D_hasShape_121 (by decide) ?_
  exact k_D_hasShape_122 X hA zz sD (0 : Int32) _ hG adD adD_parts adD_bytes adD_lows adD_highs _ _ hP hD hS _ (lv_sub hl [] rfl)
set_option maxRecDepth 100000 in
set_option maxHeartbeats 4000000 in
theorem k_D_hasShape_89 {p : Program} {l : Launch} {e : Env} {R : Room} {s : State} {m : MethodId} {args : Array Value} {below : List Frame} {meth : Method} {c : Code} {dC : Nat → ClassId} {dI : Nat → Nat → Nat} {cB cI cL : ClassId} {A : Nat → Prop} (X : zx p s m args meth c R R_D b_D_hasShape (some .boolean) 5 1 26) (hA : ∀ q, s.heap.size ≤ q → A q) (zz : zk dC dI cB cI cL A s)  (sD : zD) (v1 : Int32) (v3 : Int32) (s0 : Int32) (a : Int32) (hG : g_D_hasShape_89 sD v1 v3 s0 = some a) (adD adD_parts adD_bytes adD_lows adD_highs : Nat) (H : Heap) (locs : List Loc) (hP : va_P (dC, dI) zcl (zwD adD adD_parts adD_bytes adD_lows adD_highs cB cI cL sD) H) (hD : va_D A (zwD adD adD_parts adD_bytes adD_lows adD_highs cB cI cL sD)) (hS : va_S A s.heap H locs) (ls : Array Slot) (hl : lv_has ls 5 [(0, .ref adD), (1, .int v1), (3, .int v3)]) : W p l e R s m args below meth c H locs 0 0 (MQ below (q_D_hasShape dC dI cB cI cL A adD adD_parts adD_bytes adD_lows adD_highs sD a) args s 0 0 A) (F0 m 89 ls [.int s0]) := by
  obtain ⟨hx, hb, hr, hml, hown, hts, hlocks, hRf, hRl⟩ := id X
  unfold g_D_hasShape_89 at hG
  refine lv_istore (lv' := [(4, .int s0), (0, .ref adD), (1, .int v1), (3, .int v3)]) hx hb d_D_hasShape_89 hl (by decide) rfl (fun ls hl => ?_)
  refine lv_iload_n hx hb d_D_hasShape_91 rfl (lv_at hl 3 rfl) ?_
  refine lv_if_eq (tgt := 121) hx hb d_D_hasShape_92 (by decide) (fun hc => ?_) (fun hc => ?_)
  · have hG := zt hG hc
    exact k_D_hasShape_121 X hA zz sD _ hG adD adD_parts adD_bytes adD_lows adD_highs _ _ hP hD hS _ (lv_sub hl [] rfl)
  · have hG := zf hG hc
    refine lv_iload_n hx hb d_D_hasShape_95 rfl (lv_at hl 2 rfl) ?_
    refine lv_aload_n hx hb d_D_hasShape_96 rfl (lv_at hl 1 rfl) ?_
    refine va_get (D := (dC, dI)) (ci := 6) (v := .ref adD_parts) (C := R_D) (T := F_D) (N := 6) hx hb hts zi_D hown zz.1 hP 0 rfl rfl 0 (by decide) (hts (.fieldLink R_D 9 "WireCodec$Draft" "parts" "[J") zin_D_9) (fun _ h9 => h9) rfl d_D_hasShape_97 ?_
    refine lv_iconst (v := (0 : Int32)) hx hb d_D_hasShape_100 (by decide) ?_
    obtain ⟨hin, hG⟩ := zgd hG
    refine va_lald hx hb zz.1 hP 1 2 rfl rfl hin d_D_hasShape_101 ?_
    refine lv_aload_n hx hb d_D_hasShape_102 rfl (lv_at hl 1 rfl) ?_
    refine va_get (D := (dC, dI)) (ci := 6) (v := .ref adD_parts) (C := R_D) (T := F_D) (N := 6) hx hb hts zi_D hown zz.1 hP 0 rfl rfl 0 (by decide) (hts (.fieldLink R_D 9 "WireCodec$Draft" "parts" "[J") zin_D_9) (fun _ h9 => h9) rfl d_D_hasShape_103 ?_
    refine lv_iconst (v := (1 : Int32)) hx hb d_D_hasShape_106 (by decide) ?_
    obtain ⟨hin, hG⟩ := zgd hG
    refine va_lald hx hb zz.1 hP 1 2 rfl rfl hin d_D_hasShape_107 ?_
    refine lv_iload hx hb d_D_hasShape_108 (lv_at hl 0 rfl) ?_
    refine lv_i2l hx hb d_D_hasShape_110 rfl ?_
    obtain ⟨a_111, hx_111, hG⟩ := zb hG
    have hr_111 := zrunSN (p := p) (e := e) (below := below) (meth := meth) (As := [.int v1, .long ((zD_parts sD) (0 : Int32).toNatClampNeg), .long ((zD_parts sD) (1 : Int32).toNatClampNeg), .long s0.toInt64]) (rest := []) (st0 := [.long s0.toInt64, .long ((zD_parts sD) (1 : Int32).toNatClampNeg), .long ((zD_parts sD) (0 : Int32).toNatClampNeg), .int v1]) (cells := 0) (slots := 0) X zz hP hD hS hA [] (by decide) rfl (c_W_fieldsHold l dC dI cB cI cL H.size v1 ((zD_parts sD) (0 : Int32).toNatClampNeg) ((zD_parts sD) (1 : Int32).toNatClampNeg) s0.toInt64 _ hx_111) zy_W_fieldsHold zv_W_fieldsHold (zz.2.1 _ znest_D_95) hl rfl rfl d_D_hasShape_111 (lv_room (Nat.le_of_ble_eq_true rfl)) rfl rfl ⟨Nat.le_trans (Nat.le_of_ble_eq_true rfl) hRf, Nat.le_trans (Nat.le_of_ble_eq_true rfl) hRl⟩ ⟨Nat.zero_le _, Nat.zero_le _⟩
    refine zcalli (wr := (zwD adD adD_parts adD_bytes adD_lows adD_highs cB cI cL sD)) hr_111 hP hD hS hA [] [0, 1, 2, 3, 4] rfl rfl (by decide) (by decide) (fun r_111 u_111 H locs hw_111 hP hD hS => ?_)
    subst hw_111
    have hP : va_P (dC, dI) zcl (zwD adD adD_parts adD_bytes adD_lows adD_highs cB cI cL sD) H := hP
    have hD : va_D A (zwD adD adD_parts adD_bytes adD_lows adD_highs cB cI cL sD) := hD
    have hG : g_D_hasShape_c111 sD r_111 = some a := hG
    unfold g_D_hasShape_c111 at hG
    refine lv_if_eq (tgt := 121) hx hb d_D_hasShape_114 (by decide) (fun hc => ?_) (fun hc => ?_)
    · have hG := zt hG hc
      exact k_D_hasShape_121 X hA zz sD _ hG adD adD_parts adD_bytes adD_lows adD_highs _ _ hP hD hS _ (lv_sub hl [] rfl)
    · have hG := zf hG hc
      refine lv_iconst (v := (1 : Int32)) hx hb d_D_hasShape_117 (by decide) ?_
      refine lv_goto (tgt := 122) hx hb d_D_hasShape_118 (by decide) ?_
      exact k_D_hasShape_122 X hA zz sD (1 : Int32) _ hG adD adD_parts adD_bytes adD_lows adD_highs _ _ hP hD hS _ (lv_sub hl [] rfl)
set_option maxRecDepth 100000 in
set_option maxHeartbeats 4000000 in
theorem k_D_hasShape_68 {p : Program} {l : Launch} {e : Env} {R : Room} {s : State} {m : MethodId} {args : Array Value} {below : List Frame} {meth : Method} {c : Code} {dC : Nat → ClassId} {dI : Nat → Nat → Nat} {cB cI cL : ClassId} {A : Nat → Prop} (X : zx p s m args meth c R R_D b_D_hasShape (some .boolean) 5 1 26) (hA : ∀ q, s.heap.size ≤ q → A q) (zz : zk dC dI cB cI cL A s)  (sD : zD) (v1 : Int32) (s0 : Int32) (a : Int32) (hG : g_D_hasShape_68 sD v1 s0 = some a) (adD adD_parts adD_bytes adD_lows adD_highs : Nat) (H : Heap) (locs : List Loc) (hP : va_P (dC, dI) zcl (zwD adD adD_parts adD_bytes adD_lows adD_highs cB cI cL sD) H) (hD : va_D A (zwD adD adD_parts adD_bytes adD_lows adD_highs cB cI cL sD)) (hS : va_S A s.heap H locs) (ls : Array Slot) (hl : lv_has ls 5 [(0, .ref adD), (1, .int v1)]) : W p l e R s m args below meth c H locs 0 0 (MQ below (q_D_hasShape dC dI cB cI cL A adD adD_parts adD_bytes adD_lows adD_highs sD a) args s 0 0 A) (F0 m 68 ls [.int s0]) := by
  obtain ⟨hx, hb, hr, hml, hown, hts, hlocks, hRf, hRl⟩ := id X
  unfold g_D_hasShape_68 at hG
  refine lv_istore_n (lv' := [(3, .int s0), (0, .ref adD), (1, .int v1)]) hx hb d_D_hasShape_68 rfl hl (by decide) rfl (fun ls hl => ?_)
  refine lv_iload_n hx hb d_D_hasShape_69 rfl (lv_at hl 2 rfl) ?_
  refine lv_bipush (v := (24 : Int32)) hx hb d_D_hasShape_70 (by decide) ?_
  refine lv_icmp_ne (tgt := 85) hx hb d_D_hasShape_72 (by decide) (fun hc => ?_) (fun hc => ?_)
  · have hG := zf hG hc
    refine lv_aload_n hx hb d_D_hasShape_85 rfl (lv_at hl 1 rfl) ?_
    refine va_get (D := (dC, dI)) (ci := 6) (v := .int (zD_length sD)) (C := R_D) (T := F_D) (N := 6) hx hb hts zi_D hown zz.1 hP 0 rfl rfl 4 (by decide) (hts (.fieldLink R_D 31 "WireCodec$Draft" "length" "I") zin_D_31) (fun _ h9 => h9) rfl d_D_hasShape_86 ?_
    exact k_D_hasShape_89 X hA zz sD v1 s0 (zD_length sD) _ hG adD adD_parts adD_bytes adD_lows adD_highs _ _ hP hD hS _ (lv_sub hl [1, 2, 0] rfl)
  · have hG := zt hG hc
    refine lv_aload_n hx hb d_D_hasShape_75 rfl (lv_at hl 1 rfl) ?_
    refine va_get (D := (dC, dI)) (ci := 6) (v := .int (zD_length sD)) (C := R_D) (T := F_D) (N := 6) hx hb hts zi_D hown zz.1 hP 0 rfl rfl 4 (by decide) (hts (.fieldLink R_D 31 "WireCodec$Draft" "length" "I") zin_D_31) (fun _ h9 => h9) rfl d_D_hasShape_76 ?_
    refine lv_bipush (v := (16 : Int32)) hx hb d_D_hasShape_79 (by decide) ?_
    refine lv_isub hx hb d_D_hasShape_81 ?_
    refine lv_goto (tgt := 89) hx hb d_D_hasShape_82 (by decide) ?_
    exact k_D_hasShape_89 X hA zz sD v1 s0 ((zD_length sD) - (16 : Int32)) _ hG adD adD_parts adD_bytes adD_lows adD_highs _ _ hP hD hS _ (lv_sub hl [1, 2, 0] rfl)
set_option maxRecDepth 100000 in
set_option maxHeartbeats 4000000 in
theorem k_D_hasShape_63 {p : Program} {l : Launch} {e : Env} {R : Room} {s : State} {m : MethodId} {args : Array Value} {below : List Frame} {meth : Method} {c : Code} {dC : Nat → ClassId} {dI : Nat → Nat → Nat} {cB cI cL : ClassId} {A : Nat → Prop} (X : zx p s m args meth c R R_D b_D_hasShape (some .boolean) 5 1 26) (hA : ∀ q, s.heap.size ≤ q → A q) (zz : zk dC dI cB cI cL A s)  (sD : zD) (v1 : Int32) (a : Int32) (hG : g_D_hasShape_63 sD v1 = some a) (adD adD_parts adD_bytes adD_lows adD_highs : Nat) (H : Heap) (locs : List Loc) (hP : va_P (dC, dI) zcl (zwD adD adD_parts adD_bytes adD_lows adD_highs cB cI cL sD) H) (hD : va_D A (zwD adD adD_parts adD_bytes adD_lows adD_highs cB cI cL sD)) (hS : va_S A s.heap H locs) (ls : Array Slot) (hl : lv_has ls 5 [(0, .ref adD), (1, .int v1)]) : W p l e R s m args below meth c H locs 0 0 (MQ below (q_D_hasShape dC dI cB cI cL A adD adD_parts adD_bytes adD_lows adD_highs sD a) args s 0 0 A) (F0 m 63 ls []) := by
  obtain ⟨hx, hb, hr, hml, hown, hts, hlocks, hRf, hRl⟩ := id X
  unfold g_D_hasShape_63 at hG
  refine lv_iconst (v := (1 : Int32)) hx hb d_D_hasShape_63 (by decide) ?_
  refine lv_goto (tgt := 68) hx hb d_D_hasShape_64 (by decide) ?_
  exact k_D_hasShape_68 X hA zz sD v1 (1 : Int32) _ hG adD adD_parts adD_bytes adD_lows adD_highs _ _ hP hD hS _ (lv_sub hl [0, 1] rfl)
set_option maxRecDepth 100000 in
set_option maxHeartbeats 4000000 in
theorem k_D_hasShape_67 {p : Program} {l : Launch} {e : Env} {R : Room} {s : State} {m : MethodId} {args : Array Value} {below : List Frame} {meth : Method} {c : Code} {dC : Nat → ClassId} {dI : Nat → Nat → Nat} {cB cI cL : ClassId} {A : Nat → Prop} (X : zx p s m args meth c R R_D b_D_hasShape (some .boolean) 5 1 26) (hA : ∀ q, s.heap.size ≤ q → A q) (zz : zk dC dI cB cI cL A s)  (sD : zD) (v1 : Int32) (a : Int32) (hG : g_D_hasShape_67 sD v1 = some a) (adD adD_parts adD_bytes adD_lows adD_highs : Nat) (H : Heap) (locs : List Loc) (hP : va_P (dC, dI) zcl (zwD adD adD_parts adD_bytes adD_lows adD_highs cB cI cL sD) H) (hD : va_D A (zwD adD adD_parts adD_bytes adD_lows adD_highs cB cI cL sD)) (hS : va_S A s.heap H locs) (ls : Array Slot) (hl : lv_has ls 5 [(0, .ref adD), (1, .int v1)]) : W p l e R s m args below meth c H locs 0 0 (MQ below (q_D_hasShape dC dI cB cI cL A adD adD_parts adD_bytes adD_lows adD_highs sD a) args s 0 0 A) (F0 m 67 ls []) := by
  obtain ⟨hx, hb, hr, hml, hown, hts, hlocks, hRf, hRl⟩ := id X
  unfold g_D_hasShape_67 at hG
  refine lv_iconst (v := (0 : Int32)) hx hb d_D_hasShape_67 (by decide) ?_
  exact k_D_hasShape_68 X hA zz sD v1 (0 : Int32) _ hG adD adD_parts adD_bytes adD_lows adD_highs _ _ hP hD hS _ (lv_sub hl [0, 1] rfl)
set_option maxRecDepth 100000 in
set_option maxHeartbeats 4000000 in
theorem k_D_hasShape_45 {p : Program} {l : Launch} {e : Env} {R : Room} {s : State} {m : MethodId} {args : Array Value} {below : List Frame} {meth : Method} {c : Code} {dC : Nat → ClassId} {dI : Nat → Nat → Nat} {cB cI cL : ClassId} {A : Nat → Prop} (X : zx p s m args meth c R R_D b_D_hasShape (some .boolean) 5 1 26) (hA : ∀ q, s.heap.size ≤ q → A q) (zz : zk dC dI cB cI cL A s)  (sD : zD) (v1 : Int32) (v2 : Int32) (a : Int32) (hG : g_D_hasShape_45 sD v1 v2 = some a) (adD adD_parts adD_bytes adD_lows adD_highs : Nat) (H : Heap) (locs : List Loc) (hP : va_P (dC, dI) zcl (zwD adD adD_parts adD_bytes adD_lows adD_highs cB cI cL sD) H) (hD : va_D A (zwD adD adD_parts adD_bytes adD_lows adD_highs cB cI cL sD)) (hS : va_S A s.heap H locs) (ls : Array Slot) (hl : lv_has ls 5 [(0, .ref adD), (1, .int v1), (2, .int v2)]) : W p l e R s m args below meth c H locs 0 0 (MQ below (q_D_hasShape dC dI cB cI cL A adD adD_parts adD_bytes adD_lows adD_highs sD a) args s 0 0 A) (F0 m 45 ls []) := by
  obtain ⟨hx, hb, hr, hml, hown, hts, hlocks, hRf, hRl⟩ := id X
  unfold g_D_hasShape_45 at hG
  refine lv_iload_n hx hb d_D_hasShape_45 rfl (lv_at hl 2 rfl) ?_
  refine lv_iconst (v := (4 : Int32)) hx hb d_D_hasShape_46 (by decide) ?_
  refine lv_iand hx hb d_D_hasShape_47 ?_
  refine lv_if_eq (tgt := 63) hx hb d_D_hasShape_48 (by decide) (fun hc => ?_) (fun hc => ?_)
  · have hG := zt hG hc
    exact k_D_hasShape_63 X hA zz sD v1 _ hG adD adD_parts adD_bytes adD_lows adD_highs _ _ hP hD hS _ (lv_sub hl [0, 1] rfl)
  · have hG := zf hG hc
    refine lv_aload_n hx hb d_D_hasShape_51 rfl (lv_at hl 0 rfl) ?_
    refine va_get (D := (dC, dI)) (ci := 6) (v := .ref adD_parts) (C := R_D) (T := F_D) (N := 6) hx hb hts zi_D hown zz.1 hP 0 rfl rfl 0 (by decide) (hts (.fieldLink R_D 9 "WireCodec$Draft" "parts" "[J") zin_D_9) (fun _ h9 => h9) rfl d_D_hasShape_52 ?_
    refine lv_iconst (v := (2 : Int32)) hx hb d_D_hasShape_55 (by decide) ?_
    obtain ⟨hin, hG⟩ := zgd hG
    refine va_lald hx hb zz.1 hP 1 2 rfl rfl hin d_D_hasShape_56 ?_
    obtain ⟨a_57, hx_57, hG⟩ := zb hG
    have hr_57 := zrunSN (p := p) (e := e) (below := below) (meth := meth) (As := [.long ((zD_parts sD) (2 : Int32).toNatClampNeg)]) (rest := []) (st0 := [.long ((zD_parts sD) (2 : Int32).toNatClampNeg)]) (cells := 0) (slots := 0) X zz hP hD hS hA [] (by decide) rfl (c_W_isNumber l dC dI cB cI cL H.size ((zD_parts sD) (2 : Int32).toNatClampNeg) _ hx_57) zy_W_isNumber zv_W_isNumber (zz.2.1 _ znest_D_92) hl rfl rfl d_D_hasShape_57 (lv_room (Nat.le_of_ble_eq_true rfl)) rfl rfl ⟨Nat.le_trans (Nat.le_of_ble_eq_true rfl) hRf, Nat.le_trans (Nat.le_of_ble_eq_true rfl) hRl⟩ ⟨Nat.zero_le _, Nat.zero_le _⟩
    refine zcalli (wr := (zwD adD adD_parts adD_bytes adD_lows adD_highs cB cI cL sD)) hr_57 hP hD hS hA [] [0, 1, 2, 3, 4] rfl rfl (by decide) (by decide) (fun r_57 u_57 H locs hw_57 hP hD hS => ?_)
    subst hw_57
    have hP : va_P (dC, dI) zcl (zwD adD adD_parts adD_bytes adD_lows adD_highs cB cI cL sD) H := hP
    have hD : va_D A (zwD adD adD_parts adD_bytes adD_lows adD_highs cB cI cL sD) := hD
    have hG : g_D_hasShape_c57 sD v1 r_57 = some a := hG
    unfold g_D_hasShape_c57 at hG
    refine lv_if_eq (tgt := 67) hx hb d_D_hasShape_60 (by decide) (fun hc => ?_) (fun hc => ?_)
    · have hG := zt hG hc
      exact k_D_hasShape_67 X hA zz sD v1 _ hG adD adD_parts adD_bytes adD_lows adD_highs _ _ hP hD hS _ (lv_sub hl [0, 1] rfl)
    · have hG := zf hG hc
      exact k_D_hasShape_63 X hA zz sD v1 _ hG adD adD_parts adD_bytes adD_lows adD_highs _ _ hP hD hS _ (lv_sub hl [0, 1] rfl)
set_option maxRecDepth 100000 in
set_option maxHeartbeats 4000000 in
theorem k_D_hasShape_27 {p : Program} {l : Launch} {e : Env} {R : Room} {s : State} {m : MethodId} {args : Array Value} {below : List Frame} {meth : Method} {c : Code} {dC : Nat → ClassId} {dI : Nat → Nat → Nat} {cB cI cL : ClassId} {A : Nat → Prop} (X : zx p s m args meth c R R_D b_D_hasShape (some .boolean) 5 1 26) (hA : ∀ q, s.heap.size ≤ q → A q) (zz : zk dC dI cB cI cL A s)  (sD : zD) (v1 : Int32) (v2 : Int32) (a : Int32) (hG : g_D_hasShape_27 sD v1 v2 = some a) (adD adD_parts adD_bytes adD_lows adD_highs : Nat) (H : Heap) (locs : List Loc) (hP : va_P (dC, dI) zcl (zwD adD adD_parts adD_bytes adD_lows adD_highs cB cI cL sD) H) (hD : va_D A (zwD adD adD_parts adD_bytes adD_lows adD_highs cB cI cL sD)) (hS : va_S A s.heap H locs) (ls : Array Slot) (hl : lv_has ls 5 [(0, .ref adD), (1, .int v1), (2, .int v2)]) : W p l e R s m args below meth c H locs 0 0 (MQ below (q_D_hasShape dC dI cB cI cL A adD adD_parts adD_bytes adD_lows adD_highs sD a) args s 0 0 A) (F0 m 27 ls []) := by
  obtain ⟨hx, hb, hr, hml, hown, hts, hlocks, hRf, hRl⟩ := id X
  unfold g_D_hasShape_27 at hG
  refine lv_iload_n hx hb d_D_hasShape_27 rfl (lv_at hl 2 rfl) ?_
  refine lv_iconst (v := (2 : Int32)) hx hb d_D_hasShape_28 (by decide) ?_
  refine lv_iand hx hb d_D_hasShape_29 ?_
  refine lv_if_eq (tgt := 45) hx hb d_D_hasShape_30 (by decide) (fun hc => ?_) (fun hc => ?_)
  · have hG := zt hG hc
    exact k_D_hasShape_45 X hA zz sD v1 v2 _ hG adD adD_parts adD_bytes adD_lows adD_highs _ _ hP hD hS _ (lv_sub hl [0, 1, 2] rfl)
  · have hG := zf hG hc
    refine lv_aload_n hx hb d_D_hasShape_33 rfl (lv_at hl 0 rfl) ?_
    refine va_get (D := (dC, dI)) (ci := 6) (v := .ref adD_parts) (C := R_D) (T := F_D) (N := 6) hx hb hts zi_D hown zz.1 hP 0 rfl rfl 0 (by decide) (hts (.fieldLink R_D 9 "WireCodec$Draft" "parts" "[J") zin_D_9) (fun _ h9 => h9) rfl d_D_hasShape_34 ?_
    refine lv_iconst (v := (1 : Int32)) hx hb d_D_hasShape_37 (by decide) ?_
    obtain ⟨hin, hG⟩ := zgd hG
    refine va_lald hx hb zz.1 hP 1 2 rfl rfl hin d_D_hasShape_38 ?_
    obtain ⟨a_39, hx_39, hG⟩ := zb hG
    have hr_39 := zrunSN (p := p) (e := e) (below := below) (meth := meth) (As := [.long ((zD_parts sD) (1 : Int32).toNatClampNeg)]) (rest := []) (st0 := [.long ((zD_parts sD) (1 : Int32).toNatClampNeg)]) (cells := 0) (slots := 0) X zz hP hD hS hA [] (by decide) rfl (c_W_isNumber l dC dI cB cI cL H.size ((zD_parts sD) (1 : Int32).toNatClampNeg) _ hx_39) zy_W_isNumber zv_W_isNumber (zz.2.1 _ znest_D_92) hl rfl rfl d_D_hasShape_39 (lv_room (Nat.le_of_ble_eq_true rfl)) rfl rfl ⟨Nat.le_trans (Nat.le_of_ble_eq_true rfl) hRf, Nat.le_trans (Nat.le_of_ble_eq_true rfl) hRl⟩ ⟨Nat.zero_le _, Nat.zero_le _⟩
    refine zcalli (wr := (zwD adD adD_parts adD_bytes adD_lows adD_highs cB cI cL sD)) hr_39 hP hD hS hA [] [0, 1, 2, 3, 4] rfl rfl (by decide) (by decide) (fun r_39 u_39 H locs hw_39 hP hD hS => ?_)
    subst hw_39
    have hP : va_P (dC, dI) zcl (zwD adD adD_parts adD_bytes adD_lows adD_highs cB cI cL sD) H := hP
    have hD : va_D A (zwD adD adD_parts adD_bytes adD_lows adD_highs cB cI cL sD) := hD
    have hG : g_D_hasShape_c39 sD v1 v2 r_39 = some a := hG
    unfold g_D_hasShape_c39 at hG
    refine lv_if_eq (tgt := 67) hx hb d_D_hasShape_42 (by decide) (fun hc => ?_) (fun hc => ?_)
    · have hG := zt hG hc
      exact k_D_hasShape_67 X hA zz sD v1 _ hG adD adD_parts adD_bytes adD_lows adD_highs _ _ hP hD hS _ (lv_sub hl [0, 1] rfl)
    · have hG := zf hG hc
      exact k_D_hasShape_45 X hA zz sD v1 v2 _ hG adD adD_parts adD_bytes adD_lows adD_highs _ _ hP hD hS _ (lv_sub hl [0, 1, 2] rfl)
set_option maxRecDepth 100000 in
set_option maxHeartbeats 4000000 in
theorem k_D_hasShape_0 {p : Program} {l : Launch} {e : Env} {R : Room} {s : State} {m : MethodId} {args : Array Value} {below : List Frame} {meth : Method} {c : Code} {dC : Nat → ClassId} {dI : Nat → Nat → Nat} {cB cI cL : ClassId} {A : Nat → Prop} (X : zx p s m args meth c R R_D b_D_hasShape (some .boolean) 5 1 26) (hA : ∀ q, s.heap.size ≤ q → A q) (zz : zk dC dI cB cI cL A s)  (sD : zD) (v1 : Int32) (a : Int32) (hG : g_D_hasShape sD v1 = some a) (adD adD_parts adD_bytes adD_lows adD_highs : Nat) (H : Heap) (locs : List Loc) (hP : va_P (dC, dI) zcl (zwD adD adD_parts adD_bytes adD_lows adD_highs cB cI cL sD) H) (hD : va_D A (zwD adD adD_parts adD_bytes adD_lows adD_highs cB cI cL sD)) (hS : va_S A s.heap H locs) (ls : Array Slot) (hl : lv_has ls 5 [(0, .ref adD), (1, .int v1)]) : W p l e R s m args below meth c H locs 0 0 (MQ below (q_D_hasShape dC dI cB cI cL A adD adD_parts adD_bytes adD_lows adD_highs sD a) args s 0 0 A) (F0 m 0 ls []) := by
  obtain ⟨hx, hb, hr, hml, hown, hts, hlocks, hRf, hRl⟩ := id X
  unfold g_D_hasShape at hG
  refine lv_aload_n hx hb d_D_hasShape_0 rfl (lv_at hl 0 rfl) ?_
  refine lv_iload_n hx hb d_D_hasShape_1 rfl (lv_at hl 1 rfl) ?_
  obtain ⟨a_2, hx_2, hG⟩ := zb hG
  have hr_2 := zrunV (p := p) (e := e) (below := below) (meth := meth) (As := [.int v1]) (rest := []) (st0 := [.int v1, .ref adD]) (cells := 0) (slots := 0) X zz hP hD hS hA [0, 1, 2, 3, 4] (by decide) rfl (c_D_firstByte l dC dI cB cI cL H.size adD adD_parts adD_bytes adD_lows adD_highs sD v1 _ hx_2) zy_D_firstByte zv_D_firstByte (hts (.methodLink R_D 63 y_D_firstByte) zin_D_63) hl rfl rfl d_D_hasShape_2 (lv_room (Nat.le_of_ble_eq_true rfl)) rfl rfl ⟨Nat.le_trans (Nat.le_of_ble_eq_true rfl) hRf, Nat.le_trans (Nat.le_of_ble_eq_true rfl) hRl⟩ ⟨Nat.zero_le _, Nat.zero_le _⟩ 0 6 rfl rfl
  refine zcalli (wr := ([] : va_W)) hr_2 hP hD hS hA [0, 1, 2, 3, 4] [] rfl rfl (by decide) (by decide) (fun r_2 u_2 H locs hw_2 hP hD hS => ?_)
  subst hw_2
  have hP : va_P (dC, dI) zcl (zwD adD adD_parts adD_bytes adD_lows adD_highs cB cI cL sD) H := hP
  have hD : va_D A (zwD adD adD_parts adD_bytes adD_lows adD_highs cB cI cL sD) := hD
  have hG : g_D_hasShape_c2 sD v1 r_2 = some a := hG
  unfold g_D_hasShape_c2 at hG
  obtain ⟨a_5, hx_5, hG⟩ := zb hG
  have hr_5 := zrunS (p := p) (e := e) (below := below) (meth := meth) (As := [.int r_2]) (rest := []) (st0 := [.int r_2]) (cells := 0) (slots := 0) X zz hP hD hS hA [] (by decide) rfl (c_D_shapeOf l dC dI cB cI cL H.size r_2 _ hx_5) zy_D_shapeOf zv_D_shapeOf (hts (.methodLink R_D 71 y_D_shapeOf) zin_D_71) hl rfl rfl d_D_hasShape_5 (lv_room (Nat.le_of_ble_eq_true rfl)) rfl rfl ⟨Nat.le_trans (Nat.le_of_ble_eq_true rfl) hRf, Nat.le_trans (Nat.le_of_ble_eq_true rfl) hRl⟩ ⟨Nat.zero_le _, Nat.zero_le _⟩
  refine zcalli (wr := (zwD adD adD_parts adD_bytes adD_lows adD_highs cB cI cL sD)) hr_5 hP hD hS hA [] [0, 1, 2, 3, 4] rfl rfl (by decide) (by decide) (fun r_5 u_5 H locs hw_5 hP hD hS => ?_)
  subst hw_5
  have hP : va_P (dC, dI) zcl (zwD adD adD_parts adD_bytes adD_lows adD_highs cB cI cL sD) H := hP
  have hD : va_D A (zwD adD adD_parts adD_bytes adD_lows adD_highs cB cI cL sD) := hD
  have hG : g_D_hasShape_c5 sD v1 r_5 = some a := hG
  unfold g_D_hasShape_c5 at hG
  refine lv_istore_n (lv' := [(2, .int r_5), (0, .ref adD), (1, .int v1)]) hx hb d_D_hasShape_8 rfl hl (by decide) rfl (fun ls hl => ?_)
  refine lv_iload_n hx hb d_D_hasShape_9 rfl (lv_at hl 0 rfl) ?_
  refine lv_iconst (v := (1 : Int32)) hx hb d_D_hasShape_10 (by decide) ?_
  refine lv_iand hx hb d_D_hasShape_11 ?_
  refine lv_if_eq (tgt := 27) hx hb d_D_hasShape_12 (by decide) (fun hc => ?_) (fun hc => ?_)
  · have hG := zt hG hc
    exact k_D_hasShape_27 X hA zz sD v1 r_5 _ hG adD adD_parts adD_bytes adD_lows adD_highs _ _ hP hD hS _ (lv_sub hl [1, 2, 0] rfl)
  · have hG := zf hG hc
    refine lv_aload_n hx hb d_D_hasShape_15 rfl (lv_at hl 1 rfl) ?_
    refine va_get (D := (dC, dI)) (ci := 6) (v := .ref adD_parts) (C := R_D) (T := F_D) (N := 6) hx hb hts zi_D hown zz.1 hP 0 rfl rfl 0 (by decide) (hts (.fieldLink R_D 9 "WireCodec$Draft" "parts" "[J") zin_D_9) (fun _ h9 => h9) rfl d_D_hasShape_16 ?_
    refine lv_iconst (v := (0 : Int32)) hx hb d_D_hasShape_19 (by decide) ?_
    obtain ⟨hin, hG⟩ := zgd hG
    refine va_lald hx hb zz.1 hP 1 2 rfl rfl hin d_D_hasShape_20 ?_
    obtain ⟨a_21, hx_21, hG⟩ := zb hG
    have hr_21 := zrunSN (p := p) (e := e) (below := below) (meth := meth) (As := [.long ((zD_parts sD) (0 : Int32).toNatClampNeg)]) (rest := []) (st0 := [.long ((zD_parts sD) (0 : Int32).toNatClampNeg)]) (cells := 0) (slots := 0) X zz hP hD hS hA [] (by decide) rfl (c_W_isNumber l dC dI cB cI cL H.size ((zD_parts sD) (0 : Int32).toNatClampNeg) _ hx_21) zy_W_isNumber zv_W_isNumber (zz.2.1 _ znest_D_92) hl rfl rfl d_D_hasShape_21 (lv_room (Nat.le_of_ble_eq_true rfl)) rfl rfl ⟨Nat.le_trans (Nat.le_of_ble_eq_true rfl) hRf, Nat.le_trans (Nat.le_of_ble_eq_true rfl) hRl⟩ ⟨Nat.zero_le _, Nat.zero_le _⟩
    refine zcalli (wr := (zwD adD adD_parts adD_bytes adD_lows adD_highs cB cI cL sD)) hr_21 hP hD hS hA [] [0, 1, 2, 3, 4] rfl rfl (by decide) (by decide) (fun r_21 u_21 H locs hw_21 hP hD hS => ?_)
    subst hw_21
    have hP : va_P (dC, dI) zcl (zwD adD adD_parts adD_bytes adD_lows adD_highs cB cI cL sD) H := hP
    have hD : va_D A (zwD adD adD_parts adD_bytes adD_lows adD_highs cB cI cL sD) := hD
    have hG : g_D_hasShape_c21 sD v1 r_5 r_21 = some a := hG
    unfold g_D_hasShape_c21 at hG
    refine lv_if_eq (tgt := 67) hx hb d_D_hasShape_24 (by decide) (fun hc => ?_) (fun hc => ?_)
    · have hG := zt hG hc
      exact k_D_hasShape_67 X hA zz sD v1 _ hG adD adD_parts adD_bytes adD_lows adD_highs _ _ hP hD hS _ (lv_sub hl [1, 2] rfl)
    · have hG := zf hG hc
      exact k_D_hasShape_27 X hA zz sD v1 r_5 _ hG adD adD_parts adD_bytes adD_lows adD_highs _ _ hP hD hS _ (lv_sub hl [1, 2, 0] rfl)
set_option maxRecDepth 100000 in
set_option maxHeartbeats 4000000 in
theorem c_D_hasShape (l : Launch) (dC : Nat → ClassId) (dI : Nat → Nat → Nat) (cB cI cL : ClassId) (sz : Nat) (adD adD_parts adD_bytes adD_lows adD_highs : Nat) (sD : zD) (v1 : Int32) (a : Int32) (hG : g_D_hasShape sD v1 = some a) : Met l y_D_hasShape (zw y_D_hasShape b_D_hasShape 5 (some .boolean)) ({ frames := 1, cells := 0, slots := 0, locals := 26 }) (va_Pc [.ref adD, .int v1] (zpre dC dI cB cI cL sz (zwD adD adD_parts adD_bytes adD_lows adD_highs cB cI cL sD))) (q_D_hasShape dC dI cB cI cL (va_A (zwD adD adD_parts adD_bytes adD_lows adD_highs cB cI cL sD) sz) adD adD_parts adD_bytes adD_lows adD_highs sD a) 0 0 (va_A (zwD adD adD_parts adD_bytes adD_lows adD_highs cB cI cL sD) sz) := by
  refine Met.ofW (cc := b_D_hasShape) (maxL := 5) (ret := (some .boolean)) (by decide) rfl ?_
  intro p e s m args below meth c s₁ B hml hv
  obtain ⟨rfl, hsz, hP, zz, hD0⟩ := hv
  subst hsz
  have X := zx_of (F := 1) (L := 26) B hml (Nat.le_refl _) (Nat.le_refl _)
  have hD := hD0.self (sz := s.heap.size)
  have hA : ∀ q : Nat, s.heap.size ≤ q → va_A (zwD adD adD_parts adD_bytes adD_lows adD_highs cB cI cL sD) s.heap.size q := fun q h => Or.inr h
  have hl := lv_entry ([.ref adD, .int v1]) (n := 5) (Nat.le_of_ble_eq_true rfl)
  rw [lg_entry_eq]
  generalize (lg_sl ([.ref adD, .int v1]) ++ List.replicate (5 - (lg_sl ([.ref adD, .int v1])).length) Slot.unset).toArray = ls at hl ⊢
  exact k_D_hasShape_0 X hA zz sD v1 a hG adD adD_parts adD_bytes adD_lows adD_highs _ _ hP hD va_S.rf ls hl
noncomputable def g_P_forget_w18 (sP_18 : zP) : Option (zP) := some (sP_18)
noncomputable def g_P_forget_w13 (sP_13 : zP) : Option (zP) := g_P_forget_w18 (zP_seen' sP_13 (0 : Int32))
noncomputable def g_P_forget (sP : zP) : Option (zP) := zg ((¬ (0 : Int32) < 0) ∧ (¬ (0 : Int32) < 0) ∧ (¬ (17 : Int32) < 0) ∧ (0 : Int32).toNatClampNeg + (17 : Int32).toNatClampNeg ≤ 17 ∧ (0 : Int32).toNatClampNeg + (17 : Int32).toNatClampNeg ≤ 17) (g_P_forget_w13 (zP_values' sP (va_cpy zsA (zP_values sP) ((0 : Int32).toNatClampNeg) ((0 : Int32).toNatClampNeg) ((17 : Int32).toNatClampNeg))))
def q_P_forget (dC : Nat → ClassId) (dI : Nat → Nat → Nat) (cB cI cL : ClassId) (A : Nat → Prop) (adP : Nat) (adP_values : Nat) (a : zP) : Array Value → State → Outcome → State → Prop := va_Qv (fun (u : zP) => (u) = a) (fun u U => va_P (dC, dI) zcl (zwP adP adP_values cB cI cL u) U.heap ∧ va_D A (zwP adP adP_values cB cI cL u)) A
set_option maxRecDepth 100000 in
set_option maxHeartbeats 4000000 in
theorem k_P_forget_0 {p : Program} {l : Launch} {e : Env} {R : Room} {s : State} {m : MethodId} {args : Array Value} {below : List Frame} {meth : Method} {c : Code} {dC : Nat → ClassId} {dI : Nat → Nat → Nat} {cB cI cL : ClassId} {A : Nat → Prop} (X : zx p s m args meth c R R_P b_P_forget none 1 1 60) (hA : ∀ q, s.heap.size ≤ q → A q) (zz : zk dC dI cB cI cL A s)  (sP : zP) (a : zP) (hG : g_P_forget sP = some a) (adP adP_values : Nat) (H : Heap) (locs : List Loc) (hP : va_P (dC, dI) zcl (zwP adP adP_values cB cI cL sP) H) (hD : va_D A (zwP adP adP_values cB cI cL sP)) (hS : va_S A s.heap H locs) (ls : Array Slot) (hl : lv_has ls 1 [(0, .ref adP)]) : W p l e R s m args below meth c H locs 0 0 (MQ below (q_P_forget dC dI cB cI cL A adP adP_values a) args s 0 0 A) (F0 m 0 ls []) := by
  obtain ⟨hx, hb, hr, hml, hown, hts, hlocks, hRf, hRl⟩ := id X
  unfold g_P_forget at hG
  obtain ⟨adS_ABSENT, hZ_ABSENT, hT_ABSENT, hE_ABSENT⟩ := zz.2.2.1.2.1
  refine va_gets hx hb hZ_ABSENT hS hown (hts (.fieldLink R_P 9 "WireCodec$Parameters" "ABSENT" "[J") zin_P_9) (fun _ h9 => h9) d_P_forget_0 ?_
  refine lv_iconst (v := (0 : Int32)) hx hb d_P_forget_3 (by decide) ?_
  refine lv_aload_n hx hb d_P_forget_4 rfl (lv_at hl 0 rfl) ?_
  refine va_get (D := (dC, dI)) (ci := 7) (v := .ref adP_values) (C := R_P) (T := F_P) (N := 2) hx hb hts zi_P hown zz.1 hP 0 rfl rfl 0 (by decide) (hts (.fieldLink R_P 21 "WireCodec$Parameters" "values" "[J") zin_P_21) (fun _ h9 => h9) rfl d_P_forget_5 ?_
  refine lv_iconst (v := (0 : Int32)) hx hb d_P_forget_8 (by decide) ?_
  refine va_gets hx hb hZ_ABSENT hS hown (hts (.fieldLink R_P 9 "WireCodec$Parameters" "ABSENT" "[J") zin_P_9) (fun _ h9 => h9) d_P_forget_9 ?_
  refine va_tlen (v := (17 : Int32)) hx hb hT_ABSENT hS (by decide) d_P_forget_12 ?_
  obtain ⟨⟨h91, h92, h93, h94, h95⟩, hG⟩ := zgd hG
  refine zcopyT (rest := []) hx hb (hml.trans hl.1.symm) hown (hts (.methodLink R_P 24 arraycopyName) zin_P_24) (hts _ zin_acp1) (hts _ zin_acp2) (hts _ zin_sys) zz.1 hP hD hS hT_ABSENT 1 2 rfl rfl h91 h92 h93 h94 h95 (Nat.le_trans (Nat.le_of_ble_eq_true rfl) hRf) (Nat.le_trans (by decide) hRl) d_P_forget_13 (fun H locs hP hD hS => ?_)
  have hP : va_P (dC, dI) zcl (zwP adP adP_values cB cI cL (zP_values' sP (va_cpy zsA (zP_values sP) ((0 : Int32).toNatClampNeg) ((0 : Int32).toNatClampNeg) ((17 : Int32).toNatClampNeg)))) H := hP
  have hD : va_D A (zwP adP adP_values cB cI cL (zP_values' sP (va_cpy zsA (zP_values sP) ((0 : Int32).toNatClampNeg) ((0 : Int32).toNatClampNeg) ((17 : Int32).toNatClampNeg)))) := hD
  have hG : g_P_forget_w13 (zP_values' sP (va_cpy zsA (zP_values sP) ((0 : Int32).toNatClampNeg) ((0 : Int32).toNatClampNeg) ((17 : Int32).toNatClampNeg))) = some a := hG
  generalize zP_values' sP (va_cpy zsA (zP_values sP) ((0 : Int32).toNatClampNeg) ((0 : Int32).toNatClampNeg) ((17 : Int32).toNatClampNeg)) = sP_13 at hP hD hG
  unfold g_P_forget_w13 at hG
  refine lv_aload_n hx hb d_P_forget_16 rfl (lv_at hl 0 rfl) ?_
  refine lv_iconst (v := (0 : Int32)) hx hb d_P_forget_17 (by decide) ?_
  refine va_put (D := (dC, dI)) (ci := 7) (v := .int (0 : Int32)) (ty := .int) (C := R_P) (T := F_P) (N := 2) hx hb hts zi_P zty_P zty_P_ok znm_P hown zz.1 hP hD hS 0 rfl rfl 1 (by decide) (hts (.fieldLink R_P 30 "WireCodec$Parameters" "seen" "I") zin_P_30) (fun _ h9 => h9) rfl (by decide +kernel) rfl rfl (Nat.le_of_ble_eq_true rfl) d_P_forget_18 (fun H locs hP hD hS => ?_)
  have hP : va_P (dC, dI) zcl (zwP adP adP_values cB cI cL (zP_seen' sP_13 (0 : Int32))) H := hP
  have hD : va_D A (zwP adP adP_values cB cI cL (zP_seen' sP_13 (0 : Int32))) := hD
  have hG : g_P_forget_w18 (zP_seen' sP_13 (0 : Int32)) = some a := hG
  generalize zP_seen' sP_13 (0 : Int32) = sP_18 at hP hD hG
  unfold g_P_forget_w18 at hG
  exact W.vret hx hb hr (fun t9 ht9 hW9 => ⟨⟨(sP_18), rfl, Option.some.inj hG, by rw [ht9]; exact hP, hD⟩, hS.F ht9⟩) hS.2.2 d_P_forget_21
set_option maxRecDepth 100000 in
set_option maxHeartbeats 4000000 in
theorem c_P_forget (l : Launch) (dC : Nat → ClassId) (dI : Nat → Nat → Nat) (cB cI cL : ClassId) (sz : Nat) (adP adP_values : Nat) (sP : zP) (a : zP) (hG : g_P_forget sP = some a) : Met l y_P_forget (zw y_P_forget b_P_forget 1 none) ({ frames := 1, cells := 0, slots := 0, locals := 60 }) (va_Pc [.ref adP] (zpre dC dI cB cI cL sz (zwP adP adP_values cB cI cL sP))) (q_P_forget dC dI cB cI cL (va_A (zwP adP adP_values cB cI cL sP) sz) adP adP_values a) 0 0 (va_A (zwP adP adP_values cB cI cL sP) sz) := by
  refine Met.ofW (cc := b_P_forget) (maxL := 1) (ret := none) (by decide) rfl ?_
  intro p e s m args below meth c s₁ B hml hv
  obtain ⟨rfl, hsz, hP, zz, hD0⟩ := hv
  subst hsz
  have X := zx_of (F := 1) (L := 60) B hml (Nat.le_refl _) (Nat.le_refl _)
  have hD := hD0.self (sz := s.heap.size)
  have hA : ∀ q : Nat, s.heap.size ≤ q → va_A (zwP adP adP_values cB cI cL sP) s.heap.size q := fun q h => Or.inr h
  have hl := lv_entry ([.ref adP]) (n := 1) (Nat.le_of_ble_eq_true rfl)
  rw [lg_entry_eq]
  generalize (lg_sl ([.ref adP]) ++ List.replicate (1 - (lg_sl ([.ref adP])).length) Slot.unset).toArray = ls at hl ⊢
  exact k_P_forget_0 X hA zz sP a hG adP adP_values _ _ hP hD va_S.rf ls hl
noncomputable def g_R_start_w12 (sR_12 : zR) : Option (zR) := some (sR_12)
noncomputable def g_R_start_w7 (sR_7 : zR) : Option (zR) := g_R_start_w12 (zR_over' sR_7 (0 : Int32))
noncomputable def g_R_start_w2 (v2 : Int32) (sR_2 : zR) : Option (zR) := g_R_start_w7 (zR_limit' sR_2 v2)
noncomputable def g_R_start (sR : zR) (v1 : Int32) (v2 : Int32) : Option (zR) := g_R_start_w2 v2 (zR_place' sR v1)
def q_R_start (dC : Nat → ClassId) (dI : Nat → Nat → Nat) (cB cI cL : ClassId) (A : Nat → Prop) (adR : Nat) (adT : Nat) (a : zR) : Array Value → State → Outcome → State → Prop := va_Qv (fun (u : zR) => (u) = a) (fun u U => va_P (dC, dI) zcl (zwR adR adT cB cI cL u) U.heap ∧ va_D A (zwR adR adT cB cI cL u)) A
set_option maxRecDepth 100000 in
set_option maxHeartbeats 4000000 in
theorem k_R_start_0 {p : Program} {l : Launch} {e : Env} {R : Room} {s : State} {m : MethodId} {args : Array Value} {below : List Frame} {meth : Method} {c : Code} {dC : Nat → ClassId} {dI : Nat → Nat → Nat} {cB cI cL : ClassId} {A : Nat → Prop} {adT : Nat} (X : zx p s m args meth c R R_R b_R_start none 3 0 0) (hA : ∀ q, s.heap.size ≤ q → A q) (zz : zk dC dI cB cI cL A s)  (sR : zR) (v1 : Int32) (v2 : Int32) (a : zR) (hG : g_R_start sR v1 v2 = some a) (adR : Nat) (H : Heap) (locs : List Loc) (hP : va_P (dC, dI) zcl (zwR adR adT cB cI cL sR) H) (hD : va_D A (zwR adR adT cB cI cL sR)) (hS : va_S A s.heap H locs) (ls : Array Slot) (hl : lv_has ls 3 [(0, .ref adR), (1, .int v1), (2, .int v2)]) : W p l e R s m args below meth c H locs 0 0 (MQ below (q_R_start dC dI cB cI cL A adR adT a) args s 0 0 A) (F0 m 0 ls []) := by
  obtain ⟨hx, hb, hr, hml, hown, hts, hlocks, hRf, hRl⟩ := id X
  unfold g_R_start at hG
  refine lv_aload_n hx hb d_R_start_0 rfl (lv_at hl 0 rfl) ?_
  refine lv_iload_n hx hb d_R_start_1 rfl (lv_at hl 1 rfl) ?_
  refine va_put (D := (dC, dI)) (ci := 2) (v := .int v1) (ty := .int) (C := R_R) (T := F_R) (N := 4) hx hb hts zi_R zty_R zty_R_ok znm_R hown zz.1 hP hD hS 0 rfl rfl 1 (by decide) (hts (.fieldLink R_R 13 "WireCodec$Reader" "place" "I") zin_R_13) (fun _ h9 => h9) rfl (by decide +kernel) rfl rfl (Nat.le_of_ble_eq_true rfl) d_R_start_2 (fun H locs hP hD hS => ?_)
  have hP : va_P (dC, dI) zcl (zwR adR adT cB cI cL (zR_place' sR v1)) H := hP
  have hD : va_D A (zwR adR adT cB cI cL (zR_place' sR v1)) := hD
  have hG : g_R_start_w2 v2 (zR_place' sR v1) = some a := hG
  generalize zR_place' sR v1 = sR_2 at hP hD hG
  unfold g_R_start_w2 at hG
  refine lv_aload_n hx hb d_R_start_5 rfl (lv_at hl 0 rfl) ?_
  refine lv_iload_n hx hb d_R_start_6 rfl (lv_at hl 2 rfl) ?_
  refine va_put (D := (dC, dI)) (ci := 2) (v := .int v2) (ty := .int) (C := R_R) (T := F_R) (N := 4) hx hb hts zi_R zty_R zty_R_ok znm_R hown zz.1 hP hD hS 0 rfl rfl 2 (by decide) (hts (.fieldLink R_R 17 "WireCodec$Reader" "limit" "I") zin_R_17) (fun _ h9 => h9) rfl (by decide +kernel) rfl rfl (Nat.le_of_ble_eq_true rfl) d_R_start_7 (fun H locs hP hD hS => ?_)
  have hP : va_P (dC, dI) zcl (zwR adR adT cB cI cL (zR_limit' sR_2 v2)) H := hP
  have hD : va_D A (zwR adR adT cB cI cL (zR_limit' sR_2 v2)) := hD
  have hG : g_R_start_w7 (zR_limit' sR_2 v2) = some a := hG
  generalize zR_limit' sR_2 v2 = sR_7 at hP hD hG
  unfold g_R_start_w7 at hG
  refine lv_aload_n hx hb d_R_start_10 rfl (lv_at hl 0 rfl) ?_
  refine lv_iconst (v := (0 : Int32)) hx hb d_R_start_11 (by decide) ?_
  refine va_put (D := (dC, dI)) (ci := 2) (v := .int (0 : Int32)) (ty := .boolean) (C := R_R) (T := F_R) (N := 4) hx hb hts zi_R zty_R zty_R_ok znm_R hown zz.1 hP hD hS 0 rfl rfl 3 (by decide) (hts (.fieldLink R_R 20 "WireCodec$Reader" "over" "Z") zin_R_20) (fun _ h9 => h9) rfl (by decide +kernel) rfl rfl (Nat.le_of_ble_eq_true rfl) d_R_start_12 (fun H locs hP hD hS => ?_)
  have hP : va_P (dC, dI) zcl (zwR adR adT cB cI cL (zR_over' sR_7 (0 : Int32))) H := hP
  have hD : va_D A (zwR adR adT cB cI cL (zR_over' sR_7 (0 : Int32))) := hD
  have hG : g_R_start_w12 (zR_over' sR_7 (0 : Int32)) = some a := hG
  generalize zR_over' sR_7 (0 : Int32) = sR_12 at hP hD hG
  unfold g_R_start_w12 at hG
  exact W.vret hx hb hr (fun t9 ht9 hW9 => ⟨⟨(sR_12), rfl, Option.some.inj hG, by rw [ht9]; exact hP, hD⟩, hS.F ht9⟩) hS.2.2 d_R_start_15
set_option maxRecDepth 100000 in
set_option maxHeartbeats 4000000 in
theorem c_R_start (l : Launch) (dC : Nat → ClassId) (dI : Nat → Nat → Nat) (cB cI cL : ClassId) (sz : Nat) (adR adT : Nat) (sR : zR) (v1 : Int32) (v2 : Int32) (a : zR) (hG : g_R_start sR v1 v2 = some a) : Met l y_R_start (zw y_R_start b_R_start 3 none) ({ frames := 0, cells := 0, slots := 0, locals := 0 }) (va_Pc [.ref adR, .int v1, .int v2] (zpre dC dI cB cI cL sz (zwR adR adT cB cI cL sR))) (q_R_start dC dI cB cI cL (va_A (zwR adR adT cB cI cL sR) sz) adR adT a) 0 0 (va_A (zwR adR adT cB cI cL sR) sz) := by
  refine Met.ofW (cc := b_R_start) (maxL := 3) (ret := none) (by decide) rfl ?_
  intro p e s m args below meth c s₁ B hml hv
  obtain ⟨rfl, hsz, hP, zz, hD0⟩ := hv
  subst hsz
  have X := zx_of (F := 0) (L := 0) B hml (Nat.le_refl _) (Nat.le_refl _)
  have hD := hD0.self (sz := s.heap.size)
  have hA : ∀ q : Nat, s.heap.size ≤ q → va_A (zwR adR adT cB cI cL sR) s.heap.size q := fun q h => Or.inr h
  have hl := lv_entry ([.ref adR, .int v1, .int v2]) (n := 3) (Nat.le_of_ble_eq_true rfl)
  rw [lg_entry_eq]
  generalize (lg_sl ([.ref adR, .int v1, .int v2]) ++ List.replicate (3 - (lg_sl ([.ref adR, .int v1, .int v2])).length) Slot.unset).toArray = ls at hl ⊢
  exact k_R_start_0 X hA zz sR v1 v2 a hG adR _ _ hP hD va_S.rf ls hl
noncomputable def g_R_left (sR : zR) : Option (Int32) := some ((zR_limit sR) - (zR_place sR))
def q_R_left (dC : Nat → ClassId) (dI : Nat → Nat → Nat) (cB cI cL : ClassId) (A : Nat → Prop) (adR : Nat) (adT : Nat) (sR : zR) (a : Int32) : Array Value → State → Outcome → State → Prop := va_Qi (fun (r : Int32) (u : Unit) => (r) = a) (fun u U => va_P (dC, dI) zcl (zwR adR adT cB cI cL sR) U.heap ∧ va_D A (zwR adR adT cB cI cL sR)) A
set_option maxRecDepth 100000 in
set_option maxHeartbeats 4000000 in
theorem k_R_left_0 {p : Program} {l : Launch} {e : Env} {R : Room} {s : State} {m : MethodId} {args : Array Value} {below : List Frame} {meth : Method} {c : Code} {dC : Nat → ClassId} {dI : Nat → Nat → Nat} {cB cI cL : ClassId} {A : Nat → Prop} {adT : Nat} (X : zx p s m args meth c R R_R b_R_left (some .int) 1 0 0) (hA : ∀ q, s.heap.size ≤ q → A q) (zz : zk dC dI cB cI cL A s)  (sR : zR) (a : Int32) (hG : g_R_left sR = some a) (adR : Nat) (H : Heap) (locs : List Loc) (hP : va_P (dC, dI) zcl (zwR adR adT cB cI cL sR) H) (hD : va_D A (zwR adR adT cB cI cL sR)) (hS : va_S A s.heap H locs) (ls : Array Slot) (hl : lv_has ls 1 [(0, .ref adR)]) : W p l e R s m args below meth c H locs 0 0 (MQ below (q_R_left dC dI cB cI cL A adR adT sR a) args s 0 0 A) (F0 m 0 ls []) := by
  obtain ⟨hx, hb, hr, hml, hown, hts, hlocks, hRf, hRl⟩ := id X
  unfold g_R_left at hG
  refine lv_aload_n hx hb d_R_left_0 rfl (lv_at hl 0 rfl) ?_
  refine va_get (D := (dC, dI)) (ci := 2) (v := .int (zR_limit sR)) (C := R_R) (T := F_R) (N := 4) hx hb hts zi_R hown zz.1 hP 0 rfl rfl 2 (by decide) (hts (.fieldLink R_R 17 "WireCodec$Reader" "limit" "I") zin_R_17) (fun _ h9 => h9) rfl d_R_left_1 ?_
  refine lv_aload_n hx hb d_R_left_4 rfl (lv_at hl 0 rfl) ?_
  refine va_get (D := (dC, dI)) (ci := 2) (v := .int (zR_place sR)) (C := R_R) (T := F_R) (N := 4) hx hb hts zi_R hown zz.1 hP 0 rfl rfl 1 (by decide) (hts (.fieldLink R_R 13 "WireCodec$Reader" "place" "I") zin_R_13) (fun _ h9 => h9) rfl d_R_left_5 ?_
  refine lv_isub hx hb d_R_left_8 ?_
  exact W.iret (v := (zR_limit sR) - (zR_place sR)) hx hb hr (fun t9 ht9 hW9 => ⟨⟨(zR_limit sR) - (zR_place sR), (), rfl, Option.some.inj hG, by rw [ht9]; exact hP, hD⟩, hS.F ht9⟩) hS.2.2 d_R_left_9
set_option maxRecDepth 100000 in
set_option maxHeartbeats 4000000 in
theorem c_R_left (l : Launch) (dC : Nat → ClassId) (dI : Nat → Nat → Nat) (cB cI cL : ClassId) (sz : Nat) (adR adT : Nat) (sR : zR) (a : Int32) (hG : g_R_left sR = some a) : Met l y_R_left (zw y_R_left b_R_left 1 (some .int)) ({ frames := 0, cells := 0, slots := 0, locals := 0 }) (va_Pc [.ref adR] (zpre dC dI cB cI cL sz (zwR adR adT cB cI cL sR))) (q_R_left dC dI cB cI cL (va_A (zwR adR adT cB cI cL sR) sz) adR adT sR a) 0 0 (va_A (zwR adR adT cB cI cL sR) sz) := by
  refine Met.ofW (cc := b_R_left) (maxL := 1) (ret := (some .int)) (by decide) rfl ?_
  intro p e s m args below meth c s₁ B hml hv
  obtain ⟨rfl, hsz, hP, zz, hD0⟩ := hv
  subst hsz
  have X := zx_of (F := 0) (L := 0) B hml (Nat.le_refl _) (Nat.le_refl _)
  have hD := hD0.self (sz := s.heap.size)
  have hA : ∀ q : Nat, s.heap.size ≤ q → va_A (zwR adR adT cB cI cL sR) s.heap.size q := fun q h => Or.inr h
  have hl := lv_entry ([.ref adR]) (n := 1) (Nat.le_of_ble_eq_true rfl)
  rw [lg_entry_eq]
  generalize (lg_sl ([.ref adR]) ++ List.replicate (1 - (lg_sl ([.ref adR])).length) Slot.unset).toArray = ls at hl ⊢
  exact k_R_left_0 X hA zz sR a hG adR _ _ hP hD va_S.rf ls hl
noncomputable def g_R_takeBytes_41 (sR : zR) (v3 : Int32) : Option (Int32 × zR) := some (v3, sR)
noncomputable def g_R_takeBytes_w24 (v3 : Int32) (sR_24 : zR) : Option (Int32 × zR) := g_R_takeBytes_41 sR_24 v3
noncomputable def g_R_takeBytes_22 (sR : zR) (v3 : Int32) : Option (Int32 × zR) := g_R_takeBytes_w24 v3 (zR_over' sR (1 : Int32))
noncomputable def g_R_takeBytes_w38 (sR : zR) (sR_38 : zR) : Option (Int32 × zR) := g_R_takeBytes_41 sR_38 (zR_place sR)
noncomputable def g_R_takeBytes_c14 (sR : zR) (v1 : Int64) (r_14 : Int32) : Option (Int32 × zR) := if (lg_cmp v1 r_14.toInt64) ≤ (0 : Int32) then (g_R_takeBytes_w38 sR (zR_place' sR ((zR_place sR) + v1.toInt32))) else (g_R_takeBytes_22 sR (zR_place sR))
noncomputable def g_R_takeBytes (sR : zR) (v1 : Int64) : Option (Int32 × zR) := if (zR_over sR) = (0 : Int32) then ((g_R_left sR).bind (fun a => g_R_takeBytes_c14 sR v1 a)) else (g_R_takeBytes_22 sR (zR_place sR))
def q_R_takeBytes (dC : Nat → ClassId) (dI : Nat → Nat → Nat) (cB cI cL : ClassId) (A : Nat → Prop) (adR : Nat) (adT : Nat) (a : Int32 × zR) : Array Value → State → Outcome → State → Prop := va_Qi (fun (r : Int32) (u : zR) => (r, u) = a) (fun u U => va_P (dC, dI) zcl (zwR adR adT cB cI cL u) U.heap ∧ va_D A (zwR adR adT cB cI cL u)) A
set_option maxRecDepth 100000 in
set_option maxHeartbeats 4000000 in
theorem k_R_takeBytes_41 {p : Program} {l : Launch} {e : Env} {R : Room} {s : State} {m : MethodId} {args : Array Value} {below : List Frame} {meth : Method} {c : Code} {dC : Nat → ClassId} {dI : Nat → Nat → Nat} {cB cI cL : ClassId} {A : Nat → Prop} {adT : Nat} (X : zx p s m args meth c R R_R b_R_takeBytes (some .int) 4 1 20) (hA : ∀ q, s.heap.size ≤ q → A q) (zz : zk dC dI cB cI cL A s)  (sR : zR) (v3 : Int32) (a : Int32 × zR) (hG : g_R_takeBytes_41 sR v3 = some a) (adR : Nat) (H : Heap) (locs : List Loc) (hP : va_P (dC, dI) zcl (zwR adR adT cB cI cL sR) H) (hD : va_D A (zwR adR adT cB cI cL sR)) (hS : va_S A s.heap H locs) (ls : Array Slot) (hl : lv_has ls 4 [(3, .int v3)]) : W p l e R s m args below meth c H locs 0 0 (MQ below (q_R_takeBytes dC dI cB cI cL A adR adT a) args s 0 0 A) (F0 m 41 ls []) := by
  obtain ⟨hx, hb, hr, hml, hown, hts, hlocks, hRf, hRl⟩ := id X
  unfold g_R_takeBytes_41 at hG
  refine lv_iload_n hx hb d_R_takeBytes_41 rfl (lv_at hl 0 rfl) ?_
  exact W.iret (v := v3) hx hb hr (fun t9 ht9 hW9 => ⟨⟨v3, (sR), rfl, Option.some.inj hG, by rw [ht9]; exact hP, hD⟩, hS.F ht9⟩) hS.2.2 d_R_takeBytes_42
set_option maxRecDepth 100000 in
set_option maxHeartbeats 4000000 in
theorem k_R_takeBytes_22 {p : Program} {l : Launch} {e : Env} {R : Room} {s : State} {m : MethodId} {args : Array Value} {below : List Frame} {meth : Method} {c : Code} {dC : Nat → ClassId} {dI : Nat → Nat → Nat} {cB cI cL : ClassId} {A : Nat → Prop} {adT : Nat} (X : zx p s m args meth c R R_R b_R_takeBytes (some .int) 4 1 20) (hA : ∀ q, s.heap.size ≤ q → A q) (zz : zk dC dI cB cI cL A s)  (sR : zR) (v3 : Int32) (a : Int32 × zR) (hG : g_R_takeBytes_22 sR v3 = some a) (adR : Nat) (H : Heap) (locs : List Loc) (hP : va_P (dC, dI) zcl (zwR adR adT cB cI cL sR) H) (hD : va_D A (zwR adR adT cB cI cL sR)) (hS : va_S A s.heap H locs) (ls : Array Slot) (hl : lv_has ls 4 [(0, .ref adR), (3, .int v3)]) : W p l e R s m args below meth c H locs 0 0 (MQ below (q_R_takeBytes dC dI cB cI cL A adR adT a) args s 0 0 A) (F0 m 22 ls []) := by
  obtain ⟨hx, hb, hr, hml, hown, hts, hlocks, hRf, hRl⟩ := id X
  unfold g_R_takeBytes_22 at hG
  refine lv_aload_n hx hb d_R_takeBytes_22 rfl (lv_at hl 0 rfl) ?_
  refine lv_iconst (v := (1 : Int32)) hx hb d_R_takeBytes_23 (by decide) ?_
  refine va_put (D := (dC, dI)) (ci := 2) (v := .int (1 : Int32)) (ty := .boolean) (C := R_R) (T := F_R) (N := 4) hx hb hts zi_R zty_R zty_R_ok znm_R hown zz.1 hP hD hS 0 rfl rfl 3 (by decide) (hts (.fieldLink R_R 20 "WireCodec$Reader" "over" "Z") zin_R_20) (fun _ h9 => h9) rfl (by decide +kernel) rfl rfl (Nat.le_of_ble_eq_true rfl) d_R_takeBytes_24 (fun H locs hP hD hS => ?_)
  have hP : va_P (dC, dI) zcl (zwR adR adT cB cI cL (zR_over' sR (1 : Int32))) H := hP
  have hD : va_D A (zwR adR adT cB cI cL (zR_over' sR (1 : Int32))) := hD
  have hG : g_R_takeBytes_w24 v3 (zR_over' sR (1 : Int32)) = some a := hG
  generalize zR_over' sR (1 : Int32) = sR_24 at hP hD hG
  unfold g_R_takeBytes_w24 at hG
  refine lv_goto (tgt := 41) hx hb d_R_takeBytes_27 (by decide) ?_
  exact k_R_takeBytes_41 X hA zz sR_24 v3 _ hG adR _ _ hP hD hS _ (lv_sub hl [1] rfl)
set_option maxRecDepth 100000 in
set_option maxHeartbeats 4000000 in
theorem k_R_takeBytes_0 {p : Program} {l : Launch} {e : Env} {R : Room} {s : State} {m : MethodId} {args : Array Value} {below : List Frame} {meth : Method} {c : Code} {dC : Nat → ClassId} {dI : Nat → Nat → Nat} {cB cI cL : ClassId} {A : Nat → Prop} {adT : Nat} (X : zx p s m args meth c R R_R b_R_takeBytes (some .int) 4 1 20) (hA : ∀ q, s.heap.size ≤ q → A q) (zz : zk dC dI cB cI cL A s)  (sR : zR) (v1 : Int64) (a : Int32 × zR) (hG : g_R_takeBytes sR v1 = some a) (adR : Nat) (H : Heap) (locs : List Loc) (hP : va_P (dC, dI) zcl (zwR adR adT cB cI cL sR) H) (hD : va_D A (zwR adR adT cB cI cL sR)) (hS : va_S A s.heap H locs) (ls : Array Slot) (hl : lv_has ls 4 [(0, .ref adR), (1, .long v1)]) : W p l e R s m args below meth c H locs 0 0 (MQ below (q_R_takeBytes dC dI cB cI cL A adR adT a) args s 0 0 A) (F0 m 0 ls []) := by
  obtain ⟨hx, hb, hr, hml, hown, hts, hlocks, hRf, hRl⟩ := id X
  unfold g_R_takeBytes at hG
  refine lv_aload_n hx hb d_R_takeBytes_0 rfl (lv_at hl 0 rfl) ?_
  refine va_get (D := (dC, dI)) (ci := 2) (v := .int (zR_place sR)) (C := R_R) (T := F_R) (N := 4) hx hb hts zi_R hown zz.1 hP 0 rfl rfl 1 (by decide) (hts (.fieldLink R_R 13 "WireCodec$Reader" "place" "I") zin_R_13) (fun _ h9 => h9) rfl d_R_takeBytes_1 ?_
  refine lv_istore_n (lv' := [(3, .int (zR_place sR)), (0, .ref adR), (1, .long v1)]) hx hb d_R_takeBytes_4 rfl hl (by decide) rfl (fun ls hl => ?_)
  refine lv_aload_n hx hb d_R_takeBytes_5 rfl (lv_at hl 1 rfl) ?_
  refine va_get (D := (dC, dI)) (ci := 2) (v := .int (zR_over sR)) (C := R_R) (T := F_R) (N := 4) hx hb hts zi_R hown zz.1 hP 0 rfl rfl 3 (by decide) (hts (.fieldLink R_R 20 "WireCodec$Reader" "over" "Z") zin_R_20) (fun _ h9 => h9) rfl d_R_takeBytes_6 ?_
  refine lv_if_ne (tgt := 22) hx hb d_R_takeBytes_9 (by decide) (fun hc => ?_) (fun hc => ?_)
  · have hG := zf hG hc
    exact k_R_takeBytes_22 X hA zz sR (zR_place sR) _ hG adR _ _ hP hD hS _ (lv_sub hl [1, 0] rfl)
  · have hG := zt hG hc
    refine lv_lload_n hx hb d_R_takeBytes_12 rfl (lv_at hl 2 rfl) ?_
    refine lv_aload_n hx hb d_R_takeBytes_13 rfl (lv_at hl 1 rfl) ?_
    obtain ⟨a_14, hx_14, hG⟩ := zb hG
    have hr_14 := zrunV (p := p) (e := e) (below := below) (meth := meth) (As := []) (rest := [.long v1]) (st0 := [.ref adR, .long v1]) (cells := 0) (slots := 0) X zz hP hD hS hA [0] (by decide) rfl (c_R_left l dC dI cB cI cL H.size adR adT sR _ hx_14) zy_R_left zv_R_left (hts (.methodLink R_R 24 y_R_left) zin_R_24) hl rfl rfl d_R_takeBytes_14 (lv_room (Nat.le_of_ble_eq_true rfl)) rfl rfl ⟨Nat.le_trans (Nat.le_of_ble_eq_true rfl) hRf, Nat.le_trans (Nat.le_of_ble_eq_true rfl) hRl⟩ ⟨Nat.zero_le _, Nat.zero_le _⟩ 0 2 rfl rfl
    refine zcalli (wr := ([] : va_W)) hr_14 hP hD hS hA [0] [] rfl rfl (by decide) (by decide) (fun r_14 u_14 H locs hw_14 hP hD hS => ?_)
    subst hw_14
    have hP : va_P (dC, dI) zcl (zwR adR adT cB cI cL sR) H := hP
    have hD : va_D A (zwR adR adT cB cI cL sR) := hD
    have hG : g_R_takeBytes_c14 sR v1 r_14 = some a := hG
    unfold g_R_takeBytes_c14 at hG
    refine lv_i2l hx hb d_R_takeBytes_17 rfl ?_
    refine W.lcmp hx hb d_R_takeBytes_18 ?_
    refine lv_if_le (tgt := 30) hx hb d_R_takeBytes_19 (by decide) (fun hc => ?_) (fun hc => ?_)
    · have hG := zt hG hc
      refine lv_aload_n hx hb d_R_takeBytes_30 rfl (lv_at hl 1 rfl) ?_
      refine lv_dup hx hb d_R_takeBytes_31 rfl ?_
      refine va_get (D := (dC, dI)) (ci := 2) (v := .int (zR_place sR)) (C := R_R) (T := F_R) (N := 4) hx hb hts zi_R hown zz.1 hP 0 rfl rfl 1 (by decide) (hts (.fieldLink R_R 13 "WireCodec$Reader" "place" "I") zin_R_13) (fun _ h9 => h9) rfl d_R_takeBytes_32 ?_
      refine lv_lload_n hx hb d_R_takeBytes_35 rfl (lv_at hl 2 rfl) ?_
      refine lv_l2i hx hb d_R_takeBytes_36 rfl ?_
      refine lv_iadd hx hb d_R_takeBytes_37 ?_
      refine va_put (D := (dC, dI)) (ci := 2) (v := .int ((zR_place sR) + v1.toInt32)) (ty := .int) (C := R_R) (T := F_R) (N := 4) hx hb hts zi_R zty_R zty_R_ok znm_R hown zz.1 hP hD hS 0 rfl rfl 1 (by decide) (hts (.fieldLink R_R 13 "WireCodec$Reader" "place" "I") zin_R_13) (fun _ h9 => h9) rfl (by decide +kernel) rfl rfl (Nat.le_of_ble_eq_true rfl) d_R_takeBytes_38 (fun H locs hP hD hS => ?_)
      have hP : va_P (dC, dI) zcl (zwR adR adT cB cI cL (zR_place' sR ((zR_place sR) + v1.toInt32))) H := hP
      have hD : va_D A (zwR adR adT cB cI cL (zR_place' sR ((zR_place sR) + v1.toInt32))) := hD
      have hG : g_R_takeBytes_w38 sR (zR_place' sR ((zR_place sR) + v1.toInt32)) = some a := hG
      generalize zR_place' sR ((zR_place sR) + v1.toInt32) = sR_38 at hP hD hG
      unfold g_R_takeBytes_w38 at hG
      exact k_R_takeBytes_41 X hA zz sR_38 (zR_place sR) _ hG adR _ _ hP hD hS _ (lv_sub hl [0] rfl)
    · have hG := zf hG hc
      exact k_R_takeBytes_22 X hA zz sR (zR_place sR) _ hG adR _ _ hP hD hS _ (lv_sub hl [1, 0] rfl)
set_option maxRecDepth 100000 in
set_option maxHeartbeats 4000000 in
theorem c_R_takeBytes (l : Launch) (dC : Nat → ClassId) (dI : Nat → Nat → Nat) (cB cI cL : ClassId) (sz : Nat) (adR adT : Nat) (sR : zR) (v1 : Int64) (a : Int32 × zR) (hG : g_R_takeBytes sR v1 = some a) : Met l y_R_takeBytes (zw y_R_takeBytes b_R_takeBytes 4 (some .int)) ({ frames := 1, cells := 0, slots := 0, locals := 20 }) (va_Pc [.ref adR, .long v1] (zpre dC dI cB cI cL sz (zwR adR adT cB cI cL sR))) (q_R_takeBytes dC dI cB cI cL (va_A (zwR adR adT cB cI cL sR) sz) adR adT a) 0 0 (va_A (zwR adR adT cB cI cL sR) sz) := by
  refine Met.ofW (cc := b_R_takeBytes) (maxL := 4) (ret := (some .int)) (by decide) rfl ?_
  intro p e s m args below meth c s₁ B hml hv
  obtain ⟨rfl, hsz, hP, zz, hD0⟩ := hv
  subst hsz
  have X := zx_of (F := 1) (L := 20) B hml (Nat.le_refl _) (Nat.le_refl _)
  have hD := hD0.self (sz := s.heap.size)
  have hA : ∀ q : Nat, s.heap.size ≤ q → va_A (zwR adR adT cB cI cL sR) s.heap.size q := fun q h => Or.inr h
  have hl := lv_entry ([.ref adR, .long v1]) (n := 4) (Nat.le_of_ble_eq_true rfl)
  rw [lg_entry_eq]
  generalize (lg_sl ([.ref adR, .long v1]) ++ List.replicate (4 - (lg_sl ([.ref adR, .long v1])).length) Slot.unset).toArray = ls at hl ⊢
  exact k_R_takeBytes_0 X hA zz sR v1 a hG adR _ _ hP hD va_S.rf ls hl
noncomputable def g_G_restart_w27 (sG_27 : zG) : Option (zG) := some (sG_27)
noncomputable def g_G_restart_w22 (sG_22 : zG) : Option (zG) := g_G_restart_w27 (zG_wrongPlace' sG_22 (-1 : Int32))
noncomputable def g_G_restart_w17 (sG_17 : zG) : Option (zG) := g_G_restart_w22 (zG_wrong' sG_17 (0 : Int32))
noncomputable def g_G_restart_w12 (v2 : Int32) (sG_12 : zG) : Option (zG) := g_G_restart_w17 (zG_names' sG_12 v2)
noncomputable def g_G_restart_w7 (v1 : Int32) (v2 : Int32) (sG_7 : zG) : Option (zG) := g_G_restart_w12 v2 (zG_limit' sG_7 v1)
noncomputable def g_G_restart_w2 (v1 : Int32) (v2 : Int32) (sG_2 : zG) : Option (zG) := g_G_restart_w7 v1 v2 (zG_packetCount' sG_2 (0 : Int32))
noncomputable def g_G_restart (sG : zG) (v1 : Int32) (v2 : Int32) : Option (zG) := g_G_restart_w2 v1 v2 (zG_frameCount' sG (0 : Int32))
def q_G_restart (dC : Nat → ClassId) (dI : Nat → Nat → Nat) (cB cI cL : ClassId) (A : Nat → Prop) (adG : Nat) (adG_places : Nat) (a : zG) : Array Value → State → Outcome → State → Prop := va_Qv (fun (u : zG) => (u) = a) (fun u U => va_P (dC, dI) zcl (zwG adG adG_places cB cI cL u) U.heap ∧ va_D A (zwG adG adG_places cB cI cL u)) A
set_option maxRecDepth 100000 in
set_option maxHeartbeats 4000000 in
theorem k_G_restart_0 {p : Program} {l : Launch} {e : Env} {R : Room} {s : State} {m : MethodId} {args : Array Value} {below : List Frame} {meth : Method} {c : Code} {dC : Nat → ClassId} {dI : Nat → Nat → Nat} {cB cI cL : ClassId} {A : Nat → Prop} (X : zx p s m args meth c R R_G b_G_restart none 3 0 0) (hA : ∀ q, s.heap.size ≤ q → A q) (zz : zk dC dI cB cI cL A s)  (sG : zG) (v1 : Int32) (v2 : Int32) (a : zG) (hG : g_G_restart sG v1 v2 = some a) (adG adG_places : Nat) (H : Heap) (locs : List Loc) (hP : va_P (dC, dI) zcl (zwG adG adG_places cB cI cL sG) H) (hD : va_D A (zwG adG adG_places cB cI cL sG)) (hS : va_S A s.heap H locs) (ls : Array Slot) (hl : lv_has ls 3 [(0, .ref adG), (1, .int v1), (2, .int v2)]) : W p l e R s m args below meth c H locs 0 0 (MQ below (q_G_restart dC dI cB cI cL A adG adG_places a) args s 0 0 A) (F0 m 0 ls []) := by
  obtain ⟨hx, hb, hr, hml, hown, hts, hlocks, hRf, hRl⟩ := id X
  unfold g_G_restart at hG
  refine lv_aload_n hx hb d_G_restart_0 rfl (lv_at hl 0 rfl) ?_
  refine lv_iconst (v := (0 : Int32)) hx hb d_G_restart_1 (by decide) ?_
  refine va_put (D := (dC, dI)) (ci := 3) (v := .int (0 : Int32)) (ty := .int) (C := R_G) (T := F_G) (N := 7) hx hb hts zi_G zty_G zty_G_ok znm_G hown zz.1 hP hD hS 0 rfl rfl 1 (by decide) (hts (.fieldLink R_G 19 "WireCodec$Reading" "frameCount" "I") zin_G_19) (fun _ h9 => h9) rfl (by decide +kernel) rfl rfl (Nat.le_of_ble_eq_true rfl) d_G_restart_2 (fun H locs hP hD hS => ?_)
  have hP : va_P (dC, dI) zcl (zwG adG adG_places cB cI cL (zG_frameCount' sG (0 : Int32))) H := hP
  have hD : va_D A (zwG adG adG_places cB cI cL (zG_frameCount' sG (0 : Int32))) := hD
  have hG : g_G_restart_w2 v1 v2 (zG_frameCount' sG (0 : Int32)) = some a := hG
  generalize zG_frameCount' sG (0 : Int32) = sG_2 at hP hD hG
  unfold g_G_restart_w2 at hG
  refine lv_aload_n hx hb d_G_restart_5 rfl (lv_at hl 0 rfl) ?_
  refine lv_iconst (v := (0 : Int32)) hx hb d_G_restart_6 (by decide) ?_
  refine va_put (D := (dC, dI)) (ci := 3) (v := .int (0 : Int32)) (ty := .int) (C := R_G) (T := F_G) (N := 7) hx hb hts zi_G zty_G zty_G_ok znm_G hown zz.1 hP hD hS 0 rfl rfl 2 (by decide) (hts (.fieldLink R_G 22 "WireCodec$Reading" "packetCount" "I") zin_G_22) (fun _ h9 => h9) rfl (by decide +kernel) rfl rfl (Nat.le_of_ble_eq_true rfl) d_G_restart_7 (fun H locs hP hD hS => ?_)
  have hP : va_P (dC, dI) zcl (zwG adG adG_places cB cI cL (zG_packetCount' sG_2 (0 : Int32))) H := hP
  have hD : va_D A (zwG adG adG_places cB cI cL (zG_packetCount' sG_2 (0 : Int32))) := hD
  have hG : g_G_restart_w7 v1 v2 (zG_packetCount' sG_2 (0 : Int32)) = some a := hG
  generalize zG_packetCount' sG_2 (0 : Int32) = sG_7 at hP hD hG
  unfold g_G_restart_w7 at hG
  refine lv_aload_n hx hb d_G_restart_10 rfl (lv_at hl 0 rfl) ?_
  refine lv_iload_n hx hb d_G_restart_11 rfl (lv_at hl 1 rfl) ?_
  refine va_put (D := (dC, dI)) (ci := 3) (v := .int v1) (ty := .int) (C := R_G) (T := F_G) (N := 7) hx hb hts zi_G zty_G zty_G_ok znm_G hown zz.1 hP hD hS 0 rfl rfl 3 (by decide) (hts (.fieldLink R_G 25 "WireCodec$Reading" "limit" "I") zin_G_25) (fun _ h9 => h9) rfl (by decide +kernel) rfl rfl (Nat.le_of_ble_eq_true rfl) d_G_restart_12 (fun H locs hP hD hS => ?_)
  have hP : va_P (dC, dI) zcl (zwG adG adG_places cB cI cL (zG_limit' sG_7 v1)) H := hP
  have hD : va_D A (zwG adG adG_places cB cI cL (zG_limit' sG_7 v1)) := hD
  have hG : g_G_restart_w12 v2 (zG_limit' sG_7 v1) = some a := hG
  generalize zG_limit' sG_7 v1 = sG_12 at hP hD hG
  unfold g_G_restart_w12 at hG
  refine lv_aload_n hx hb d_G_restart_15 rfl (lv_at hl 0 rfl) ?_
  refine lv_iload_n hx hb d_G_restart_16 rfl (lv_at hl 2 rfl) ?_
  refine va_put (D := (dC, dI)) (ci := 3) (v := .int v2) (ty := .int) (C := R_G) (T := F_G) (N := 7) hx hb hts zi_G zty_G zty_G_ok znm_G hown zz.1 hP hD hS 0 rfl rfl 4 (by decide) (hts (.fieldLink R_G 28 "WireCodec$Reading" "names" "I") zin_G_28) (fun _ h9 => h9) rfl (by decide +kernel) rfl rfl (Nat.le_of_ble_eq_true rfl) d_G_restart_17 (fun H locs hP hD hS => ?_)
  have hP : va_P (dC, dI) zcl (zwG adG adG_places cB cI cL (zG_names' sG_12 v2)) H := hP
  have hD : va_D A (zwG adG adG_places cB cI cL (zG_names' sG_12 v2)) := hD
  have hG : g_G_restart_w17 (zG_names' sG_12 v2) = some a := hG
  generalize zG_names' sG_12 v2 = sG_17 at hP hD hG
  unfold g_G_restart_w17 at hG
  refine lv_aload_n hx hb d_G_restart_20 rfl (lv_at hl 0 rfl) ?_
  refine lv_iconst (v := (0 : Int32)) hx hb d_G_restart_21 (by decide) ?_
  refine va_put (D := (dC, dI)) (ci := 3) (v := .int (0 : Int32)) (ty := .int) (C := R_G) (T := F_G) (N := 7) hx hb hts zi_G zty_G zty_G_ok znm_G hown zz.1 hP hD hS 0 rfl rfl 5 (by decide) (hts (.fieldLink R_G 31 "WireCodec$Reading" "wrong" "I") zin_G_31) (fun _ h9 => h9) rfl (by decide +kernel) rfl rfl (Nat.le_of_ble_eq_true rfl) d_G_restart_22 (fun H locs hP hD hS => ?_)
  have hP : va_P (dC, dI) zcl (zwG adG adG_places cB cI cL (zG_wrong' sG_17 (0 : Int32))) H := hP
  have hD : va_D A (zwG adG adG_places cB cI cL (zG_wrong' sG_17 (0 : Int32))) := hD
  have hG : g_G_restart_w22 (zG_wrong' sG_17 (0 : Int32)) = some a := hG
  generalize zG_wrong' sG_17 (0 : Int32) = sG_22 at hP hD hG
  unfold g_G_restart_w22 at hG
  refine lv_aload_n hx hb d_G_restart_25 rfl (lv_at hl 0 rfl) ?_
  refine lv_iconst (v := (-1 : Int32)) hx hb d_G_restart_26 (by decide) ?_
  refine va_put (D := (dC, dI)) (ci := 3) (v := .int (-1 : Int32)) (ty := .int) (C := R_G) (T := F_G) (N := 7) hx hb hts zi_G zty_G zty_G_ok znm_G hown zz.1 hP hD hS 0 rfl rfl 6 (by decide) (hts (.fieldLink R_G 15 "WireCodec$Reading" "wrongPlace" "I") zin_G_15) (fun _ h9 => h9) rfl (by decide +kernel) rfl rfl (Nat.le_of_ble_eq_true rfl) d_G_restart_27 (fun H locs hP hD hS => ?_)
  have hP : va_P (dC, dI) zcl (zwG adG adG_places cB cI cL (zG_wrongPlace' sG_22 (-1 : Int32))) H := hP
  have hD : va_D A (zwG adG adG_places cB cI cL (zG_wrongPlace' sG_22 (-1 : Int32))) := hD
  have hG : g_G_restart_w27 (zG_wrongPlace' sG_22 (-1 : Int32)) = some a := hG
  generalize zG_wrongPlace' sG_22 (-1 : Int32) = sG_27 at hP hD hG
  unfold g_G_restart_w27 at hG
  exact W.vret hx hb hr (fun t9 ht9 hW9 => ⟨⟨(sG_27), rfl, Option.some.inj hG, by rw [ht9]; exact hP, hD⟩, hS.F ht9⟩) hS.2.2 d_G_restart_30
set_option maxRecDepth 100000 in
set_option maxHeartbeats 4000000 in
theorem c_G_restart (l : Launch) (dC : Nat → ClassId) (dI : Nat → Nat → Nat) (cB cI cL : ClassId) (sz : Nat) (adG adG_places : Nat) (sG : zG) (v1 : Int32) (v2 : Int32) (a : zG) (hG : g_G_restart sG v1 v2 = some a) : Met l y_G_restart (zw y_G_restart b_G_restart 3 none) ({ frames := 0, cells := 0, slots := 0, locals := 0 }) (va_Pc [.ref adG, .int v1, .int v2] (zpre dC dI cB cI cL sz (zwG adG adG_places cB cI cL sG))) (q_G_restart dC dI cB cI cL (va_A (zwG adG adG_places cB cI cL sG) sz) adG adG_places a) 0 0 (va_A (zwG adG adG_places cB cI cL sG) sz) := by
  refine Met.ofW (cc := b_G_restart) (maxL := 3) (ret := none) (by decide) rfl ?_
  intro p e s m args below meth c s₁ B hml hv
  obtain ⟨rfl, hsz, hP, zz, hD0⟩ := hv
  subst hsz
  have X := zx_of (F := 0) (L := 0) B hml (Nat.le_refl _) (Nat.le_refl _)
  have hD := hD0.self (sz := s.heap.size)
  have hA : ∀ q : Nat, s.heap.size ≤ q → va_A (zwG adG adG_places cB cI cL sG) s.heap.size q := fun q h => Or.inr h
  have hl := lv_entry ([.ref adG, .int v1, .int v2]) (n := 3) (Nat.le_of_ble_eq_true rfl)
  rw [lg_entry_eq]
  generalize (lg_sl ([.ref adG, .int v1, .int v2]) ++ List.replicate (3 - (lg_sl ([.ref adG, .int v1, .int v2])).length) Slot.unset).toArray = ls at hl ⊢
  exact k_G_restart_0 X hA zz sG v1 v2 a hG adG adG_places _ _ hP hD va_S.rf ls hl
noncomputable def g_G_fail_w7 (sG_7 : zG) : Option (zG) := some (sG_7)
noncomputable def g_G_fail_w2 (v2 : Int32) (sG_2 : zG) : Option (zG) := g_G_fail_w7 (zG_wrongPlace' sG_2 v2)
noncomputable def g_G_fail (sG : zG) (v1 : Int32) (v2 : Int32) : Option (zG) := g_G_fail_w2 v2 (zG_wrong' sG v1)
def q_G_fail (dC : Nat → ClassId) (dI : Nat → Nat → Nat) (cB cI cL : ClassId) (A : Nat → Prop) (adG : Nat) (adG_places : Nat) (a : zG) : Array Value → State → Outcome → State → Prop := va_Qv (fun (u : zG) => (u) = a) (fun u U => va_P (dC, dI) zcl (zwG adG adG_places cB cI cL u) U.heap ∧ va_D A (zwG adG adG_places cB cI cL u)) A
set_option maxRecDepth 100000 in
set_option maxHeartbeats 4000000 in
theorem k_G_fail_0 {p : Program} {l : Launch} {e : Env} {R : Room} {s : State} {m : MethodId} {args : Array Value} {below : List Frame} {meth : Method} {c : Code} {dC : Nat → ClassId} {dI : Nat → Nat → Nat} {cB cI cL : ClassId} {A : Nat → Prop} (X : zx p s m args meth c R R_G b_G_fail none 3 0 0) (hA : ∀ q, s.heap.size ≤ q → A q) (zz : zk dC dI cB cI cL A s)  (sG : zG) (v1 : Int32) (v2 : Int32) (a : zG) (hG : g_G_fail sG v1 v2 = some a) (adG adG_places : Nat) (H : Heap) (locs : List Loc) (hP : va_P (dC, dI) zcl (zwG adG adG_places cB cI cL sG) H) (hD : va_D A (zwG adG adG_places cB cI cL sG)) (hS : va_S A s.heap H locs) (ls : Array Slot) (hl : lv_has ls 3 [(0, .ref adG), (1, .int v1), (2, .int v2)]) : W p l e R s m args below meth c H locs 0 0 (MQ below (q_G_fail dC dI cB cI cL A adG adG_places a) args s 0 0 A) (F0 m 0 ls []) := by
  obtain ⟨hx, hb, hr, hml, hown, hts, hlocks, hRf, hRl⟩ := id X
  unfold g_G_fail at hG
  refine lv_aload_n hx hb d_G_fail_0 rfl (lv_at hl 0 rfl) ?_
  refine lv_iload_n hx hb d_G_fail_1 rfl (lv_at hl 1 rfl) ?_
  refine va_put (D := (dC, dI)) (ci := 3) (v := .int v1) (ty := .int) (C := R_G) (T := F_G) (N := 7) hx hb hts zi_G zty_G zty_G_ok znm_G hown zz.1 hP hD hS 0 rfl rfl 5 (by decide) (hts (.fieldLink R_G 31 "WireCodec$Reading" "wrong" "I") zin_G_31) (fun _ h9 => h9) rfl (by decide +kernel) rfl rfl (Nat.le_of_ble_eq_true rfl) d_G_fail_2 (fun H locs hP hD hS => ?_)
  have hP : va_P (dC, dI) zcl (zwG adG adG_places cB cI cL (zG_wrong' sG v1)) H := hP
  have hD : va_D A (zwG adG adG_places cB cI cL (zG_wrong' sG v1)) := hD
  have hG : g_G_fail_w2 v2 (zG_wrong' sG v1) = some a := hG
  generalize zG_wrong' sG v1 = sG_2 at hP hD hG
  unfold g_G_fail_w2 at hG
  refine lv_aload_n hx hb d_G_fail_5 rfl (lv_at hl 0 rfl) ?_
  refine lv_iload_n hx hb d_G_fail_6 rfl (lv_at hl 2 rfl) ?_
  refine va_put (D := (dC, dI)) (ci := 3) (v := .int v2) (ty := .int) (C := R_G) (T := F_G) (N := 7) hx hb hts zi_G zty_G zty_G_ok znm_G hown zz.1 hP hD hS 0 rfl rfl 6 (by decide) (hts (.fieldLink R_G 15 "WireCodec$Reading" "wrongPlace" "I") zin_G_15) (fun _ h9 => h9) rfl (by decide +kernel) rfl rfl (Nat.le_of_ble_eq_true rfl) d_G_fail_7 (fun H locs hP hD hS => ?_)
  have hP : va_P (dC, dI) zcl (zwG adG adG_places cB cI cL (zG_wrongPlace' sG_2 v2)) H := hP
  have hD : va_D A (zwG adG adG_places cB cI cL (zG_wrongPlace' sG_2 v2)) := hD
  have hG : g_G_fail_w7 (zG_wrongPlace' sG_2 v2) = some a := hG
  generalize zG_wrongPlace' sG_2 v2 = sG_7 at hP hD hG
  unfold g_G_fail_w7 at hG
  exact W.vret hx hb hr (fun t9 ht9 hW9 => ⟨⟨(sG_7), rfl, Option.some.inj hG, by rw [ht9]; exact hP, hD⟩, hS.F ht9⟩) hS.2.2 d_G_fail_10
set_option maxRecDepth 100000 in
set_option maxHeartbeats 4000000 in
theorem c_G_fail (l : Launch) (dC : Nat → ClassId) (dI : Nat → Nat → Nat) (cB cI cL : ClassId) (sz : Nat) (adG adG_places : Nat) (sG : zG) (v1 : Int32) (v2 : Int32) (a : zG) (hG : g_G_fail sG v1 v2 = some a) : Met l y_G_fail (zw y_G_fail b_G_fail 3 none) ({ frames := 0, cells := 0, slots := 0, locals := 0 }) (va_Pc [.ref adG, .int v1, .int v2] (zpre dC dI cB cI cL sz (zwG adG adG_places cB cI cL sG))) (q_G_fail dC dI cB cI cL (va_A (zwG adG adG_places cB cI cL sG) sz) adG adG_places a) 0 0 (va_A (zwG adG adG_places cB cI cL sG) sz) := by
  refine Met.ofW (cc := b_G_fail) (maxL := 3) (ret := none) (by decide) rfl ?_
  intro p e s m args below meth c s₁ B hml hv
  obtain ⟨rfl, hsz, hP, zz, hD0⟩ := hv
  subst hsz
  have X := zx_of (F := 0) (L := 0) B hml (Nat.le_refl _) (Nat.le_refl _)
  have hD := hD0.self (sz := s.heap.size)
  have hA : ∀ q : Nat, s.heap.size ≤ q → va_A (zwG adG adG_places cB cI cL sG) s.heap.size q := fun q h => Or.inr h
  have hl := lv_entry ([.ref adG, .int v1, .int v2]) (n := 3) (Nat.le_of_ble_eq_true rfl)
  rw [lg_entry_eq]
  generalize (lg_sl ([.ref adG, .int v1, .int v2]) ++ List.replicate (3 - (lg_sl ([.ref adG, .int v1, .int v2])).length) Slot.unset).toArray = ls at hl ⊢
  exact k_G_fail_0 X hA zz sG v1 v2 a hG adG adG_places _ _ hP hD va_S.rf ls hl
noncomputable def g_G_placeOf_23 (sG : zG) (s0 : Int32) : Option (Int32) := some (s0)
noncomputable def g_G_placeOf_22 (sG : zG) : Option (Int32) := g_G_placeOf_23 sG (0 : Int32)
noncomputable def g_G_placeOf (sG : zG) (v1 : Int32) : Option (Int32) := if v1 < (0 : Int32) then (g_G_placeOf_22 sG) else (if (nI (zG_placesN sG)) ≤ v1 then (g_G_placeOf_22 sG) else (zg (vp_in v1 (zG_placesN sG)) (g_G_placeOf_23 sG ((zG_places sG) v1.toNatClampNeg))))
def q_G_placeOf (dC : Nat → ClassId) (dI : Nat → Nat → Nat) (cB cI cL : ClassId) (A : Nat → Prop) (adG : Nat) (adG_places : Nat) (sG : zG) (a : Int32) : Array Value → State → Outcome → State → Prop := va_Qi (fun (r : Int32) (u : Unit) => (r) = a) (fun u U => va_P (dC, dI) zcl (zwG adG adG_places cB cI cL sG) U.heap ∧ va_D A (zwG adG adG_places cB cI cL sG)) A
set_option maxRecDepth 100000 in
set_option maxHeartbeats 4000000 in
theorem k_G_placeOf_23 {p : Program} {l : Launch} {e : Env} {R : Room} {s : State} {m : MethodId} {args : Array Value} {below : List Frame} {meth : Method} {c : Code} {dC : Nat → ClassId} {dI : Nat → Nat → Nat} {cB cI cL : ClassId} {A : Nat → Prop} (X : zx p s m args meth c R R_G b_G_placeOf (some .int) 2 0 0) (hA : ∀ q, s.heap.size ≤ q → A q) (zz : zk dC dI cB cI cL A s)  (sG : zG) (s0 : Int32) (a : Int32) (hG : g_G_placeOf_23 sG s0 = some a) (adG adG_places : Nat) (H : Heap) (locs : List Loc) (hP : va_P (dC, dI) zcl (zwG adG adG_places cB cI cL sG) H) (hD : va_D A (zwG adG adG_places cB cI cL sG)) (hS : va_S A s.heap H locs) (ls : Array Slot) (hl : lv_has ls 2 []) : W p l e R s m args below meth c H locs 0 0 (MQ below (q_G_placeOf dC dI cB cI cL A adG adG_places sG a) args s 0 0 A) (F0 m 23 ls [.int s0]) := by
  obtain ⟨hx, hb, hr, hml, hown, hts, hlocks, hRf, hRl⟩ := id X
  unfold g_G_placeOf_23 at hG
  exact W.iret (v := s0) hx hb hr (fun t9 ht9 hW9 => ⟨⟨s0, (), rfl, Option.some.inj hG, by rw [ht9]; exact hP, hD⟩, hS.F ht9⟩) hS.2.2 d_G_placeOf_23
set_option maxRecDepth 100000 in
set_option maxHeartbeats 4000000 in
theorem k_G_placeOf_22 {p : Program} {l : Launch} {e : Env} {R : Room} {s : State} {m : MethodId} {args : Array Value} {below : List Frame} {meth : Method} {c : Code} {dC : Nat → ClassId} {dI : Nat → Nat → Nat} {cB cI cL : ClassId} {A : Nat → Prop} (X : zx p s m args meth c R R_G b_G_placeOf (some .int) 2 0 0) (hA : ∀ q, s.heap.size ≤ q → A q) (zz : zk dC dI cB cI cL A s)  (sG : zG) (a : Int32) (hG : g_G_placeOf_22 sG = some a) (adG adG_places : Nat) (H : Heap) (locs : List Loc) (hP : va_P (dC, dI) zcl (zwG adG adG_places cB cI cL sG) H) (hD : va_D A (zwG adG adG_places cB cI cL sG)) (hS : va_S A s.heap H locs) (ls : Array Slot) (hl : lv_has ls 2 []) : W p l e R s m args below meth c H locs 0 0 (MQ below (q_G_placeOf dC dI cB cI cL A adG adG_places sG a) args s 0 0 A) (F0 m 22 ls []) := by
  obtain ⟨hx, hb, hr, hml, hown, hts, hlocks, hRf, hRl⟩ := id X
  unfold g_G_placeOf_22 at hG
  refine lv_iconst (v := (0 : Int32)) hx hb d_G_placeOf_22 (by decide) ?_
  exact k_G_placeOf_23 X hA zz sG (0 : Int32) _ hG adG adG_places _ _ hP hD hS _ (lv_sub hl [] rfl)
set_option maxRecDepth 100000 in
set_option maxHeartbeats 4000000 in
theorem k_G_placeOf_0 {p : Program} {l : Launch} {e : Env} {R : Room} {s : State} {m : MethodId} {args : Array Value} {below : List Frame} {meth : Method} {c : Code} {dC : Nat → ClassId} {dI : Nat → Nat → Nat} {cB cI cL : ClassId} {A : Nat → Prop} (X : zx p s m args meth c R R_G b_G_placeOf (some .int) 2 0 0) (hA : ∀ q, s.heap.size ≤ q → A q) (zz : zk dC dI cB cI cL A s)  (sG : zG) (v1 : Int32) (a : Int32) (hG : g_G_placeOf sG v1 = some a) (adG adG_places : Nat) (H : Heap) (locs : List Loc) (hP : va_P (dC, dI) zcl (zwG adG adG_places cB cI cL sG) H) (hD : va_D A (zwG adG adG_places cB cI cL sG)) (hS : va_S A s.heap H locs) (ls : Array Slot) (hl : lv_has ls 2 [(0, .ref adG), (1, .int v1)]) : W p l e R s m args below meth c H locs 0 0 (MQ below (q_G_placeOf dC dI cB cI cL A adG adG_places sG a) args s 0 0 A) (F0 m 0 ls []) := by
  obtain ⟨hx, hb, hr, hml, hown, hts, hlocks, hRf, hRl⟩ := id X
  unfold g_G_placeOf at hG
  refine lv_iload_n hx hb d_G_placeOf_0 rfl (lv_at hl 1 rfl) ?_
  refine lv_if_lt (tgt := 22) hx hb d_G_placeOf_1 (by decide) (fun hc => ?_) (fun hc => ?_)
  · have hG := zt hG hc
    exact k_G_placeOf_22 X hA zz sG _ hG adG adG_places _ _ hP hD hS _ (lv_sub hl [] rfl)
  · have hG := zf hG hc
    refine lv_iload_n hx hb d_G_placeOf_4 rfl (lv_at hl 1 rfl) ?_
    refine lv_aload_n hx hb d_G_placeOf_5 rfl (lv_at hl 0 rfl) ?_
    refine va_get (D := (dC, dI)) (ci := 3) (v := .ref adG_places) (C := R_G) (T := F_G) (N := 7) hx hb hts zi_G hown zz.1 hP 0 rfl rfl 0 (by decide) (hts (.fieldLink R_G 9 "WireCodec$Reading" "places" "[I") zin_G_9) (fun _ h9 => h9) rfl d_G_placeOf_6 ?_
    refine va_alen (v := nI (zG_placesN sG)) hx hb zz.1 hP 1 1 rfl rfl rfl d_G_placeOf_9 ?_
    refine lv_icmp_ge (tgt := 22) hx hb d_G_placeOf_10 (by decide) (fun hc => ?_) (fun hc => ?_)
    · have hG := zt hG hc
      exact k_G_placeOf_22 X hA zz sG _ hG adG adG_places _ _ hP hD hS _ (lv_sub hl [] rfl)
    · have hG := zf hG hc
      refine lv_aload_n hx hb d_G_placeOf_13 rfl (lv_at hl 0 rfl) ?_
      refine va_get (D := (dC, dI)) (ci := 3) (v := .ref adG_places) (C := R_G) (T := F_G) (N := 7) hx hb hts zi_G hown zz.1 hP 0 rfl rfl 0 (by decide) (hts (.fieldLink R_G 9 "WireCodec$Reading" "places" "[I") zin_G_9) (fun _ h9 => h9) rfl d_G_placeOf_14 ?_
      refine lv_iload_n hx hb d_G_placeOf_17 rfl (lv_at hl 1 rfl) ?_
      obtain ⟨hin, hG⟩ := zgd hG
      refine va_iald hx hb zz.1 hP 1 1 rfl rfl hin d_G_placeOf_18 ?_
      refine lv_goto (tgt := 23) hx hb d_G_placeOf_19 (by decide) ?_
      exact k_G_placeOf_23 X hA zz sG ((zG_places sG) v1.toNatClampNeg) _ hG adG adG_places _ _ hP hD hS _ (lv_sub hl [] rfl)
set_option maxRecDepth 100000 in
set_option maxHeartbeats 4000000 in
theorem c_G_placeOf (l : Launch) (dC : Nat → ClassId) (dI : Nat → Nat → Nat) (cB cI cL : ClassId) (sz : Nat) (adG adG_places : Nat) (sG : zG) (v1 : Int32) (a : Int32) (hG : g_G_placeOf sG v1 = some a) : Met l y_G_placeOf (zw y_G_placeOf b_G_placeOf 2 (some .int)) ({ frames := 0, cells := 0, slots := 0, locals := 0 }) (va_Pc [.ref adG, .int v1] (zpre dC dI cB cI cL sz (zwG adG adG_places cB cI cL sG))) (q_G_placeOf dC dI cB cI cL (va_A (zwG adG adG_places cB cI cL sG) sz) adG adG_places sG a) 0 0 (va_A (zwG adG adG_places cB cI cL sG) sz) := by
  refine Met.ofW (cc := b_G_placeOf) (maxL := 2) (ret := (some .int)) (by decide) rfl ?_
  intro p e s m args below meth c s₁ B hml hv
  obtain ⟨rfl, hsz, hP, zz, hD0⟩ := hv
  subst hsz
  have X := zx_of (F := 0) (L := 0) B hml (Nat.le_refl _) (Nat.le_refl _)
  have hD := hD0.self (sz := s.heap.size)
  have hA : ∀ q : Nat, s.heap.size ≤ q → va_A (zwG adG adG_places cB cI cL sG) s.heap.size q := fun q h => Or.inr h
  have hl := lv_entry ([.ref adG, .int v1]) (n := 2) (Nat.le_of_ble_eq_true rfl)
  rw [lg_entry_eq]
  generalize (lg_sl ([.ref adG, .int v1]) ++ List.replicate (2 - (lg_sl ([.ref adG, .int v1])).length) Slot.unset).toArray = ls at hl ⊢
  exact k_G_placeOf_0 X hA zz sG v1 a hG adG adG_places _ _ hP hD va_S.rf ls hl
noncomputable def g_T_byteAt_27 (sT : zT) (s0 : Int32) : Option (Int32) := some (s0)
noncomputable def g_T_byteAt_26 (sT : zT) : Option (Int32) := g_T_byteAt_27 sT (0 : Int32)
noncomputable def g_T_byteAt (sT : zT) (v1 : Int32) : Option (Int32) := if v1 < (0 : Int32) then (g_T_byteAt_26 sT) else (if (nI (zT_bytesN sT)) ≤ v1 then (g_T_byteAt_26 sT) else (zg (vp_in v1 (zT_bytesN sT)) (g_T_byteAt_27 sT (((zT_bytes sT) v1.toNatClampNeg) &&& (255 : Int32)))))
def q_T_byteAt (dC : Nat → ClassId) (dI : Nat → Nat → Nat) (cB cI cL : ClassId) (A : Nat → Prop) (adT : Nat) (adT_bytes : Nat) (sT : zT) (a : Int32) : Array Value → State → Outcome → State → Prop := va_Qi (fun (r : Int32) (u : Unit) => (r) = a) (fun u U => va_P (dC, dI) zcl (zwT adT adT_bytes cB cI cL sT) U.heap ∧ va_D A (zwT adT adT_bytes cB cI cL sT)) A
set_option maxRecDepth 100000 in
set_option maxHeartbeats 4000000 in
theorem k_T_byteAt_27 {p : Program} {l : Launch} {e : Env} {R : Room} {s : State} {m : MethodId} {args : Array Value} {below : List Frame} {meth : Method} {c : Code} {dC : Nat → ClassId} {dI : Nat → Nat → Nat} {cB cI cL : ClassId} {A : Nat → Prop} (X : zx p s m args meth c R R_T b_T_byteAt (some .int) 2 0 0) (hA : ∀ q, s.heap.size ≤ q → A q) (zz : zk dC dI cB cI cL A s)  (sT : zT) (s0 : Int32) (a : Int32) (hG : g_T_byteAt_27 sT s0 = some a) (adT adT_bytes : Nat) (H : Heap) (locs : List Loc) (hP : va_P (dC, dI) zcl (zwT adT adT_bytes cB cI cL sT) H) (hD : va_D A (zwT adT adT_bytes cB cI cL sT)) (hS : va_S A s.heap H locs) (ls : Array Slot) (hl : lv_has ls 2 []) : W p l e R s m args below meth c H locs 0 0 (MQ below (q_T_byteAt dC dI cB cI cL A adT adT_bytes sT a) args s 0 0 A) (F0 m 27 ls [.int s0]) := by
  obtain ⟨hx, hb, hr, hml, hown, hts, hlocks, hRf, hRl⟩ := id X
  unfold g_T_byteAt_27 at hG
  exact W.iret (v := s0) hx hb hr (fun t9 ht9 hW9 => ⟨⟨s0, (), rfl, Option.some.inj hG, by rw [ht9]; exact hP, hD⟩, hS.F ht9⟩) hS.2.2 d_T_byteAt_27
set_option maxRecDepth 100000 in
set_option maxHeartbeats 4000000 in
theorem k_T_byteAt_26 {p : Program} {l : Launch} {e : Env} {R : Room} {s : State} {m : MethodId} {args : Array Value} {below : List Frame} {meth : Method} {c : Code} {dC : Nat → ClassId} {dI : Nat → Nat → Nat} {cB cI cL : ClassId} {A : Nat → Prop} (X : zx p s m args meth c R R_T b_T_byteAt (some .int) 2 0 0) (hA : ∀ q, s.heap.size ≤ q → A q) (zz : zk dC dI cB cI cL A s)  (sT : zT) (a : Int32) (hG : g_T_byteAt_26 sT = some a) (adT adT_bytes : Nat) (H : Heap) (locs : List Loc) (hP : va_P (dC, dI) zcl (zwT adT adT_bytes cB cI cL sT) H) (hD : va_D A (zwT adT adT_bytes cB cI cL sT)) (hS : va_S A s.heap H locs) (ls : Array Slot) (hl : lv_has ls 2 []) : W p l e R s m args below meth c H locs 0 0 (MQ below (q_T_byteAt dC dI cB cI cL A adT adT_bytes sT a) args s 0 0 A) (F0 m 26 ls []) := by
  obtain ⟨hx, hb, hr, hml, hown, hts, hlocks, hRf, hRl⟩ := id X
  unfold g_T_byteAt_26 at hG
  refine lv_iconst (v := (0 : Int32)) hx hb d_T_byteAt_26 (by decide) ?_
  exact k_T_byteAt_27 X hA zz sT (0 : Int32) _ hG adT adT_bytes _ _ hP hD hS _ (lv_sub hl [] rfl)
set_option maxRecDepth 100000 in
set_option maxHeartbeats 4000000 in
theorem k_T_byteAt_0 {p : Program} {l : Launch} {e : Env} {R : Room} {s : State} {m : MethodId} {args : Array Value} {below : List Frame} {meth : Method} {c : Code} {dC : Nat → ClassId} {dI : Nat → Nat → Nat} {cB cI cL : ClassId} {A : Nat → Prop} (X : zx p s m args meth c R R_T b_T_byteAt (some .int) 2 0 0) (hA : ∀ q, s.heap.size ≤ q → A q) (zz : zk dC dI cB cI cL A s)  (sT : zT) (v1 : Int32) (a : Int32) (hG : g_T_byteAt sT v1 = some a) (adT adT_bytes : Nat) (H : Heap) (locs : List Loc) (hP : va_P (dC, dI) zcl (zwT adT adT_bytes cB cI cL sT) H) (hD : va_D A (zwT adT adT_bytes cB cI cL sT)) (hS : va_S A s.heap H locs) (ls : Array Slot) (hl : lv_has ls 2 [(0, .ref adT), (1, .int v1)]) : W p l e R s m args below meth c H locs 0 0 (MQ below (q_T_byteAt dC dI cB cI cL A adT adT_bytes sT a) args s 0 0 A) (F0 m 0 ls []) := by
  obtain ⟨hx, hb, hr, hml, hown, hts, hlocks, hRf, hRl⟩ := id X
  unfold g_T_byteAt at hG
  refine lv_iload_n hx hb d_T_byteAt_0 rfl (lv_at hl 1 rfl) ?_
  refine lv_if_lt (tgt := 26) hx hb d_T_byteAt_1 (by decide) (fun hc => ?_) (fun hc => ?_)
  · have hG := zt hG hc
    exact k_T_byteAt_26 X hA zz sT _ hG adT adT_bytes _ _ hP hD hS _ (lv_sub hl [] rfl)
  · have hG := zf hG hc
    refine lv_iload_n hx hb d_T_byteAt_4 rfl (lv_at hl 1 rfl) ?_
    refine lv_aload_n hx hb d_T_byteAt_5 rfl (lv_at hl 0 rfl) ?_
    refine va_get (D := (dC, dI)) (ci := 1) (v := .ref adT_bytes) (C := R_T) (T := F_T) (N := 3) hx hb hts zi_T hown zz.1 hP 0 rfl rfl 0 (by decide) (hts (.fieldLink R_T 9 "WireCodec$Tape" "bytes" "[B") zin_T_9) (fun _ h9 => h9) rfl d_T_byteAt_6 ?_
    refine va_alen (v := nI (zT_bytesN sT)) hx hb zz.1 hP 1 0 rfl rfl rfl d_T_byteAt_9 ?_
    refine lv_icmp_ge (tgt := 26) hx hb d_T_byteAt_10 (by decide) (fun hc => ?_) (fun hc => ?_)
    · have hG := zt hG hc
      exact k_T_byteAt_26 X hA zz sT _ hG adT adT_bytes _ _ hP hD hS _ (lv_sub hl [] rfl)
    · have hG := zf hG hc
      refine lv_aload_n hx hb d_T_byteAt_13 rfl (lv_at hl 0 rfl) ?_
      refine va_get (D := (dC, dI)) (ci := 1) (v := .ref adT_bytes) (C := R_T) (T := F_T) (N := 3) hx hb hts zi_T hown zz.1 hP 0 rfl rfl 0 (by decide) (hts (.fieldLink R_T 9 "WireCodec$Tape" "bytes" "[B") zin_T_9) (fun _ h9 => h9) rfl d_T_byteAt_14 ?_
      refine lv_iload_n hx hb d_T_byteAt_17 rfl (lv_at hl 1 rfl) ?_
      obtain ⟨hin, hG⟩ := zgd hG
      refine va_bald hx hb zz.1 hP 1 0 rfl rfl hin d_T_byteAt_18 ?_
      refine lv_sipush (v := (255 : Int32)) hx hb d_T_byteAt_19 (by decide) ?_
      refine lv_iand hx hb d_T_byteAt_22 ?_
      refine lv_goto (tgt := 27) hx hb d_T_byteAt_23 (by decide) ?_
      exact k_T_byteAt_27 X hA zz sT (((zT_bytes sT) v1.toNatClampNeg) &&& (255 : Int32)) _ hG adT adT_bytes _ _ hP hD hS _ (lv_sub hl [] rfl)
set_option maxRecDepth 100000 in
set_option maxHeartbeats 4000000 in
theorem c_T_byteAt (l : Launch) (dC : Nat → ClassId) (dI : Nat → Nat → Nat) (cB cI cL : ClassId) (sz : Nat) (adT adT_bytes : Nat) (sT : zT) (v1 : Int32) (a : Int32) (hG : g_T_byteAt sT v1 = some a) : Met l y_T_byteAt (zw y_T_byteAt b_T_byteAt 2 (some .int)) ({ frames := 0, cells := 0, slots := 0, locals := 0 }) (va_Pc [.ref adT, .int v1] (zpre dC dI cB cI cL sz (zwT adT adT_bytes cB cI cL sT))) (q_T_byteAt dC dI cB cI cL (va_A (zwT adT adT_bytes cB cI cL sT) sz) adT adT_bytes sT a) 0 0 (va_A (zwT adT adT_bytes cB cI cL sT) sz) := by
  refine Met.ofW (cc := b_T_byteAt) (maxL := 2) (ret := (some .int)) (by decide) rfl ?_
  intro p e s m args below meth c s₁ B hml hv
  obtain ⟨rfl, hsz, hP, zz, hD0⟩ := hv
  subst hsz
  have X := zx_of (F := 0) (L := 0) B hml (Nat.le_refl _) (Nat.le_refl _)
  have hD := hD0.self (sz := s.heap.size)
  have hA : ∀ q : Nat, s.heap.size ≤ q → va_A (zwT adT adT_bytes cB cI cL sT) s.heap.size q := fun q h => Or.inr h
  have hl := lv_entry ([.ref adT, .int v1]) (n := 2) (Nat.le_of_ble_eq_true rfl)
  rw [lg_entry_eq]
  generalize (lg_sl ([.ref adT, .int v1]) ++ List.replicate (2 - (lg_sl ([.ref adT, .int v1])).length) Slot.unset).toArray = ls at hl ⊢
  exact k_T_byteAt_0 X hA zz sT v1 a hG adT adT_bytes _ _ hP hD va_S.rf ls hl

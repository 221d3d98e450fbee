theorem zy_W_grow : zy y_W_grow b_W_grow 17 (some .long) 3 := ⟨zmem 870 (by decide +kernel) (by decide +kernel), zmem 62 (by decide +kernel) (by decide +kernel), by decide +kernel⟩
theorem zv_W_grow : Cond.instanceMethod y_W_grow ∈ ztb ∧ Cond.selects y_W_grow.cls y_W_grow y_W_grow ∈ ztb := ⟨zmem 868 (by decide +kernel) (by decide +kernel), zmem 869 (by decide +kernel) (by decide +kernel)⟩
theorem d_W_grow_0 : decode b_W_grow 0 = .ok (.lload_n 1, 1) := by decide +kernel
theorem d_W_grow_1 : decode b_W_grow 1 = .ok (.invokestatic 273, 3) := by decide +kernel
theorem d_W_grow_4 : decode b_W_grow 4 = .ok (.ifCond .eq 33, 3) := by decide +kernel
theorem d_W_grow_7 : decode b_W_grow 7 = .ok (.iload 5, 2) := by decide +kernel
theorem d_W_grow_9 : decode b_W_grow 9 = .ok (.iconst 1, 1) := by decide +kernel
theorem d_W_grow_10 : decode b_W_grow 10 = .ok (.if_icmp .lt 27, 3) := by decide +kernel
theorem d_W_grow_13 : decode b_W_grow 13 = .ok (.iload 5, 2) := by decide +kernel
theorem d_W_grow_15 : decode b_W_grow 15 = .ok (.iconst 4, 1) := by decide +kernel
theorem d_W_grow_16 : decode b_W_grow 16 = .ok (.if_icmp .gt 21, 3) := by decide +kernel
theorem d_W_grow_19 : decode b_W_grow 19 = .ok (.lload_n 3, 1) := by decide +kernel
theorem d_W_grow_20 : decode b_W_grow 20 = .ok (.lconst 0, 1) := by decide +kernel
theorem d_W_grow_21 : decode b_W_grow 21 = .ok (.lcmp, 1) := by decide +kernel
theorem d_W_grow_22 : decode b_W_grow 22 = .ok (.ifCond .lt 15, 3) := by decide +kernel
theorem d_W_grow_25 : decode b_W_grow 25 = .ok (.lload_n 3, 1) := by decide +kernel
theorem d_W_grow_26 : decode b_W_grow 26 = .ok (.lconst 1, 1) := by decide +kernel
theorem d_W_grow_27 : decode b_W_grow 27 = .ok (.bipush 8, 2) := by decide +kernel
theorem d_W_grow_29 : decode b_W_grow 29 = .ok (.iload 5, 2) := by decide +kernel
theorem d_W_grow_31 : decode b_W_grow 31 = .ok (.imul, 1) := by decide +kernel
theorem d_W_grow_32 : decode b_W_grow 32 = .ok (.lshl, 1) := by decide +kernel
theorem d_W_grow_33 : decode b_W_grow 33 = .ok (.lcmp, 1) := by decide +kernel
theorem d_W_grow_34 : decode b_W_grow 34 = .ok (.ifCond .lt 14, 3) := by decide +kernel
theorem d_W_grow_37 : decode b_W_grow 37 = .ok (.new 60, 3) := by decide +kernel
theorem d_W_grow_40 : decode b_W_grow 40 = .ok (.dup, 1) := by decide +kernel
theorem d_W_grow_41 : decode b_W_grow 41 = .ok (.ldc_w 278, 3) := by decide +kernel
theorem d_W_grow_44 : decode b_W_grow 44 = .ok (.invokespecial 64, 3) := by decide +kernel
theorem d_W_grow_47 : decode b_W_grow 47 = .ok (.athrow, 1) := by decide +kernel
theorem d_W_grow_48 : decode b_W_grow 48 = .ok (.lconst 1, 1) := by decide +kernel
theorem d_W_grow_49 : decode b_W_grow 49 = .ok (.bipush 8, 2) := by decide +kernel
theorem d_W_grow_51 : decode b_W_grow 51 = .ok (.iload 5, 2) := by decide +kernel
theorem d_W_grow_53 : decode b_W_grow 53 = .ok (.imul, 1) := by decide +kernel
theorem d_W_grow_54 : decode b_W_grow 54 = .ok (.lshl, 1) := by decide +kernel
theorem d_W_grow_55 : decode b_W_grow 55 = .ok (.lstore 6, 2) := by decide +kernel
theorem d_W_grow_57 : decode b_W_grow 57 = .ok (.lload_n 1, 1) := by decide +kernel
theorem d_W_grow_58 : decode b_W_grow 58 = .ok (.lconst 1, 1) := by decide +kernel
theorem d_W_grow_59 : decode b_W_grow 59 = .ok (.ladd, 1) := by decide +kernel
theorem d_W_grow_60 : decode b_W_grow 60 = .ok (.lstore 8, 2) := by decide +kernel
theorem d_W_grow_62 : decode b_W_grow 62 = .ok (.lload 8, 2) := by decide +kernel
theorem d_W_grow_64 : decode b_W_grow 64 = .ok (.lload 6, 2) := by decide +kernel
theorem d_W_grow_66 : decode b_W_grow 66 = .ok (.lneg, 1) := by decide +kernel
theorem d_W_grow_67 : decode b_W_grow 67 = .ok (.land, 1) := by decide +kernel
theorem d_W_grow_68 : decode b_W_grow 68 = .ok (.lload_n 3, 1) := by decide +kernel
theorem d_W_grow_69 : decode b_W_grow 69 = .ok (.ladd, 1) := by decide +kernel
theorem d_W_grow_70 : decode b_W_grow 70 = .ok (.lstore 10, 2) := by decide +kernel
theorem d_W_grow_72 : decode b_W_grow 72 = .ok (.ldc2_w 125, 3) := by decide +kernel
theorem d_W_grow_75 : decode b_W_grow 75 = .ok (.lstore 12, 2) := by decide +kernel
theorem d_W_grow_77 : decode b_W_grow 77 = .ok (.iconst (-1), 1) := by decide +kernel
theorem d_W_grow_78 : decode b_W_grow 78 = .ok (.istore 14, 2) := by decide +kernel
theorem d_W_grow_80 : decode b_W_grow 80 = .ok (.iload 14, 2) := by decide +kernel
theorem d_W_grow_82 : decode b_W_grow 82 = .ok (.iconst 1, 1) := by decide +kernel
theorem d_W_grow_83 : decode b_W_grow 83 = .ok (.if_icmp .gt 59, 3) := by decide +kernel
theorem d_W_grow_86 : decode b_W_grow 86 = .ok (.lload 10, 2) := by decide +kernel
theorem d_W_grow_88 : decode b_W_grow 88 = .ok (.iload 14, 2) := by decide +kernel
theorem d_W_grow_90 : decode b_W_grow 90 = .ok (.i2l, 1) := by decide +kernel
theorem d_W_grow_91 : decode b_W_grow 91 = .ok (.lload 6, 2) := by decide +kernel
theorem d_W_grow_93 : decode b_W_grow 93 = .ok (.lmul, 1) := by decide +kernel
theorem d_W_grow_94 : decode b_W_grow 94 = .ok (.ladd, 1) := by decide +kernel
theorem d_W_grow_95 : decode b_W_grow 95 = .ok (.lstore 15, 2) := by decide +kernel
theorem d_W_grow_97 : decode b_W_grow 97 = .ok (.lload 15, 2) := by decide +kernel
theorem d_W_grow_99 : decode b_W_grow 99 = .ok (.invokestatic 78, 3) := by decide +kernel
theorem d_W_grow_102 : decode b_W_grow 102 = .ok (.ifCond .eq 34, 3) := by decide +kernel
theorem d_W_grow_105 : decode b_W_grow 105 = .ok (.lload 12, 2) := by decide +kernel
theorem d_W_grow_107 : decode b_W_grow 107 = .ok (.lconst 0, 1) := by decide +kernel
theorem d_W_grow_108 : decode b_W_grow 108 = .ok (.lcmp, 1) := by decide +kernel
theorem d_W_grow_109 : decode b_W_grow 109 = .ok (.ifCond .lt 23, 3) := by decide +kernel
theorem d_W_grow_112 : decode b_W_grow 112 = .ok (.lload 15, 2) := by decide +kernel
theorem d_W_grow_114 : decode b_W_grow 114 = .ok (.lload 8, 2) := by decide +kernel
theorem d_W_grow_116 : decode b_W_grow 116 = .ok (.lsub, 1) := by decide +kernel
theorem d_W_grow_117 : decode b_W_grow 117 = .ok (.invokestatic 280, 3) := by decide +kernel
theorem d_W_grow_120 : decode b_W_grow 120 = .ok (.lload 12, 2) := by decide +kernel
theorem d_W_grow_122 : decode b_W_grow 122 = .ok (.lload 8, 2) := by decide +kernel
theorem d_W_grow_124 : decode b_W_grow 124 = .ok (.lsub, 1) := by decide +kernel
theorem d_W_grow_125 : decode b_W_grow 125 = .ok (.invokestatic 280, 3) := by decide +kernel
theorem d_W_grow_128 : decode b_W_grow 128 = .ok (.lcmp, 1) := by decide +kernel
theorem d_W_grow_129 : decode b_W_grow 129 = .ok (.ifCond .gt 7, 3) := by decide +kernel
theorem d_W_grow_132 : decode b_W_grow 132 = .ok (.lload 15, 2) := by decide +kernel
theorem d_W_grow_134 : decode b_W_grow 134 = .ok (.lstore 12, 2) := by decide +kernel
theorem d_W_grow_136 : decode b_W_grow 136 = .ok (.iinc 14 1, 3) := by decide +kernel
theorem d_W_grow_139 : decode b_W_grow 139 = .ok (.goto (-59), 3) := by decide +kernel
theorem d_W_grow_142 : decode b_W_grow 142 = .ok (.lload 12, 2) := by decide +kernel
theorem d_W_grow_144 : decode b_W_grow 144 = .ok (.lreturn, 1) := by decide +kernel
theorem zy_W_keepWritten : zy y_W_keepWritten b_W_keepWritten 1 (some .int) 0 := ⟨zmem 431 (by decide +kernel) (by decide +kernel), zmem 62 (by decide +kernel) (by decide +kernel), by decide +kernel⟩
theorem zv_W_keepWritten : Cond.instanceMethod y_W_keepWritten ∈ ztb ∧ Cond.selects y_W_keepWritten.cls y_W_keepWritten y_W_keepWritten ∈ ztb := ⟨zmem 430 (by decide +kernel) (by decide +kernel), zmem 1 (by decide +kernel) (by decide +kernel)⟩
theorem d_W_keepWritten_0 : decode b_W_keepWritten 0 = .ok (.aload_n 0, 1) := by decide +kernel
theorem d_W_keepWritten_1 : decode b_W_keepWritten 1 = .ok (.getfield 12, 3) := by decide +kernel
theorem d_W_keepWritten_4 : decode b_W_keepWritten 4 = .ok (.invokevirtual 303, 3) := by decide +kernel
theorem d_W_keepWritten_7 : decode b_W_keepWritten 7 = .ok (.ifCond .ne 14, 3) := by decide +kernel
theorem d_W_keepWritten_10 : decode b_W_keepWritten 10 = .ok (.new 207, 3) := by decide +kernel
theorem d_W_keepWritten_13 : decode b_W_keepWritten 13 = .ok (.dup, 1) := by decide +kernel
theorem d_W_keepWritten_14 : decode b_W_keepWritten 14 = .ok (.ldc_w 307, 3) := by decide +kernel
theorem d_W_keepWritten_17 : decode b_W_keepWritten 17 = .ok (.invokespecial 211, 3) := by decide +kernel
theorem d_W_keepWritten_20 : decode b_W_keepWritten 20 = .ok (.athrow, 1) := by decide +kernel
theorem d_W_keepWritten_21 : decode b_W_keepWritten 21 = .ok (.aload_n 0, 1) := by decide +kernel
theorem d_W_keepWritten_22 : decode b_W_keepWritten 22 = .ok (.getfield 12, 3) := by decide +kernel
theorem d_W_keepWritten_25 : decode b_W_keepWritten 25 = .ok (.getfield 95, 3) := by decide +kernel
theorem d_W_keepWritten_28 : decode b_W_keepWritten 28 = .ok (.ireturn, 1) := by decide +kernel
theorem zy_W_startAtFrame : zy y_W_startAtFrame b_W_startAtFrame 2 none 1 := ⟨zmem 655 (by decide +kernel) (by decide +kernel), zmem 62 (by decide +kernel) (by decide +kernel), by decide +kernel⟩
theorem zv_W_startAtFrame : Cond.instanceMethod y_W_startAtFrame ∈ ztb ∧ Cond.selects y_W_startAtFrame.cls y_W_startAtFrame y_W_startAtFrame ∈ ztb := ⟨zmem 654 (by decide +kernel) (by decide +kernel), zmem 12 (by decide +kernel) (by decide +kernel)⟩
theorem d_W_startAtFrame_0 : decode b_W_startAtFrame 0 = .ok (.iload_n 1, 1) := by decide +kernel
theorem d_W_startAtFrame_1 : decode b_W_startAtFrame 1 = .ok (.ifCond .lt 14, 3) := by decide +kernel
theorem d_W_startAtFrame_4 : decode b_W_startAtFrame 4 = .ok (.iload_n 1, 1) := by decide +kernel
theorem d_W_startAtFrame_5 : decode b_W_startAtFrame 5 = .ok (.aload_n 0, 1) := by decide +kernel
theorem d_W_startAtFrame_6 : decode b_W_startAtFrame 6 = .ok (.getfield 28, 3) := by decide +kernel
theorem d_W_startAtFrame_9 : decode b_W_startAtFrame 9 = .ok (.getfield 152, 3) := by decide +kernel
theorem d_W_startAtFrame_12 : decode b_W_startAtFrame 12 = .ok (.if_icmp .lt 14, 3) := by decide +kernel
theorem d_W_startAtFrame_15 : decode b_W_startAtFrame 15 = .ok (.new 164, 3) := by decide +kernel
theorem d_W_startAtFrame_18 : decode b_W_startAtFrame 18 = .ok (.dup, 1) := by decide +kernel
theorem d_W_startAtFrame_19 : decode b_W_startAtFrame 19 = .ok (.ldc_w 315, 3) := by decide +kernel
theorem d_W_startAtFrame_22 : decode b_W_startAtFrame 22 = .ok (.invokespecial 168, 3) := by decide +kernel
theorem d_W_startAtFrame_25 : decode b_W_startAtFrame 25 = .ok (.athrow, 1) := by decide +kernel
theorem d_W_startAtFrame_26 : decode b_W_startAtFrame 26 = .ok (.aload_n 0, 1) := by decide +kernel
theorem d_W_startAtFrame_27 : decode b_W_startAtFrame 27 = .ok (.getfield 21, 3) := by decide +kernel
theorem d_W_startAtFrame_30 : decode b_W_startAtFrame 30 = .ok (.aload_n 0, 1) := by decide +kernel
theorem d_W_startAtFrame_31 : decode b_W_startAtFrame 31 = .ok (.getfield 28, 3) := by decide +kernel
theorem d_W_startAtFrame_34 : decode b_W_startAtFrame 34 = .ok (.iload_n 1, 1) := by decide +kernel
theorem d_W_startAtFrame_35 : decode b_W_startAtFrame 35 = .ok (.invokevirtual 257, 3) := by decide +kernel
theorem d_W_startAtFrame_38 : decode b_W_startAtFrame 38 = .ok (.aload_n 0, 1) := by decide +kernel
theorem d_W_startAtFrame_39 : decode b_W_startAtFrame 39 = .ok (.getfield 28, 3) := by decide +kernel
theorem d_W_startAtFrame_42 : decode b_W_startAtFrame 42 = .ok (.getfield 132, 3) := by decide +kernel
theorem d_W_startAtFrame_45 : decode b_W_startAtFrame 45 = .ok (.invokevirtual 114, 3) := by decide +kernel
theorem d_W_startAtFrame_48 : decode b_W_startAtFrame 48 = .ok (.return_, 1) := by decide +kernel
theorem zy_D_empty : zy y_D_empty b_D_empty 1 none 0 := ⟨zmem 327 (by decide +kernel) (by decide +kernel), zmem 68 (by decide +kernel) (by decide +kernel), by decide +kernel⟩
theorem zv_D_empty : Cond.instanceMethod y_D_empty ∈ ztb ∧ Cond.selects y_D_empty.cls y_D_empty y_D_empty ∈ ztb := ⟨zmem 325 (by decide +kernel) (by decide +kernel), zmem 326 (by decide +kernel) (by decide +kernel)⟩
theorem d_D_empty_0 : decode b_D_empty 0 = .ok (.aload_n 0, 1) := by decide +kernel
theorem d_D_empty_1 : decode b_D_empty 1 = .ok (.getfield 9, 3) := by decide +kernel
theorem d_D_empty_4 : decode b_D_empty 4 = .ok (.lconst 0, 1) := by decide +kernel
theorem d_D_empty_5 : decode b_D_empty 5 = .ok (.invokestatic 25, 3) := by decide +kernel
theorem d_D_empty_8 : decode b_D_empty 8 = .ok (.aload_n 0, 1) := by decide +kernel
theorem d_D_empty_9 : decode b_D_empty 9 = .ok (.iconst 0, 1) := by decide +kernel
theorem d_D_empty_10 : decode b_D_empty 10 = .ok (.putfield 31, 3) := by decide +kernel
theorem d_D_empty_13 : decode b_D_empty 13 = .ok (.aload_n 0, 1) := by decide +kernel
theorem d_D_empty_14 : decode b_D_empty 14 = .ok (.iconst 0, 1) := by decide +kernel
theorem d_D_empty_15 : decode b_D_empty 15 = .ok (.putfield 35, 3) := by decide +kernel
theorem d_D_empty_18 : decode b_D_empty 18 = .ok (.return_, 1) := by decide +kernel
theorem zy_D_isFrame : zy y_D_isFrame b_D_isFrame 2 (some .boolean) 1 := ⟨zmem 727 (by decide +kernel) (by decide +kernel), zmem 68 (by decide +kernel) (by decide +kernel), by decide +kernel⟩
theorem zv_D_isFrame : Cond.instanceMethod y_D_isFrame ∈ ztb ∧ Cond.selects y_D_isFrame.cls y_D_isFrame y_D_isFrame ∈ ztb := ⟨zmem 725 (by decide +kernel) (by decide +kernel), zmem 726 (by decide +kernel) (by decide +kernel)⟩
theorem d_D_isFrame_0 : decode b_D_isFrame 0 = .ok (.iload_n 1, 1) := by decide +kernel
theorem d_D_isFrame_1 : decode b_D_isFrame 1 = .ok (.ifCond .lt 21, 3) := by decide +kernel
theorem d_D_isFrame_4 : decode b_D_isFrame 4 = .ok (.iload_n 1, 1) := by decide +kernel
theorem d_D_isFrame_5 : decode b_D_isFrame 5 = .ok (.bipush 30, 2) := by decide +kernel
theorem d_D_isFrame_7 : decode b_D_isFrame 7 = .ok (.if_icmp .gt 15, 3) := by decide +kernel
theorem d_D_isFrame_10 : decode b_D_isFrame 10 = .ok (.iload_n 1, 1) := by decide +kernel
theorem d_D_isFrame_11 : decode b_D_isFrame 11 = .ok (.bipush 8, 2) := by decide +kernel
theorem d_D_isFrame_13 : decode b_D_isFrame 13 = .ok (.if_icmp .le 11, 3) := by decide +kernel
theorem d_D_isFrame_16 : decode b_D_isFrame 16 = .ok (.iload_n 1, 1) := by decide +kernel
theorem d_D_isFrame_17 : decode b_D_isFrame 17 = .ok (.bipush 15, 2) := by decide +kernel
theorem d_D_isFrame_19 : decode b_D_isFrame 19 = .ok (.if_icmp .gt 5, 3) := by decide +kernel
theorem d_D_isFrame_22 : decode b_D_isFrame 22 = .ok (.iconst 0, 1) := by decide +kernel
theorem d_D_isFrame_23 : decode b_D_isFrame 23 = .ok (.ireturn, 1) := by decide +kernel
theorem d_D_isFrame_24 : decode b_D_isFrame 24 = .ok (.iload_n 1, 1) := by decide +kernel
theorem d_D_isFrame_25 : decode b_D_isFrame 25 = .ok (.tableswitch 144 0 8 #[51, 144, 81, 86, 144, 144, 144, 144, 106], 51) := by decide +kernel
theorem d_D_isFrame_76 : decode b_D_isFrame 76 = .ok (.aload_n 0, 1) := by decide +kernel
theorem d_D_isFrame_77 : decode b_D_isFrame 77 = .ok (.getfield 9, 3) := by decide +kernel
theorem d_D_isFrame_80 : decode b_D_isFrame 80 = .ok (.iconst 0, 1) := by decide +kernel
theorem d_D_isFrame_81 : decode b_D_isFrame 81 = .ok (.laload, 1) := by decide +kernel
theorem d_D_isFrame_82 : decode b_D_isFrame 82 = .ok (.lconst 1, 1) := by decide +kernel
theorem d_D_isFrame_83 : decode b_D_isFrame 83 = .ok (.lcmp, 1) := by decide +kernel
theorem d_D_isFrame_84 : decode b_D_isFrame 84 = .ok (.ifCond .lt 20, 3) := by decide +kernel
theorem d_D_isFrame_87 : decode b_D_isFrame 87 = .ok (.aload_n 0, 1) := by decide +kernel
theorem d_D_isFrame_88 : decode b_D_isFrame 88 = .ok (.getfield 9, 3) := by decide +kernel
theorem d_D_isFrame_91 : decode b_D_isFrame 91 = .ok (.iconst 0, 1) := by decide +kernel
theorem d_D_isFrame_92 : decode b_D_isFrame 92 = .ok (.laload, 1) := by decide +kernel
theorem d_D_isFrame_93 : decode b_D_isFrame 93 = .ok (.ldc2_w 40, 3) := by decide +kernel
theorem d_D_isFrame_96 : decode b_D_isFrame 96 = .ok (.lcmp, 1) := by decide +kernel
theorem d_D_isFrame_97 : decode b_D_isFrame 97 = .ok (.ifCond .gt 7, 3) := by decide +kernel
theorem d_D_isFrame_100 : decode b_D_isFrame 100 = .ok (.iconst 1, 1) := by decide +kernel
theorem d_D_isFrame_101 : decode b_D_isFrame 101 = .ok (.goto 4, 3) := by decide +kernel
theorem d_D_isFrame_104 : decode b_D_isFrame 104 = .ok (.iconst 0, 1) := by decide +kernel
theorem d_D_isFrame_105 : decode b_D_isFrame 105 = .ok (.ireturn, 1) := by decide +kernel
theorem d_D_isFrame_106 : decode b_D_isFrame 106 = .ok (.aload_n 0, 1) := by decide +kernel
theorem d_D_isFrame_107 : decode b_D_isFrame 107 = .ok (.invokevirtual 42, 3) := by decide +kernel
theorem d_D_isFrame_110 : decode b_D_isFrame 110 = .ok (.ireturn, 1) := by decide +kernel
theorem d_D_isFrame_111 : decode b_D_isFrame 111 = .ok (.aload_n 0, 1) := by decide +kernel
theorem d_D_isFrame_112 : decode b_D_isFrame 112 = .ok (.invokevirtual 42, 3) := by decide +kernel
theorem d_D_isFrame_115 : decode b_D_isFrame 115 = .ok (.ifCond .eq 14, 3) := by decide +kernel
theorem d_D_isFrame_118 : decode b_D_isFrame 118 = .ok (.aload_n 0, 1) := by decide +kernel
theorem d_D_isFrame_119 : decode b_D_isFrame 119 = .ok (.invokevirtual 46, 3) := by decide +kernel
theorem d_D_isFrame_122 : decode b_D_isFrame 122 = .ok (.ifCond .eq 7, 3) := by decide +kernel
theorem d_D_isFrame_125 : decode b_D_isFrame 125 = .ok (.iconst 1, 1) := by decide +kernel
theorem d_D_isFrame_126 : decode b_D_isFrame 126 = .ok (.goto 4, 3) := by decide +kernel
theorem d_D_isFrame_129 : decode b_D_isFrame 129 = .ok (.iconst 0, 1) := by decide +kernel
theorem d_D_isFrame_130 : decode b_D_isFrame 130 = .ok (.ireturn, 1) := by decide +kernel
theorem d_D_isFrame_131 : decode b_D_isFrame 131 = .ok (.aload_n 0, 1) := by decide +kernel
theorem d_D_isFrame_132 : decode b_D_isFrame 132 = .ok (.getfield 9, 3) := by decide +kernel
theorem d_D_isFrame_135 : decode b_D_isFrame 135 = .ok (.iconst 2, 1) := by decide +kernel
theorem d_D_isFrame_136 : decode b_D_isFrame 136 = .ok (.laload, 1) := by decide +kernel
theorem d_D_isFrame_137 : decode b_D_isFrame 137 = .ok (.invokestatic 49, 3) := by decide +kernel
theorem d_D_isFrame_140 : decode b_D_isFrame 140 = .ok (.ifCond .eq 27, 3) := by decide +kernel
theorem d_D_isFrame_143 : decode b_D_isFrame 143 = .ok (.aload_n 0, 1) := by decide +kernel
theorem d_D_isFrame_144 : decode b_D_isFrame 144 = .ok (.getfield 9, 3) := by decide +kernel
theorem d_D_isFrame_147 : decode b_D_isFrame 147 = .ok (.iconst 3, 1) := by decide +kernel
theorem d_D_isFrame_148 : decode b_D_isFrame 148 = .ok (.laload, 1) := by decide +kernel
theorem d_D_isFrame_149 : decode b_D_isFrame 149 = .ok (.invokestatic 49, 3) := by decide +kernel
theorem d_D_isFrame_152 : decode b_D_isFrame 152 = .ok (.ifCond .eq 15, 3) := by decide +kernel
theorem d_D_isFrame_155 : decode b_D_isFrame 155 = .ok (.aload_n 0, 1) := by decide +kernel
theorem d_D_isFrame_156 : decode b_D_isFrame 156 = .ok (.iload_n 1, 1) := by decide +kernel
theorem d_D_isFrame_157 : decode b_D_isFrame 157 = .ok (.invokevirtual 53, 3) := by decide +kernel
theorem d_D_isFrame_160 : decode b_D_isFrame 160 = .ok (.ifCond .eq 7, 3) := by decide +kernel
theorem d_D_isFrame_163 : decode b_D_isFrame 163 = .ok (.iconst 1, 1) := by decide +kernel
theorem d_D_isFrame_164 : decode b_D_isFrame 164 = .ok (.goto 4, 3) := by decide +kernel
theorem d_D_isFrame_167 : decode b_D_isFrame 167 = .ok (.iconst 0, 1) := by decide +kernel
theorem d_D_isFrame_168 : decode b_D_isFrame 168 = .ok (.ireturn, 1) := by decide +kernel
theorem d_D_isFrame_169 : decode b_D_isFrame 169 = .ok (.aload_n 0, 1) := by decide +kernel
theorem d_D_isFrame_170 : decode b_D_isFrame 170 = .ok (.iload_n 1, 1) := by decide +kernel
theorem d_D_isFrame_171 : decode b_D_isFrame 171 = .ok (.invokevirtual 53, 3) := by decide +kernel
theorem d_D_isFrame_174 : decode b_D_isFrame 174 = .ok (.ireturn, 1) := by decide +kernel
theorem zy_F_forget : zy y_F_forget b_F_forget 1 none 0 := ⟨zmem 566 (by decide +kernel) (by decide +kernel), zmem 66 (by decide +kernel) (by decide +kernel), by decide +kernel⟩
theorem zv_F_forget : Cond.instanceMethod y_F_forget ∈ ztb ∧ Cond.selects y_F_forget.cls y_F_forget y_F_forget ∈ ztb := ⟨zmem 565 (by decide +kernel) (by decide +kernel), zmem 4 (by decide +kernel) (by decide +kernel)⟩
theorem d_F_forget_0 : decode b_F_forget 0 = .ok (.aload_n 0, 1) := by decide +kernel
theorem d_F_forget_1 : decode b_F_forget 1 = .ok (.getfield 9, 3) := by decide +kernel
theorem d_F_forget_4 : decode b_F_forget 4 = .ok (.lconst 0, 1) := by decide +kernel
theorem d_F_forget_5 : decode b_F_forget 5 = .ok (.invokestatic 62, 3) := by decide +kernel
theorem d_F_forget_8 : decode b_F_forget 8 = .ok (.aload_n 0, 1) := by decide +kernel
theorem d_F_forget_9 : decode b_F_forget 9 = .ok (.iconst 0, 1) := by decide +kernel
theorem d_F_forget_10 : decode b_F_forget 10 = .ok (.putfield 68, 3) := by decide +kernel
theorem d_F_forget_13 : decode b_F_forget 13 = .ok (.aload_n 0, 1) := by decide +kernel
theorem d_F_forget_14 : decode b_F_forget 14 = .ok (.lconst 0, 1) := by decide +kernel
theorem d_F_forget_15 : decode b_F_forget 15 = .ok (.putfield 45, 3) := by decide +kernel
theorem d_F_forget_18 : decode b_F_forget 18 = .ok (.return_, 1) := by decide +kernel
theorem zy_F_takeData : zy y_F_takeData b_F_takeData 4 none 2 := ⟨zmem 589 (by decide +kernel) (by decide +kernel), zmem 66 (by decide +kernel) (by decide +kernel), by decide +kernel⟩
theorem zv_F_takeData : Cond.instanceMethod y_F_takeData ∈ ztb ∧ Cond.selects y_F_takeData.cls y_F_takeData y_F_takeData ∈ ztb := ⟨zmem 588 (by decide +kernel) (by decide +kernel), zmem 6 (by decide +kernel) (by decide +kernel)⟩
theorem d_F_takeData_0 : decode b_F_takeData 0 = .ok (.aload_n 0, 1) := by decide +kernel
theorem d_F_takeData_1 : decode b_F_takeData 1 = .ok (.aload_n 1, 1) := by decide +kernel
theorem d_F_takeData_2 : decode b_F_takeData 2 = .ok (.lload_n 2, 1) := by decide +kernel
theorem d_F_takeData_3 : decode b_F_takeData 3 = .ok (.invokevirtual 94, 3) := by decide +kernel
theorem d_F_takeData_6 : decode b_F_takeData 6 = .ok (.putfield 101, 3) := by decide +kernel
theorem d_F_takeData_9 : decode b_F_takeData 9 = .ok (.aload_n 0, 1) := by decide +kernel
theorem d_F_takeData_10 : decode b_F_takeData 10 = .ok (.getfield 9, 3) := by decide +kernel
theorem d_F_takeData_13 : decode b_F_takeData 13 = .ok (.iconst 5, 1) := by decide +kernel
theorem d_F_takeData_14 : decode b_F_takeData 14 = .ok (.lload_n 2, 1) := by decide +kernel
theorem d_F_takeData_15 : decode b_F_takeData 15 = .ok (.lastore, 1) := by decide +kernel
theorem d_F_takeData_16 : decode b_F_takeData 16 = .ok (.return_, 1) := by decide +kernel
theorem zy_F_takeStream : zy y_F_takeStream b_F_takeStream 3 none 2 := ⟨zmem 617 (by decide +kernel) (by decide +kernel), zmem 66 (by decide +kernel) (by decide +kernel), by decide +kernel⟩
theorem zv_F_takeStream : Cond.instanceMethod y_F_takeStream ∈ ztb ∧ Cond.selects y_F_takeStream.cls y_F_takeStream y_F_takeStream ∈ ztb := ⟨zmem 616 (by decide +kernel) (by decide +kernel), zmem 10 (by decide +kernel) (by decide +kernel)⟩
theorem d_F_takeStream_0 : decode b_F_takeStream 0 = .ok (.aload_n 0, 1) := by decide +kernel
theorem d_F_takeStream_1 : decode b_F_takeStream 1 = .ok (.getfield 9, 3) := by decide +kernel
theorem d_F_takeStream_4 : decode b_F_takeStream 4 = .ok (.iconst 2, 1) := by decide +kernel
theorem d_F_takeStream_5 : decode b_F_takeStream 5 = .ok (.iload_n 2, 1) := by decide +kernel
theorem d_F_takeStream_6 : decode b_F_takeStream 6 = .ok (.iconst 1, 1) := by decide +kernel
theorem d_F_takeStream_7 : decode b_F_takeStream 7 = .ok (.iand, 1) := by decide +kernel
theorem d_F_takeStream_8 : decode b_F_takeStream 8 = .ok (.i2l, 1) := by decide +kernel
theorem d_F_takeStream_9 : decode b_F_takeStream 9 = .ok (.lastore, 1) := by decide +kernel
theorem d_F_takeStream_10 : decode b_F_takeStream 10 = .ok (.iload_n 2, 1) := by decide +kernel
theorem d_F_takeStream_11 : decode b_F_takeStream 11 = .ok (.iconst 2, 1) := by decide +kernel
theorem d_F_takeStream_12 : decode b_F_takeStream 12 = .ok (.iand, 1) := by decide +kernel
theorem d_F_takeStream_13 : decode b_F_takeStream 13 = .ok (.ifCond .eq 13, 3) := by decide +kernel
theorem d_F_takeStream_16 : decode b_F_takeStream 16 = .ok (.aload_n 0, 1) := by decide +kernel
theorem d_F_takeStream_17 : decode b_F_takeStream 17 = .ok (.getfield 9, 3) := by decide +kernel
theorem d_F_takeStream_20 : decode b_F_takeStream 20 = .ok (.iconst 3, 1) := by decide +kernel
theorem d_F_takeStream_21 : decode b_F_takeStream 21 = .ok (.lconst 1, 1) := by decide +kernel
theorem d_F_takeStream_22 : decode b_F_takeStream 22 = .ok (.lastore, 1) := by decide +kernel
theorem d_F_takeStream_23 : decode b_F_takeStream 23 = .ok (.goto 13, 3) := by decide +kernel
theorem d_F_takeStream_26 : decode b_F_takeStream 26 = .ok (.aload_n 0, 1) := by decide +kernel
theorem d_F_takeStream_27 : decode b_F_takeStream 27 = .ok (.aload_n 1, 1) := by decide +kernel
theorem d_F_takeStream_28 : decode b_F_takeStream 28 = .ok (.aload_n 1, 1) := by decide +kernel
theorem d_F_takeStream_29 : decode b_F_takeStream 29 = .ok (.invokevirtual 104, 3) := by decide +kernel
theorem d_F_takeStream_32 : decode b_F_takeStream 32 = .ok (.i2l, 1) := by decide +kernel
theorem d_F_takeStream_33 : decode b_F_takeStream 33 = .ok (.invokevirtual 71, 3) := by decide +kernel
theorem d_F_takeStream_36 : decode b_F_takeStream 36 = .ok (.return_, 1) := by decide +kernel
theorem zy_H_goesTo : zy y_H_goesTo b_H_goesTo 6 (some .boolean) 3 := ⟨zmem 827 (by decide +kernel) (by decide +kernel), zmem 67 (by decide +kernel) (by decide +kernel), by decide +kernel⟩
theorem zv_H_goesTo : Cond.instanceMethod y_H_goesTo ∈ ztb ∧ Cond.selects y_H_goesTo.cls y_H_goesTo y_H_goesTo ∈ ztb := ⟨zmem 825 (by decide +kernel) (by decide +kernel), zmem 826 (by decide +kernel) (by decide +kernel)⟩
theorem d_H_goesTo_0 : decode b_H_goesTo 0 = .ok (.aload_n 0, 1) := by decide +kernel
theorem d_H_goesTo_1 : decode b_H_goesTo 1 = .ok (.getfield 9, 3) := by decide +kernel
theorem d_H_goesTo_4 : decode b_H_goesTo 4 = .ok (.bipush 7, 2) := by decide +kernel
theorem d_H_goesTo_6 : decode b_H_goesTo 6 = .ok (.iaload, 1) := by decide +kernel
theorem d_H_goesTo_7 : decode b_H_goesTo 7 = .ok (.iload_n 3, 1) := by decide +kernel
theorem d_H_goesTo_8 : decode b_H_goesTo 8 = .ok (.if_icmp .ne 7, 3) := by decide +kernel
theorem d_H_goesTo_11 : decode b_H_goesTo 11 = .ok (.iconst 1, 1) := by decide +kernel
theorem d_H_goesTo_12 : decode b_H_goesTo 12 = .ok (.goto 4, 3) := by decide +kernel
theorem d_H_goesTo_15 : decode b_H_goesTo 15 = .ok (.iconst 0, 1) := by decide +kernel
theorem d_H_goesTo_16 : decode b_H_goesTo 16 = .ok (.istore 4, 2) := by decide +kernel
theorem d_H_goesTo_18 : decode b_H_goesTo 18 = .ok (.iconst 0, 1) := by decide +kernel
theorem d_H_goesTo_19 : decode b_H_goesTo 19 = .ok (.istore 5, 2) := by decide +kernel
theorem d_H_goesTo_21 : decode b_H_goesTo 21 = .ok (.iload 4, 2) := by decide +kernel
theorem d_H_goesTo_23 : decode b_H_goesTo 23 = .ok (.ifCond .eq 47, 3) := by decide +kernel
theorem d_H_goesTo_26 : decode b_H_goesTo 26 = .ok (.iload 5, 2) := by decide +kernel
theorem d_H_goesTo_28 : decode b_H_goesTo 28 = .ok (.iload_n 3, 1) := by decide +kernel
theorem d_H_goesTo_29 : decode b_H_goesTo 29 = .ok (.if_icmp .ge 41, 3) := by decide +kernel
theorem d_H_goesTo_32 : decode b_H_goesTo 32 = .ok (.aload_n 1, 1) := by decide +kernel
theorem d_H_goesTo_33 : decode b_H_goesTo 33 = .ok (.aload_n 0, 1) := by decide +kernel
theorem d_H_goesTo_34 : decode b_H_goesTo 34 = .ok (.getfield 9, 3) := by decide +kernel
theorem d_H_goesTo_37 : decode b_H_goesTo 37 = .ok (.bipush 6, 2) := by decide +kernel
theorem d_H_goesTo_39 : decode b_H_goesTo 39 = .ok (.iaload, 1) := by decide +kernel
theorem d_H_goesTo_40 : decode b_H_goesTo 40 = .ok (.iload 5, 2) := by decide +kernel
theorem d_H_goesTo_42 : decode b_H_goesTo 42 = .ok (.iadd, 1) := by decide +kernel
theorem d_H_goesTo_43 : decode b_H_goesTo 43 = .ok (.invokevirtual 43, 3) := by decide +kernel
theorem d_H_goesTo_46 : decode b_H_goesTo 46 = .ok (.aload_n 1, 1) := by decide +kernel
theorem d_H_goesTo_47 : decode b_H_goesTo 47 = .ok (.iload_n 2, 1) := by decide +kernel
theorem d_H_goesTo_48 : decode b_H_goesTo 48 = .ok (.iload 5, 2) := by decide +kernel
theorem d_H_goesTo_50 : decode b_H_goesTo 50 = .ok (.iadd, 1) := by decide +kernel
theorem d_H_goesTo_51 : decode b_H_goesTo 51 = .ok (.invokevirtual 43, 3) := by decide +kernel
theorem d_H_goesTo_54 : decode b_H_goesTo 54 = .ok (.if_icmp .ne 7, 3) := by decide +kernel
theorem d_H_goesTo_57 : decode b_H_goesTo 57 = .ok (.iconst 1, 1) := by decide +kernel
theorem d_H_goesTo_58 : decode b_H_goesTo 58 = .ok (.goto 4, 3) := by decide +kernel
theorem d_H_goesTo_61 : decode b_H_goesTo 61 = .ok (.iconst 0, 1) := by decide +kernel
theorem d_H_goesTo_62 : decode b_H_goesTo 62 = .ok (.istore 4, 2) := by decide +kernel
theorem d_H_goesTo_64 : decode b_H_goesTo 64 = .ok (.iinc 5 1, 3) := by decide +kernel
theorem d_H_goesTo_67 : decode b_H_goesTo 67 = .ok (.goto (-46), 3) := by decide +kernel
theorem d_H_goesTo_70 : decode b_H_goesTo 70 = .ok (.iload 4, 2) := by decide +kernel
theorem d_H_goesTo_72 : decode b_H_goesTo 72 = .ok (.ireturn, 1) := by decide +kernel
theorem zy_H_parseShort : zy y_H_parseShort b_H_parseShort 4 (some .int) 3 := ⟨zmem 811 (by decide +kernel) (by decide +kernel), zmem 67 (by decide +kernel) (by decide +kernel), by decide +kernel⟩
theorem zv_H_parseShort : Cond.instanceMethod y_H_parseShort ∈ ztb ∧ Cond.selects y_H_parseShort.cls y_H_parseShort y_H_parseShort ∈ ztb := ⟨zmem 810 (by decide +kernel) (by decide +kernel), zmem 22 (by decide +kernel) (by decide +kernel)⟩
theorem d_H_parseShort_0 : decode b_H_parseShort 0 = .ok (.aload_n 0, 1) := by decide +kernel
theorem d_H_parseShort_1 : decode b_H_parseShort 1 = .ok (.getfield 9, 3) := by decide +kernel
theorem d_H_parseShort_4 : decode b_H_parseShort 4 = .ok (.iconst 0, 1) := by decide +kernel
theorem d_H_parseShort_5 : decode b_H_parseShort 5 = .ok (.iconst 4, 1) := by decide +kernel
theorem d_H_parseShort_6 : decode b_H_parseShort 6 = .ok (.iastore, 1) := by decide +kernel
theorem d_H_parseShort_7 : decode b_H_parseShort 7 = .ok (.aload_n 0, 1) := by decide +kernel
theorem d_H_parseShort_8 : decode b_H_parseShort 8 = .ok (.getfield 9, 3) := by decide +kernel
theorem d_H_parseShort_11 : decode b_H_parseShort 11 = .ok (.iconst 1, 1) := by decide +kernel
theorem d_H_parseShort_12 : decode b_H_parseShort 12 = .ok (.iload_n 2, 1) := by decide +kernel
theorem d_H_parseShort_13 : decode b_H_parseShort 13 = .ok (.bipush 63, 2) := by decide +kernel
theorem d_H_parseShort_15 : decode b_H_parseShort 15 = .ok (.iand, 1) := by decide +kernel
theorem d_H_parseShort_16 : decode b_H_parseShort 16 = .ok (.iastore, 1) := by decide +kernel
theorem d_H_parseShort_17 : decode b_H_parseShort 17 = .ok (.aload_n 0, 1) := by decide +kernel
theorem d_H_parseShort_18 : decode b_H_parseShort 18 = .ok (.getfield 9, 3) := by decide +kernel
theorem d_H_parseShort_21 : decode b_H_parseShort 21 = .ok (.bipush 6, 2) := by decide +kernel
theorem d_H_parseShort_23 : decode b_H_parseShort 23 = .ok (.aload_n 1, 1) := by decide +kernel
theorem d_H_parseShort_24 : decode b_H_parseShort 24 = .ok (.iload_n 3, 1) := by decide +kernel
theorem d_H_parseShort_25 : decode b_H_parseShort 25 = .ok (.i2l, 1) := by decide +kernel
theorem d_H_parseShort_26 : decode b_H_parseShort 26 = .ok (.invokevirtual 49, 3) := by decide +kernel
theorem d_H_parseShort_29 : decode b_H_parseShort 29 = .ok (.iastore, 1) := by decide +kernel
theorem d_H_parseShort_30 : decode b_H_parseShort 30 = .ok (.aload_n 0, 1) := by decide +kernel
theorem d_H_parseShort_31 : decode b_H_parseShort 31 = .ok (.getfield 9, 3) := by decide +kernel
theorem d_H_parseShort_34 : decode b_H_parseShort 34 = .ok (.bipush 7, 2) := by decide +kernel
theorem d_H_parseShort_36 : decode b_H_parseShort 36 = .ok (.iload_n 3, 1) := by decide +kernel
theorem d_H_parseShort_37 : decode b_H_parseShort 37 = .ok (.iastore, 1) := by decide +kernel
theorem d_H_parseShort_38 : decode b_H_parseShort 38 = .ok (.aload_n 0, 1) := by decide +kernel
theorem d_H_parseShort_39 : decode b_H_parseShort 39 = .ok (.getfield 9, 3) := by decide +kernel
theorem d_H_parseShort_42 : decode b_H_parseShort 42 = .ok (.iconst 4, 1) := by decide +kernel
theorem d_H_parseShort_43 : decode b_H_parseShort 43 = .ok (.aload_n 1, 1) := by decide +kernel
theorem d_H_parseShort_44 : decode b_H_parseShort 44 = .ok (.getfield 21, 3) := by decide +kernel
theorem d_H_parseShort_47 : decode b_H_parseShort 47 = .ok (.iastore, 1) := by decide +kernel
theorem d_H_parseShort_48 : decode b_H_parseShort 48 = .ok (.aload_n 0, 1) := by decide +kernel
theorem d_H_parseShort_49 : decode b_H_parseShort 49 = .ok (.getfield 9, 3) := by decide +kernel
theorem d_H_parseShort_52 : decode b_H_parseShort 52 = .ok (.iconst 5, 1) := by decide +kernel
theorem d_H_parseShort_53 : decode b_H_parseShort 53 = .ok (.aload_n 1, 1) := by decide +kernel
theorem d_H_parseShort_54 : decode b_H_parseShort 54 = .ok (.getfield 53, 3) := by decide +kernel
theorem d_H_parseShort_57 : decode b_H_parseShort 57 = .ok (.iastore, 1) := by decide +kernel
theorem d_H_parseShort_58 : decode b_H_parseShort 58 = .ok (.aload_n 1, 1) := by decide +kernel
theorem d_H_parseShort_59 : decode b_H_parseShort 59 = .ok (.getfield 31, 3) := by decide +kernel
theorem d_H_parseShort_62 : decode b_H_parseShort 62 = .ok (.ifCond .ne 12, 3) := by decide +kernel
theorem d_H_parseShort_65 : decode b_H_parseShort 65 = .ok (.aload_n 1, 1) := by decide +kernel
theorem d_H_parseShort_66 : decode b_H_parseShort 66 = .ok (.invokevirtual 56, 3) := by decide +kernel
theorem d_H_parseShort_69 : decode b_H_parseShort 69 = .ok (.bipush 20, 2) := by decide +kernel
theorem d_H_parseShort_71 : decode b_H_parseShort 71 = .ok (.if_icmp .ge 7, 3) := by decide +kernel
theorem d_H_parseShort_74 : decode b_H_parseShort 74 = .ok (.iconst 1, 1) := by decide +kernel
theorem d_H_parseShort_75 : decode b_H_parseShort 75 = .ok (.goto 4, 3) := by decide +kernel
theorem d_H_parseShort_78 : decode b_H_parseShort 78 = .ok (.iconst 0, 1) := by decide +kernel
theorem d_H_parseShort_79 : decode b_H_parseShort 79 = .ok (.ireturn, 1) := by decide +kernel
theorem zy_R_takeWord : zy y_R_takeWord b_R_takeWord 3 (some .long) 1 := ⟨zmem 571 (by decide +kernel) (by decide +kernel), zmem 64 (by decide +kernel) (by decide +kernel), by decide +kernel⟩
theorem zv_R_takeWord : Cond.instanceMethod y_R_takeWord ∈ ztb ∧ Cond.selects y_R_takeWord.cls y_R_takeWord y_R_takeWord ∈ ztb := ⟨zmem 569 (by decide +kernel) (by decide +kernel), zmem 570 (by decide +kernel) (by decide +kernel)⟩
theorem d_R_takeWord_0 : decode b_R_takeWord 0 = .ok (.aload_n 0, 1) := by decide +kernel
theorem d_R_takeWord_1 : decode b_R_takeWord 1 = .ok (.iload_n 1, 1) := by decide +kernel
theorem d_R_takeWord_2 : decode b_R_takeWord 2 = .ok (.i2l, 1) := by decide +kernel
theorem d_R_takeWord_3 : decode b_R_takeWord 3 = .ok (.invokevirtual 28, 3) := by decide +kernel
theorem d_R_takeWord_6 : decode b_R_takeWord 6 = .ok (.istore_n 2, 1) := by decide +kernel
theorem d_R_takeWord_7 : decode b_R_takeWord 7 = .ok (.aload_n 0, 1) := by decide +kernel
theorem d_R_takeWord_8 : decode b_R_takeWord 8 = .ok (.getfield 20, 3) := by decide +kernel
theorem d_R_takeWord_11 : decode b_R_takeWord 11 = .ok (.ifCond .eq 7, 3) := by decide +kernel
theorem d_R_takeWord_14 : decode b_R_takeWord 14 = .ok (.lconst 0, 1) := by decide +kernel
theorem d_R_takeWord_15 : decode b_R_takeWord 15 = .ok (.goto 12, 3) := by decide +kernel
theorem d_R_takeWord_18 : decode b_R_takeWord 18 = .ok (.aload_n 0, 1) := by decide +kernel
theorem d_R_takeWord_19 : decode b_R_takeWord 19 = .ok (.getfield 7, 3) := by decide +kernel
theorem d_R_takeWord_22 : decode b_R_takeWord 22 = .ok (.iload_n 2, 1) := by decide +kernel
theorem d_R_takeWord_23 : decode b_R_takeWord 23 = .ok (.iload_n 1, 1) := by decide +kernel
theorem d_R_takeWord_24 : decode b_R_takeWord 24 = .ok (.invokevirtual 32, 3) := by decide +kernel
theorem d_R_takeWord_27 : decode b_R_takeWord 27 = .ok (.lreturn, 1) := by decide +kernel
theorem zy_R_takeZeros : zy y_R_takeZeros b_R_takeZeros 3 (some .int) 0 := ⟨zmem 598 (by decide +kernel) (by decide +kernel), zmem 64 (by decide +kernel) (by decide +kernel), by decide +kernel⟩
theorem zv_R_takeZeros : Cond.instanceMethod y_R_takeZeros ∈ ztb ∧ Cond.selects y_R_takeZeros.cls y_R_takeZeros y_R_takeZeros ∈ ztb := ⟨zmem 596 (by decide +kernel) (by decide +kernel), zmem 597 (by decide +kernel) (by decide +kernel)⟩
theorem d_R_takeZeros_0 : decode b_R_takeZeros 0 = .ok (.aload_n 0, 1) := by decide +kernel
theorem d_R_takeZeros_1 : decode b_R_takeZeros 1 = .ok (.getfield 13, 3) := by decide +kernel
theorem d_R_takeZeros_4 : decode b_R_takeZeros 4 = .ok (.istore_n 1, 1) := by decide +kernel
theorem d_R_takeZeros_5 : decode b_R_takeZeros 5 = .ok (.iload_n 1, 1) := by decide +kernel
theorem d_R_takeZeros_6 : decode b_R_takeZeros 6 = .ok (.istore_n 2, 1) := by decide +kernel
theorem d_R_takeZeros_7 : decode b_R_takeZeros 7 = .ok (.iload_n 2, 1) := by decide +kernel
theorem d_R_takeZeros_8 : decode b_R_takeZeros 8 = .ok (.aload_n 0, 1) := by decide +kernel
theorem d_R_takeZeros_9 : decode b_R_takeZeros 9 = .ok (.getfield 17, 3) := by decide +kernel
theorem d_R_takeZeros_12 : decode b_R_takeZeros 12 = .ok (.if_icmp .ge 27, 3) := by decide +kernel
theorem d_R_takeZeros_15 : decode b_R_takeZeros 15 = .ok (.aload_n 0, 1) := by decide +kernel
theorem d_R_takeZeros_16 : decode b_R_takeZeros 16 = .ok (.getfield 7, 3) := by decide +kernel
theorem d_R_takeZeros_19 : decode b_R_takeZeros 19 = .ok (.iload_n 2, 1) := by decide +kernel
theorem d_R_takeZeros_20 : decode b_R_takeZeros 20 = .ok (.invokevirtual 47, 3) := by decide +kernel
theorem d_R_takeZeros_23 : decode b_R_takeZeros 23 = .ok (.ifCond .ne 16, 3) := by decide +kernel
theorem d_R_takeZeros_26 : decode b_R_takeZeros 26 = .ok (.aload_n 0, 1) := by decide +kernel
theorem d_R_takeZeros_27 : decode b_R_takeZeros 27 = .ok (.iload_n 2, 1) := by decide +kernel
theorem d_R_takeZeros_28 : decode b_R_takeZeros 28 = .ok (.iconst 1, 1) := by decide +kernel
theorem d_R_takeZeros_29 : decode b_R_takeZeros 29 = .ok (.iadd, 1) := by decide +kernel
theorem d_R_takeZeros_30 : decode b_R_takeZeros 30 = .ok (.putfield 13, 3) := by decide +kernel
theorem d_R_takeZeros_33 : decode b_R_takeZeros 33 = .ok (.iinc 2 1, 3) := by decide +kernel
theorem d_R_takeZeros_36 : decode b_R_takeZeros 36 = .ok (.goto (-29), 3) := by decide +kernel
theorem d_R_takeZeros_39 : decode b_R_takeZeros 39 = .ok (.aload_n 0, 1) := by decide +kernel
theorem d_R_takeZeros_40 : decode b_R_takeZeros 40 = .ok (.getfield 13, 3) := by decide +kernel
theorem d_R_takeZeros_43 : decode b_R_takeZeros 43 = .ok (.iload_n 1, 1) := by decide +kernel
theorem d_R_takeZeros_44 : decode b_R_takeZeros 44 = .ok (.isub, 1) := by decide +kernel
theorem d_R_takeZeros_45 : decode b_R_takeZeros 45 = .ok (.ireturn, 1) := by decide +kernel
theorem zy_G_keepPlace : zy y_G_keepPlace b_G_keepPlace 3 none 2 := ⟨zmem 635 (by decide +kernel) (by decide +kernel), zmem 65 (by decide +kernel) (by decide +kernel), by decide +kernel⟩
theorem zv_G_keepPlace : Cond.instanceMethod y_G_keepPlace ∈ ztb ∧ Cond.selects y_G_keepPlace.cls y_G_keepPlace y_G_keepPlace ∈ ztb := ⟨zmem 634 (by decide +kernel) (by decide +kernel), zmem 11 (by decide +kernel) (by decide +kernel)⟩
theorem d_G_keepPlace_0 : decode b_G_keepPlace 0 = .ok (.iload_n 1, 1) := by decide +kernel
theorem d_G_keepPlace_1 : decode b_G_keepPlace 1 = .ok (.aload_n 0, 1) := by decide +kernel
theorem d_G_keepPlace_2 : decode b_G_keepPlace 2 = .ok (.getfield 9, 3) := by decide +kernel
theorem d_G_keepPlace_5 : decode b_G_keepPlace 5 = .ok (.arraylength, 1) := by decide +kernel
theorem d_G_keepPlace_6 : decode b_G_keepPlace 6 = .ok (.if_icmp .lt 31, 3) := by decide +kernel
theorem d_G_keepPlace_9 : decode b_G_keepPlace 9 = .ok (.aload_n 0, 1) := by decide +kernel
theorem d_G_keepPlace_10 : decode b_G_keepPlace 10 = .ok (.getfield 9, 3) := by decide +kernel
theorem d_G_keepPlace_13 : decode b_G_keepPlace 13 = .ok (.arraylength, 1) := by decide +kernel
theorem d_G_keepPlace_14 : decode b_G_keepPlace 14 = .ok (.ldc 38, 2) := by decide +kernel
theorem d_G_keepPlace_16 : decode b_G_keepPlace 16 = .ok (.if_icmp .ge 21, 3) := by decide +kernel
theorem d_G_keepPlace_19 : decode b_G_keepPlace 19 = .ok (.aload_n 0, 1) := by decide +kernel
theorem d_G_keepPlace_20 : decode b_G_keepPlace 20 = .ok (.aload_n 0, 1) := by decide +kernel
theorem d_G_keepPlace_21 : decode b_G_keepPlace 21 = .ok (.getfield 9, 3) := by decide +kernel
theorem d_G_keepPlace_24 : decode b_G_keepPlace 24 = .ok (.iconst 2, 1) := by decide +kernel
theorem d_G_keepPlace_25 : decode b_G_keepPlace 25 = .ok (.aload_n 0, 1) := by decide +kernel
theorem d_G_keepPlace_26 : decode b_G_keepPlace 26 = .ok (.getfield 9, 3) := by decide +kernel
theorem d_G_keepPlace_29 : decode b_G_keepPlace 29 = .ok (.arraylength, 1) := by decide +kernel
theorem d_G_keepPlace_30 : decode b_G_keepPlace 30 = .ok (.imul, 1) := by decide +kernel
theorem d_G_keepPlace_31 : decode b_G_keepPlace 31 = .ok (.invokestatic 39, 3) := by decide +kernel
theorem d_G_keepPlace_34 : decode b_G_keepPlace 34 = .ok (.putfield 9, 3) := by decide +kernel
theorem d_G_keepPlace_37 : decode b_G_keepPlace 37 = .ok (.iload_n 1, 1) := by decide +kernel
theorem d_G_keepPlace_38 : decode b_G_keepPlace 38 = .ok (.ifCond .lt 19, 3) := by decide +kernel
theorem d_G_keepPlace_41 : decode b_G_keepPlace 41 = .ok (.iload_n 1, 1) := by decide +kernel
theorem d_G_keepPlace_42 : decode b_G_keepPlace 42 = .ok (.aload_n 0, 1) := by decide +kernel
theorem d_G_keepPlace_43 : decode b_G_keepPlace 43 = .ok (.getfield 9, 3) := by decide +kernel
theorem d_G_keepPlace_46 : decode b_G_keepPlace 46 = .ok (.arraylength, 1) := by decide +kernel
theorem d_G_keepPlace_47 : decode b_G_keepPlace 47 = .ok (.if_icmp .ge 10, 3) := by decide +kernel
theorem d_G_keepPlace_50 : decode b_G_keepPlace 50 = .ok (.aload_n 0, 1) := by decide +kernel
theorem d_G_keepPlace_51 : decode b_G_keepPlace 51 = .ok (.getfield 9, 3) := by decide +kernel
theorem d_G_keepPlace_54 : decode b_G_keepPlace 54 = .ok (.iload_n 1, 1) := by decide +kernel
theorem d_G_keepPlace_55 : decode b_G_keepPlace 55 = .ok (.iload_n 2, 1) := by decide +kernel
theorem d_G_keepPlace_56 : decode b_G_keepPlace 56 = .ok (.iastore, 1) := by decide +kernel
theorem d_G_keepPlace_57 : decode b_G_keepPlace 57 = .ok (.return_, 1) := by decide +kernel
theorem zy_T_numberAt : zy y_T_numberAt b_T_numberAt 3 (some .long) 2 := ⟨zmem 535 (by decide +kernel) (by decide +kernel), zmem 63 (by decide +kernel) (by decide +kernel), by decide +kernel⟩
theorem zv_T_numberAt : Cond.instanceMethod y_T_numberAt ∈ ztb ∧ Cond.selects y_T_numberAt.cls y_T_numberAt y_T_numberAt ∈ ztb := ⟨zmem 533 (by decide +kernel) (by decide +kernel), zmem 534 (by decide +kernel) (by decide +kernel)⟩
theorem d_T_numberAt_0 : decode b_T_numberAt 0 = .ok (.aload_n 0, 1) := by decide +kernel
theorem d_T_numberAt_1 : decode b_T_numberAt 1 = .ok (.iload_n 1, 1) := by decide +kernel
theorem d_T_numberAt_2 : decode b_T_numberAt 2 = .ok (.iload_n 2, 1) := by decide +kernel
theorem d_T_numberAt_3 : decode b_T_numberAt 3 = .ok (.invokevirtual 19, 3) := by decide +kernel
theorem d_T_numberAt_6 : decode b_T_numberAt 6 = .ok (.lconst 1, 1) := by decide +kernel
theorem d_T_numberAt_7 : decode b_T_numberAt 7 = .ok (.bipush 8, 2) := by decide +kernel
theorem d_T_numberAt_9 : decode b_T_numberAt 9 = .ok (.iload_n 2, 1) := by decide +kernel
theorem d_T_numberAt_10 : decode b_T_numberAt 10 = .ok (.imul, 1) := by decide +kernel
theorem d_T_numberAt_11 : decode b_T_numberAt 11 = .ok (.iconst 2, 1) := by decide +kernel
theorem d_T_numberAt_12 : decode b_T_numberAt 12 = .ok (.isub, 1) := by decide +kernel
theorem d_T_numberAt_13 : decode b_T_numberAt 13 = .ok (.lshl, 1) := by decide +kernel
theorem d_T_numberAt_14 : decode b_T_numberAt 14 = .ok (.lconst 1, 1) := by decide +kernel
theorem d_T_numberAt_15 : decode b_T_numberAt 15 = .ok (.lsub, 1) := by decide +kernel
theorem d_T_numberAt_16 : decode b_T_numberAt 16 = .ok (.land, 1) := by decide +kernel
theorem d_T_numberAt_17 : decode b_T_numberAt 17 = .ok (.lreturn, 1) := by decide +kernel
theorem zy_T_writeByte : zy y_T_writeByte b_T_writeByte 2 none 1 := ⟨zmem 418 (by decide +kernel) (by decide +kernel), zmem 63 (by decide +kernel) (by decide +kernel), by decide +kernel⟩
theorem zv_T_writeByte : Cond.instanceMethod y_T_writeByte ∈ ztb ∧ Cond.selects y_T_writeByte.cls y_T_writeByte y_T_writeByte ∈ ztb := ⟨zmem 416 (by decide +kernel) (by decide +kernel), zmem 417 (by decide +kernel) (by decide +kernel)⟩
theorem d_T_writeByte_0 : decode b_T_writeByte 0 = .ok (.aload_n 0, 1) := by decide +kernel
theorem d_T_writeByte_1 : decode b_T_writeByte 1 = .ok (.getfield 27, 3) := by decide +kernel
theorem d_T_writeByte_4 : decode b_T_writeByte 4 = .ok (.aload_n 0, 1) := by decide +kernel
theorem d_T_writeByte_5 : decode b_T_writeByte 5 = .ok (.getfield 9, 3) := by decide +kernel
theorem d_T_writeByte_8 : decode b_T_writeByte 8 = .ok (.arraylength, 1) := by decide +kernel
theorem d_T_writeByte_9 : decode b_T_writeByte 9 = .ok (.if_icmp .lt 31, 3) := by decide +kernel
theorem d_T_writeByte_12 : decode b_T_writeByte 12 = .ok (.aload_n 0, 1) := by decide +kernel
theorem d_T_writeByte_13 : decode b_T_writeByte 13 = .ok (.getfield 9, 3) := by decide +kernel
theorem d_T_writeByte_16 : decode b_T_writeByte 16 = .ok (.arraylength, 1) := by decide +kernel
theorem d_T_writeByte_17 : decode b_T_writeByte 17 = .ok (.ldc 30, 2) := by decide +kernel
theorem d_T_writeByte_19 : decode b_T_writeByte 19 = .ok (.if_icmp .ge 21, 3) := by decide +kernel
theorem d_T_writeByte_22 : decode b_T_writeByte 22 = .ok (.aload_n 0, 1) := by decide +kernel
theorem d_T_writeByte_23 : decode b_T_writeByte 23 = .ok (.aload_n 0, 1) := by decide +kernel
theorem d_T_writeByte_24 : decode b_T_writeByte 24 = .ok (.getfield 9, 3) := by decide +kernel
theorem d_T_writeByte_27 : decode b_T_writeByte 27 = .ok (.iconst 2, 1) := by decide +kernel
theorem d_T_writeByte_28 : decode b_T_writeByte 28 = .ok (.aload_n 0, 1) := by decide +kernel
theorem d_T_writeByte_29 : decode b_T_writeByte 29 = .ok (.getfield 9, 3) := by decide +kernel
theorem d_T_writeByte_32 : decode b_T_writeByte 32 = .ok (.arraylength, 1) := by decide +kernel
theorem d_T_writeByte_33 : decode b_T_writeByte 33 = .ok (.imul, 1) := by decide +kernel
theorem d_T_writeByte_34 : decode b_T_writeByte 34 = .ok (.invokestatic 31, 3) := by decide +kernel
theorem d_T_writeByte_37 : decode b_T_writeByte 37 = .ok (.putfield 9, 3) := by decide +kernel
theorem d_T_writeByte_40 : decode b_T_writeByte 40 = .ok (.aload_n 0, 1) := by decide +kernel
theorem d_T_writeByte_41 : decode b_T_writeByte 41 = .ok (.getfield 27, 3) := by decide +kernel
theorem d_T_writeByte_44 : decode b_T_writeByte 44 = .ok (.ifCond .lt 26, 3) := by decide +kernel
theorem d_T_writeByte_47 : decode b_T_writeByte 47 = .ok (.aload_n 0, 1) := by decide +kernel
theorem d_T_writeByte_48 : decode b_T_writeByte 48 = .ok (.getfield 27, 3) := by decide +kernel
theorem d_T_writeByte_51 : decode b_T_writeByte 51 = .ok (.aload_n 0, 1) := by decide +kernel
theorem d_T_writeByte_52 : decode b_T_writeByte 52 = .ok (.getfield 9, 3) := by decide +kernel
theorem d_T_writeByte_55 : decode b_T_writeByte 55 = .ok (.arraylength, 1) := by decide +kernel
theorem d_T_writeByte_56 : decode b_T_writeByte 56 = .ok (.if_icmp .ge 14, 3) := by decide +kernel
theorem d_T_writeByte_59 : decode b_T_writeByte 59 = .ok (.aload_n 0, 1) := by decide +kernel
theorem d_T_writeByte_60 : decode b_T_writeByte 60 = .ok (.getfield 9, 3) := by decide +kernel
theorem d_T_writeByte_63 : decode b_T_writeByte 63 = .ok (.aload_n 0, 1) := by decide +kernel
theorem d_T_writeByte_64 : decode b_T_writeByte 64 = .ok (.getfield 27, 3) := by decide +kernel
theorem d_T_writeByte_67 : decode b_T_writeByte 67 = .ok (.iload_n 1, 1) := by decide +kernel
theorem d_T_writeByte_68 : decode b_T_writeByte 68 = .ok (.i2b, 1) := by decide +kernel
theorem d_T_writeByte_69 : decode b_T_writeByte 69 = .ok (.bastore, 1) := by decide +kernel
theorem d_T_writeByte_70 : decode b_T_writeByte 70 = .ok (.aload_n 0, 1) := by decide +kernel
theorem d_T_writeByte_71 : decode b_T_writeByte 71 = .ok (.dup, 1) := by decide +kernel
theorem d_T_writeByte_72 : decode b_T_writeByte 72 = .ok (.getfield 27, 3) := by decide +kernel
theorem d_T_writeByte_75 : decode b_T_writeByte 75 = .ok (.iconst 1, 1) := by decide +kernel
theorem d_T_writeByte_76 : decode b_T_writeByte 76 = .ok (.iadd, 1) := by decide +kernel
theorem d_T_writeByte_77 : decode b_T_writeByte 77 = .ok (.putfield 27, 3) := by decide +kernel
theorem d_T_writeByte_80 : decode b_T_writeByte 80 = .ok (.return_, 1) := by decide +kernel
theorem zin_W_280 : Cond.methodLink R_W 280 Lib.MathLoose.abs_long.x ∈ ztb := zmem 872 (by decide +kernel) (by decide +kernel)
theorem zin_W_303 : Cond.methodLink R_W 303 y_T_endWriting ∈ ztb := zmem 432 (by decide +kernel) (by decide +kernel)
theorem zin_W_152 : Cond.fieldLink R_W 152 "WireCodec$Reading" "frameCount" "I" ∈ ztb := zmem 142 (by decide +kernel) (by decide +kernel)
theorem zin_W_21 : Cond.fieldLink R_W 21 "WireCodec" "reader" "LWireCodec$Reader;" ∈ ztb := zmem 278 (by decide +kernel) (by decide +kernel)
theorem zin_W_257 : Cond.methodLink R_W 257 y_G_placeOf ∈ ztb := zmem 657 (by decide +kernel) (by decide +kernel)
theorem zin_W_132 : Cond.fieldLink R_W 132 "WireCodec$Reading" "limit" "I" ∈ ztb := zmem 146 (by decide +kernel) (by decide +kernel)
theorem zin_W_114 : Cond.methodLink R_W 114 y_R_start ∈ ztb := zmem 519 (by decide +kernel) (by decide +kernel)
theorem zin_D_25 : Cond.methodLink R_D 25 y_Ar_fill_aJJ ∈ ztb := zmem 328 (by decide +kernel) (by decide +kernel)
theorem zin_D_40 : Cond.constantLong R_D 40 (2000 : Int64) ∈ ztb := zmem 728 (by decide +kernel) (by decide +kernel)
theorem zin_D_42 : Cond.methodLink R_D 42 y_D_isAck ∈ ztb := zmem 729 (by decide +kernel) (by decide +kernel)
theorem zin_D_46 : Cond.methodLink R_D 46 y_D_hasCounts ∈ ztb := zmem 734 (by decide +kernel) (by decide +kernel)
theorem zin_D_49 : Cond.methodLink R_D 49 y_D_isBit ∈ ztb := zmem 738 (by decide +kernel) (by decide +kernel)
theorem zin_D_53 : Cond.methodLink R_D 53 y_D_hasShape ∈ ztb := zmem 741 (by decide +kernel) (by decide +kernel)
theorem zin_F_9 : Cond.fieldLink R_F 9 "WireCodec$Frame" "parts" "[J" ∈ ztb := zmem 175 (by decide +kernel) (by decide +kernel)
theorem zin_F_62 : Cond.methodLink R_F 62 y_Ar_fill_aJJ ∈ ztb := zmem 567 (by decide +kernel) (by decide +kernel)
theorem zin_F_68 : Cond.fieldLink R_F 68 "WireCodec$Frame" "secretBytes" "I" ∈ ztb := zmem 181 (by decide +kernel) (by decide +kernel)
theorem zin_F_45 : Cond.fieldLink R_F 45 "WireCodec$Frame" "low" "J" ∈ ztb := zmem 185 (by decide +kernel) (by decide +kernel)
theorem zin_F_94 : Cond.methodLink R_F 94 y_R_takeBytes ∈ ztb := zmem 590 (by decide +kernel) (by decide +kernel)
theorem zin_F_101 : Cond.fieldLink R_F 101 "WireCodec$Frame" "dataPlace" "I" ∈ ztb := zmem 177 (by decide +kernel) (by decide +kernel)
theorem zin_F_104 : Cond.methodLink R_F 104 y_R_left ∈ ztb := zmem 604 (by decide +kernel) (by decide +kernel)
theorem zin_F_71 : Cond.methodLink R_F 71 y_F_takeData ∈ ztb := zmem 586 (by decide +kernel) (by decide +kernel)
theorem zin_H_9 : Cond.fieldLink R_H 9 "WireCodec$Header" "parts" "[I" ∈ ztb := zmem 211 (by decide +kernel) (by decide +kernel)
theorem zin_H_43 : Cond.methodLink R_H 43 y_T_byteAt ∈ ztb := zmem 828 (by decide +kernel) (by decide +kernel)
theorem zin_H_49 : Cond.methodLink R_H 49 y_R_takeBytes ∈ ztb := zmem 801 (by decide +kernel) (by decide +kernel)
theorem zin_H_21 : Cond.fieldLink R_H 21 "WireCodec$Reader" "place" "I" ∈ ztb := zmem 116 (by decide +kernel) (by decide +kernel)
theorem zin_H_53 : Cond.fieldLink R_H 53 "WireCodec$Reader" "limit" "I" ∈ ztb := zmem 119 (by decide +kernel) (by decide +kernel)
theorem zin_H_31 : Cond.fieldLink R_H 31 "WireCodec$Reader" "over" "Z" ∈ ztb := zmem 121 (by decide +kernel) (by decide +kernel)
theorem zin_H_56 : Cond.methodLink R_H 56 y_R_left ∈ ztb := zmem 812 (by decide +kernel) (by decide +kernel)
theorem zin_R_28 : Cond.methodLink R_R 28 y_R_takeBytes ∈ ztb := zmem 572 (by decide +kernel) (by decide +kernel)
theorem zin_R_7 : Cond.fieldLink R_R 7 "WireCodec$Reader" "tape" "LWireCodec$Tape;" ∈ ztb := zmem 113 (by decide +kernel) (by decide +kernel)
theorem zin_R_32 : Cond.methodLink R_R 32 y_T_wordAt ∈ ztb := zmem 577 (by decide +kernel) (by decide +kernel)
theorem zin_R_47 : Cond.methodLink R_R 47 y_T_byteAt ∈ ztb := zmem 599 (by decide +kernel) (by decide +kernel)
theorem zin_G_38 : Cond.constant R_G 38 (65536 : Int32) ∈ ztb := zmem 636 (by decide +kernel) (by decide +kernel)
theorem zin_G_39 : Cond.methodLink R_G 39 y_Ar_copyOf_aII ∈ ztb := zmem 637 (by decide +kernel) (by decide +kernel)
theorem zin_T_19 : Cond.methodLink R_T 19 y_T_wordAt ∈ ztb := zmem 536 (by decide +kernel) (by decide +kernel)
theorem zin_T_31 : Cond.methodLink R_T 31 y_Ar_copyOf_aBI ∈ ztb := zmem 420 (by decide +kernel) (by decide +kernel)
noncomputable def g_W_grow_37 (N : Nat)  : Option ((Int64 ⊕ Nat)) := some (.inr 1)
noncomputable def g_W_grow_136 (N : Nat) (kr : Int64 → Int64 → Int64 → Int64 → Int32 → Option ((Int64 ⊕ Nat))) (v6 : Int64) (v8 : Int64) (v10 : Int64) (v12 : Int64) (v14 : Int32) : Option ((Int64 ⊕ Nat)) := kr v6 v8 v10 v12 (v14 + 1)
noncomputable def g_W_grow_132 (N : Nat) (kr : Int64 → Int64 → Int64 → Int64 → Int32 → Option ((Int64 ⊕ Nat))) (v6 : Int64) (v8 : Int64) (v10 : Int64) (v14 : Int32) (v15 : Int64) : Option ((Int64 ⊕ Nat)) := g_W_grow_136 N kr v6 v8 v10 v15 v14
noncomputable def g_W_grow_c99 (N : Nat) (kr : Int64 → Int64 → Int64 → Int64 → Int32 → Option ((Int64 ⊕ Nat))) (v6 : Int64) (v8 : Int64) (v10 : Int64) (v12 : Int64) (v14 : Int32) (r_99 : Int32) : Option ((Int64 ⊕ Nat)) := if r_99 = (0 : Int32) then (g_W_grow_136 N kr v6 v8 v10 v12 v14) else (if (lg_cmp v12 (0 : Int64)) < (0 : Int32) then (g_W_grow_132 N kr v6 v8 v10 v14 (v10 + (v14.toInt64 * v6))) else (if (0 : Int32) < (lg_cmp (if (0 : Int64) < ((v10 + (v14.toInt64 * v6)) - v8) then ((v10 + (v14.toInt64 * v6)) - v8) else -((v10 + (v14.toInt64 * v6)) - v8)) (if (0 : Int64) < (v12 - v8) then (v12 - v8) else -(v12 - v8))) then (g_W_grow_136 N kr v6 v8 v10 v12 v14) else (g_W_grow_132 N kr v6 v8 v10 v14 (v10 + (v14.toInt64 * v6)))))
noncomputable def g_W_grow_80_b (N : Nat) (kr : Int64 → Int64 → Int64 → Int64 → Int32 → Option ((Int64 ⊕ Nat))) (v6 : Int64) (v8 : Int64) (v10 : Int64) (v12 : Int64) (v14 : Int32) : Option ((Int64 ⊕ Nat)) := if (1 : Int32) < v14 then (some (.inl v12)) else ((g_W_isNumber (v10 + (v14.toInt64 * v6))).bind (fun a => g_W_grow_c99 N kr v6 v8 v10 v12 v14 a))
noncomputable def g_W_grow_80 (N : Nat) : Nat → Int64 → Int64 → Int64 → Int64 → Int32 → Option ((Int64 ⊕ Nat))
  | 0 => fun _ _ _ _ _ => none
  | k + 1 => fun v6 v8 v10 v12 v14 => g_W_grow_80_b N (g_W_grow_80 N k) v6 v8 v10 v12 v14
noncomputable def g_W_grow_c1 (N : Nat) (v1 : Int64) (v3 : Int64) (v5 : Int32) (r_1 : Int32) : Option ((Int64 ⊕ Nat)) := if r_1 = (0 : Int32) then (g_W_grow_37 N) else (if v5 < (1 : Int32) then (g_W_grow_37 N) else (if (4 : Int32) < v5 then (g_W_grow_37 N) else (if (lg_cmp v3 (0 : Int64)) < (0 : Int32) then (g_W_grow_37 N) else (if (lg_cmp v3 ((1 : Int64) <<< (((8 : Int32) * v5).toInt64 &&& 63))) < (0 : Int32) then (g_W_grow_80 N N ((1 : Int64) <<< (((8 : Int32) * v5).toInt64 &&& 63)) (v1 + (1 : Int64)) (((v1 + (1 : Int64)) &&& (-((1 : Int64) <<< (((8 : Int32) * v5).toInt64 &&& 63)))) + v3) (-1 : Int64) (-1 : Int32)) else (g_W_grow_37 N)))))
noncomputable def g_W_grow (N : Nat) (v1 : Int64) (v3 : Int64) (v5 : Int32) : Option ((Int64 ⊕ Nat)) := (g_W_isNumberOrNone v1).bind (fun a => g_W_grow_c1 N v1 v3 v5 a)
def q_W_grow (dC : Nat → ClassId) (dI : Nat → Nat → Nat) (cB cI cL : ClassId) (A : Nat → Prop) (adW : Nat) (adT : Nat) (adR : Nat) (adG : Nat) (adF : Nat) (adH : Nat) (adD : Nat) (adP : Nat) (a : (Int64 ⊕ Nat)) : Array Value → State → Outcome → State → Prop := zQx (α := Int64) (fun r => some (.long r)) (fun r (u : Unit) => (r) = a) (dC, dI) (fun u => (zwW adW adT adR adG adF adH adD adP)) A
set_option maxRecDepth 100000 in
set_option maxHeartbeats 4000000 in
theorem k_W_grow_37 {p : Program} {l : Launch} {e : Env} {R : Room} {s : State} {m : MethodId} {args : Array Value} {below : List Frame} {meth : Method} {c : Code} {dC : Nat → ClassId} {dI : Nat → Nat → Nat} {cB cI cL : ClassId} {A : Nat → Prop} {adT adR adG adF adH adD adP : Nat} (X : zx p s m args meth c R R_W b_W_grow (some .long) 17 6 98) (hA : ∀ q, s.heap.size ≤ q → A q) (zz : zk dC dI cB cI cL A s) (htr : l.stackTraces = false) (hnh : c.exceptionTable.isEmpty = true) (hAs : ∀ q, A q → ∀ cell, s.heap[q]? = some cell → cell.vm.isStatics = false) (hRc : 1 ≤ R.cells) (hRz : 6 ≤ R.slots)  (N : Nat) (a : (Int64 ⊕ Nat)) (hG : g_W_grow_37 N  = some a) (adW : Nat) (H : Heap) (locs : List Loc) (hP : va_P (dC, dI) zcl (zwW adW adT adR adG adF adH adD adP) H) (hD : va_D A (zwW adW adT adR adG adF adH adD adP)) (hS : va_S A s.heap H locs) (ls : Array Slot) (hl : lv_has ls 17 []) : W p l e R s m args below meth c H locs 0 0 (zMQ below (q_W_grow dC dI cB cI cL A adW adT adR adG adF adH adD adP a) args s 1 6 A) (F0 m 37 ls []) := by
  obtain ⟨hx, hb, hr, hml, hown, hts, hlocks, hRf, hRl⟩ := id X
  unfold g_W_grow_37 at hG
  exact zthrowW htr X zz hnh hAs hA hS 1 (text := "no cut packet\'s number") zin_W_60 zini_1 (by decide +kernel) zat_W_64 zfit_1 hl d_W_grow_37 d_W_grow_40 d_W_grow_41 d_W_grow_44 d_W_grow_47 (Nat.le_trans (Nat.le_of_ble_eq_true rfl) hRf) (Nat.le_trans (Nat.le_of_ble_eq_true rfl) hRl) hRc hRz (by decide) (by decide) (fun t9 q9 hz9 ho9 ht9 => ⟨(), va_P.kept hP (zold hP ho9), hD, zFr hS hz9 ho9, Or.inr ⟨1, q9, rfl, Option.some.inj hG, ht9⟩⟩)
set_option maxRecDepth 100000 in
set_option maxHeartbeats 4000000 in
theorem k_W_grow_136 {p : Program} {l : Launch} {e : Env} {R : Room} {s : State} {m : MethodId} {args : Array Value} {below : List Frame} {meth : Method} {c : Code} {dC : Nat → ClassId} {dI : Nat → Nat → Nat} {cB cI cL : ClassId} {A : Nat → Prop} {adT adR adG adF adH adD adP : Nat} (kr : Int64 → Int64 → Int64 → Int64 → Int32 → Option ((Int64 ⊕ Nat))) (hrec : ∀ (v6 : Int64) (v8 : Int64) (v10 : Int64) (v12 : Int64) (v14 : Int32) (a : (Int64 ⊕ Nat)), kr v6 v8 v10 v12 v14 = some a → ∀ (adW : Nat) (H : Heap) (locs : List Loc), va_P (dC, dI) zcl (zwW adW adT adR adG adF adH adD adP) H → va_D A (zwW adW adT adR adG adF adH adD adP) → va_S A s.heap H locs → ∀ ls : Array Slot, lv_has ls 17 [(6, .long v6), (8, .long v8), (10, .long v10), (12, .long v12), (14, .int v14)] → W p l e R s m args below meth c H locs 0 0 (zMQ below (q_W_grow dC dI cB cI cL A adW adT adR adG adF adH adD adP a) args s 1 6 A) (F0 m 80 ls [])) (X : zx p s m args meth c R R_W b_W_grow (some .long) 17 6 98) (hA : ∀ q, s.heap.size ≤ q → A q) (zz : zk dC dI cB cI cL A s) (htr : l.stackTraces = false) (hnh : c.exceptionTable.isEmpty = true) (hAs : ∀ q, A q → ∀ cell, s.heap[q]? = some cell → cell.vm.isStatics = false) (hRc : 1 ≤ R.cells) (hRz : 6 ≤ R.slots)  (N : Nat) (v6 : Int64) (v8 : Int64) (v10 : Int64) (v12 : Int64) (v14 : Int32) (a : (Int64 ⊕ Nat)) (hG : g_W_grow_136 N kr v6 v8 v10 v12 v14 = some a) (adW : Nat) (H : Heap) (locs : List Loc) (hP : va_P (dC, dI) zcl (zwW adW adT adR adG adF adH adD adP) H) (hD : va_D A (zwW adW adT adR adG adF adH adD adP)) (hS : va_S A s.heap H locs) (ls : Array Slot) (hl : lv_has ls 17 [(6, .long v6), (8, .long v8), (10, .long v10), (12, .long v12), (14, .int v14)]) : W p l e R s m args below meth c H locs 0 0 (zMQ below (q_W_grow dC dI cB cI cL A adW adT adR adG adF adH adD adP a) args s 1 6 A) (F0 m 136 ls []) := by
  obtain ⟨hx, hb, hr, hml, hown, hts, hlocks, hRf, hRl⟩ := id X
  unfold g_W_grow_136 at hG
  refine lv_iinc (v := v14 + 1) (lv' := [(14, .int (v14 + 1)), (6, .long v6), (8, .long v8), (10, .long v10), (12, .long v12)]) hx hb d_W_grow_136 hl (k := 4) rfl rfl (by decide) rfl (fun ls hl => ?_)
  refine lv_goto (tgt := 80) hx hb d_W_grow_139 (by decide) ?_
  exact hrec v6 v8 v10 v12 (v14 + 1) _ hG adW _ _ hP hD hS _ (lv_sub hl [1, 2, 3, 4, 0] rfl)
set_option maxRecDepth 100000 in
set_option maxHeartbeats 4000000 in
theorem k_W_grow_132 {p : Program} {l : Launch} {e : Env} {R : Room} {s : State} {m : MethodId} {args : Array Value} {below : List Frame} {meth : Method} {c : Code} {dC : Nat → ClassId} {dI : Nat → Nat → Nat} {cB cI cL : ClassId} {A : Nat → Prop} {adT adR adG adF adH adD adP : Nat} (kr : Int64 → Int64 → Int64 → Int64 → Int32 → Option ((Int64 ⊕ Nat))) (hrec : ∀ (v6 : Int64) (v8 : Int64) (v10 : Int64) (v12 : Int64) (v14 : Int32) (a : (Int64 ⊕ Nat)), kr v6 v8 v10 v12 v14 = some a → ∀ (adW : Nat) (H : Heap) (locs : List Loc), va_P (dC, dI) zcl (zwW adW adT adR adG adF adH adD adP) H → va_D A (zwW adW adT adR adG adF adH adD adP) → va_S A s.heap H locs → ∀ ls : Array Slot, lv_has ls 17 [(6, .long v6), (8, .long v8), (10, .long v10), (12, .long v12), (14, .int v14)] → W p l e R s m args below meth c H locs 0 0 (zMQ below (q_W_grow dC dI cB cI cL A adW adT adR adG adF adH adD adP a) args s 1 6 A) (F0 m 80 ls [])) (X : zx p s m args meth c R R_W b_W_grow (some .long) 17 6 98) (hA : ∀ q, s.heap.size ≤ q → A q) (zz : zk dC dI cB cI cL A s) (htr : l.stackTraces = false) (hnh : c.exceptionTable.isEmpty = true) (hAs : ∀ q, A q → ∀ cell, s.heap[q]? = some cell → cell.vm.isStatics = false) (hRc : 1 ≤ R.cells) (hRz : 6 ≤ R.slots)  (N : Nat) (v6 : Int64) (v8 : Int64) (v10 : Int64) (v14 : Int32) (v15 : Int64) (a : (Int64 ⊕ Nat)) (hG : g_W_grow_132 N kr v6 v8 v10 v14 v15 = some a) (adW : Nat) (H : Heap) (locs : List Loc) (hP : va_P (dC, dI) zcl (zwW adW adT adR adG adF adH adD adP) H) (hD : va_D A (zwW adW adT adR adG adF adH adD adP)) (hS : va_S A s.heap H locs) (ls : Array Slot) (hl : lv_has ls 17 [(6, .long v6), (8, .long v8), (10, .long v10), (14, .int v14), (15, .long v15)]) : W p l e R s m args below meth c H locs 0 0 (zMQ below (q_W_grow dC dI cB cI cL A adW adT adR adG adF adH adD adP a) args s 1 6 A) (F0 m 132 ls []) := by
  obtain ⟨hx, hb, hr, hml, hown, hts, hlocks, hRf, hRl⟩ := id X
  unfold g_W_grow_132 at hG
  refine lv_lload hx hb d_W_grow_132 (lv_at hl 4 rfl) ?_
  refine lv_lstore (lv' := [(12, .long v15), (6, .long v6), (8, .long v8), (10, .long v10), (14, .int v14), (15, .long v15)]) hx hb d_W_grow_134 hl (by decide) rfl (fun ls hl => ?_)
  exact k_W_grow_136 kr hrec X hA zz htr hnh hAs hRc hRz N v6 v8 v10 v15 v14 _ hG adW _ _ hP hD hS _ (lv_sub hl [1, 2, 3, 0, 4] rfl)
set_option maxRecDepth 100000 in
set_option maxHeartbeats 4000000 in
theorem k_W_grow_80_b {p : Program} {l : Launch} {e : Env} {R : Room} {s : State} {m : MethodId} {args : Array Value} {below : List Frame} {meth : Method} {c : Code} {dC : Nat → ClassId} {dI : Nat → Nat → Nat} {cB cI cL : ClassId} {A : Nat → Prop} {adT adR adG adF adH adD adP : Nat} (kr : Int64 → Int64 → Int64 → Int64 → Int32 → Option ((Int64 ⊕ Nat))) (hrec : ∀ (v6 : Int64) (v8 : Int64) (v10 : Int64) (v12 : Int64) (v14 : Int32) (a : (Int64 ⊕ Nat)), kr v6 v8 v10 v12 v14 = some a → ∀ (adW : Nat) (H : Heap) (locs : List Loc), va_P (dC, dI) zcl (zwW adW adT adR adG adF adH adD adP) H → va_D A (zwW adW adT adR adG adF adH adD adP) → va_S A s.heap H locs → ∀ ls : Array Slot, lv_has ls 17 [(6, .long v6), (8, .long v8), (10, .long v10), (12, .long v12), (14, .int v14)] → W p l e R s m args below meth c H locs 0 0 (zMQ below (q_W_grow dC dI cB cI cL A adW adT adR adG adF adH adD adP a) args s 1 6 A) (F0 m 80 ls [])) (X : zx p s m args meth c R R_W b_W_grow (some .long) 17 6 98) (hA : ∀ q, s.heap.size ≤ q → A q) (zz : zk dC dI cB cI cL A s) (htr : l.stackTraces = false) (hnh : c.exceptionTable.isEmpty = true) (hAs : ∀ q, A q → ∀ cell, s.heap[q]? = some cell → cell.vm.isStatics = false) (hRc : 1 ≤ R.cells) (hRz : 6 ≤ R.slots)  (N : Nat) (v6 : Int64) (v8 : Int64) (v10 : Int64) (v12 : Int64) (v14 : Int32) (a : (Int64 ⊕ Nat)) (hG : g_W_grow_80_b N kr v6 v8 v10 v12 v14 = some a) (adW : Nat) (H : Heap) (locs : List Loc) (hP : va_P (dC, dI) zcl (zwW adW adT adR adG adF adH adD adP) H) (hD : va_D A (zwW adW adT adR adG adF adH adD adP)) (hS : va_S A s.heap H locs) (ls : Array Slot) (hl : lv_has ls 17 [(6, .long v6), (8, .long v8), (10, .long v10), (12, .long v12), (14, .int v14)]) : W p l e R s m args below meth c H locs 0 0 (zMQ below (q_W_grow dC dI cB cI cL A adW adT adR adG adF adH adD adP a) args s 1 6 A) (F0 m 80 ls []) := by
  obtain ⟨hx, hb, hr, hml, hown, hts, hlocks, hRf, hRl⟩ := id X
  unfold g_W_grow_80_b at hG
  refine lv_iload hx hb d_W_grow_80 (lv_at hl 4 rfl) ?_
  refine lv_iconst (v := (1 : Int32)) hx hb d_W_grow_82 (by decide) ?_
  refine lv_icmp_gt (tgt := 142) hx hb d_W_grow_83 (by decide) (fun hc => ?_) (fun hc => ?_)
  · have hG := zt hG hc
    refine lv_lload hx hb d_W_grow_142 (lv_at hl 3 rfl) ?_
    refine W.widen (k := 1) (n := 6) (by decide) (by decide) ?_
    exact zxretl (u := ()) (v := v12) X hlocks (Option.some.inj hG) hP hD hS d_W_grow_144
  · have hG := zf hG hc
    refine lv_lload hx hb d_W_grow_86 (lv_at hl 2 rfl) ?_
    refine lv_iload hx hb d_W_grow_88 (lv_at hl 4 rfl) ?_
    refine lv_i2l hx hb d_W_grow_90 rfl ?_
    refine lv_lload hx hb d_W_grow_91 (lv_at hl 0 rfl) ?_
    refine lv_lmul hx hb d_W_grow_93 ?_
    refine lv_ladd hx hb d_W_grow_94 ?_
    refine lv_lstore (lv' := [(15, .long (v10 + (v14.toInt64 * v6))), (6, .long v6), (8, .long v8), (10, .long v10), (12, .long v12), (14, .int v14)]) hx hb d_W_grow_95 hl (by decide) rfl (fun ls hl => ?_)
    refine lv_lload hx hb d_W_grow_97 (lv_at hl 0 rfl) ?_
    obtain ⟨a_99, hx_99, hG⟩ := zb hG
    have hr_99 := zrunS (p := p) (e := e) (below := below) (meth := meth) (As := [.long (v10 + (v14.toInt64 * v6))]) (rest := []) (st0 := [.long (v10 + (v14.toInt64 * v6))]) (cells := 0) (slots := 0) X zz hP hD hS hA [] (by decide) rfl (c_W_isNumber l dC dI cB cI cL H.size (v10 + (v14.toInt64 * v6)) _ hx_99) zy_W_isNumber zv_W_isNumber (hts (.methodLink R_W 78 y_W_isNumber) zin_W_78) hl rfl rfl d_W_grow_99 (lv_room (Nat.le_of_ble_eq_true rfl)) rfl rfl ⟨Nat.le_trans (Nat.le_of_ble_eq_true rfl) hRf, Nat.le_trans (Nat.le_of_ble_eq_true rfl) hRl⟩ ⟨Nat.zero_le _, Nat.zero_le _⟩
    refine zcalli (wr := (zwW adW adT adR adG adF adH adD adP)) hr_99 hP hD hS hA [] [0] rfl rfl (by decide) (by decide) (fun r_99 u_99 H locs hw_99 hP hD hS => ?_)
    subst hw_99
    have hP : va_P (dC, dI) zcl (zwW adW adT adR adG adF adH adD adP) H := hP
    have hD : va_D A (zwW adW adT adR adG adF adH adD adP) := hD
    have hG : g_W_grow_c99 N kr v6 v8 v10 v12 v14 r_99 = some a := hG
    unfold g_W_grow_c99 at hG
    refine lv_if_eq (tgt := 136) hx hb d_W_grow_102 (by decide) (fun hc => ?_) (fun hc => ?_)
    · have hG := zt hG hc
      exact k_W_grow_136 kr hrec X hA zz htr hnh hAs hRc hRz N v6 v8 v10 v12 v14 _ hG adW _ _ hP hD hS _ (lv_sub hl [1, 2, 3, 4, 5] rfl)
    · have hG := zf hG hc
      refine lv_lload hx hb d_W_grow_105 (lv_at hl 4 rfl) ?_
      refine lv_lconst (v := (0 : Int64)) hx hb d_W_grow_107 (by decide) ?_
      refine W.lcmp hx hb d_W_grow_108 ?_
      refine lv_if_lt (tgt := 132) hx hb d_W_grow_109 (by decide) (fun hc => ?_) (fun hc => ?_)
      · have hG := zt hG hc
        exact k_W_grow_132 kr hrec X hA zz htr hnh hAs hRc hRz N v6 v8 v10 v14 (v10 + (v14.toInt64 * v6)) _ hG adW _ _ hP hD hS _ (lv_sub hl [1, 2, 3, 5, 0] rfl)
      · have hG := zf hG hc
        refine lv_lload hx hb d_W_grow_112 (lv_at hl 0 rfl) ?_
        refine lv_lload hx hb d_W_grow_114 (lv_at hl 2 rfl) ?_
        refine lv_lsub hx hb d_W_grow_116 ?_
        refine va_mabs_long (rest := []) hx hb (hml.trans hl.1.symm) hown (hts (.methodLink R_W 280 Lib.MathLoose.abs_long.x) zin_W_280) (hts _ zin_abs1) (hts _ zin_math) (hts _ zin_abs2) (Nat.le_trans (Nat.le_of_ble_eq_true rfl) hRf) (Nat.le_trans (Nat.le_of_ble_eq_true rfl) hRl) (Nat.zero_le _) (Nat.zero_le _) d_W_grow_117 ?_
        refine lv_lload hx hb d_W_grow_120 (lv_at hl 4 rfl) ?_
        refine lv_lload hx hb d_W_grow_122 (lv_at hl 2 rfl) ?_
        refine lv_lsub hx hb d_W_grow_124 ?_
        refine va_mabs_long (rest := [.long (if (0 : Int64) < ((v10 + (v14.toInt64 * v6)) - v8) then ((v10 + (v14.toInt64 * v6)) - v8) else -((v10 + (v14.toInt64 * v6)) - v8))]) hx hb (hml.trans hl.1.symm) hown (hts (.methodLink R_W 280 Lib.MathLoose.abs_long.x) zin_W_280) (hts _ zin_abs1) (hts _ zin_math) (hts _ zin_abs2) (Nat.le_trans (Nat.le_of_ble_eq_true rfl) hRf) (Nat.le_trans (Nat.le_of_ble_eq_true rfl) hRl) (Nat.zero_le _) (Nat.zero_le _) d_W_grow_125 ?_
        refine W.lcmp hx hb d_W_grow_128 ?_
        refine lv_if_gt (tgt := 136) hx hb d_W_grow_129 (by decide) (fun hc => ?_) (fun hc => ?_)
        · have hG := zt hG hc
          exact k_W_grow_136 kr hrec X hA zz htr hnh hAs hRc hRz N v6 v8 v10 v12 v14 _ hG adW _ _ hP hD hS _ (lv_sub hl [1, 2, 3, 4, 5] rfl)
        · have hG := zf hG hc
          exact k_W_grow_132 kr hrec X hA zz htr hnh hAs hRc hRz N v6 v8 v10 v14 (v10 + (v14.toInt64 * v6)) _ hG adW _ _ hP hD hS _ (lv_sub hl [1, 2, 3, 5, 0] rfl)
theorem k_W_grow_80 {p : Program} {l : Launch} {e : Env} {R : Room} {s : State} {m : MethodId} {args : Array Value} {below : List Frame} {meth : Method} {c : Code} {dC : Nat → ClassId} {dI : Nat → Nat → Nat} {cB cI cL : ClassId} {A : Nat → Prop} {adT adR adG adF adH adD adP : Nat} (X : zx p s m args meth c R R_W b_W_grow (some .long) 17 6 98) (hA : ∀ q, s.heap.size ≤ q → A q) (zz : zk dC dI cB cI cL A s) (htr : l.stackTraces = false) (hnh : c.exceptionTable.isEmpty = true) (hAs : ∀ q, A q → ∀ cell, s.heap[q]? = some cell → cell.vm.isStatics = false) (hRc : 1 ≤ R.cells) (hRz : 6 ≤ R.slots)  (N : Nat) : ∀ (k : Nat) (v6 : Int64) (v8 : Int64) (v10 : Int64) (v12 : Int64) (v14 : Int32) (a : (Int64 ⊕ Nat)) (hG : g_W_grow_80 N k v6 v8 v10 v12 v14 = some a) (adW : Nat) (H : Heap) (locs : List Loc) (hP : va_P (dC, dI) zcl (zwW adW adT adR adG adF adH adD adP) H) (hD : va_D A (zwW adW adT adR adG adF adH adD adP)) (hS : va_S A s.heap H locs) (ls : Array Slot) (hl : lv_has ls 17 [(6, .long v6), (8, .long v8), (10, .long v10), (12, .long v12), (14, .int v14)]), W p l e R s m args below meth c H locs 0 0 (zMQ below (q_W_grow dC dI cB cI cL A adW adT adR adG adF adH adD adP a) args s 1 6 A) (F0 m 80 ls []) := by
  intro k
  induction k with
  | zero => intro v6 v8 v10 v12 v14 a hG; exact absurd hG (by unfold g_W_grow_80; simp)
  | succ k ih => intro v6 v8 v10 v12 v14 a hG adW H locs hP hD hS ls hl; exact k_W_grow_80_b _ ih X hA zz htr hnh hAs hRc hRz N v6 v8 v10 v12 v14 a hG adW H locs hP hD hS ls hl
set_option maxRecDepth 100000 in
set_option maxHeartbeats 4000000 in
theorem k_W_grow_0 {p : Program} {l : Launch} {e : Env} {R : Room} {s : State} {m : MethodId} {args : Array Value} {below : List Frame} {meth : Method} {c : Code} {dC : Nat → ClassId} {dI : Nat → Nat → Nat} {cB cI cL : ClassId} {A : Nat → Prop} {adT adR adG adF adH adD adP : Nat} (X : zx p s m args meth c R R_W b_W_grow (some .long) 17 6 98) (hA : ∀ q, s.heap.size ≤ q → A q) (zz : zk dC dI cB cI cL A s) (htr : l.stackTraces = false) (hnh : c.exceptionTable.isEmpty = true) (hAs : ∀ q, A q → ∀ cell, s.heap[q]? = some cell → cell.vm.isStatics = false) (hRc : 1 ≤ R.cells) (hRz : 6 ≤ R.slots)  (N : Nat) (v1 : Int64) (v3 : Int64) (v5 : Int32) (a : (Int64 ⊕ Nat)) (hG : g_W_grow N v1 v3 v5 = some a) (adW : Nat) (H : Heap) (locs : List Loc) (hP : va_P (dC, dI) zcl (zwW adW adT adR adG adF adH adD adP) H) (hD : va_D A (zwW adW adT adR adG adF adH adD adP)) (hS : va_S A s.heap H locs) (ls : Array Slot) (hl : lv_has ls 17 [(0, .ref adW), (1, .long v1), (3, .long v3), (5, .int v5)]) : W p l e R s m args below meth c H locs 0 0 (zMQ below (q_W_grow dC dI cB cI cL A adW adT adR adG adF adH adD adP a) args s 1 6 A) (F0 m 0 ls []) := by
  obtain ⟨hx, hb, hr, hml, hown, hts, hlocks, hRf, hRl⟩ := id X
  unfold g_W_grow at hG
  refine lv_lload_n hx hb d_W_grow_0 rfl (lv_at hl 1 rfl) ?_
  obtain ⟨a_1, hx_1, hG⟩ := zb hG
  have hr_1 := zrunS (p := p) (e := e) (below := below) (meth := meth) (As := [.long v1]) (rest := []) (st0 := [.long v1]) (cells := 0) (slots := 0) X zz hP hD hS hA [] (by decide) rfl (c_W_isNumberOrNone l dC dI cB cI cL H.size v1 _ hx_1) zy_W_isNumberOrNone zv_W_isNumberOrNone (hts (.methodLink R_W 273 y_W_isNumberOrNone) zin_W_273) hl rfl rfl d_W_grow_1 (lv_room (Nat.le_of_ble_eq_true rfl)) rfl rfl ⟨Nat.le_trans (Nat.le_of_ble_eq_true rfl) hRf, Nat.le_trans (Nat.le_of_ble_eq_true rfl) hRl⟩ ⟨Nat.zero_le _, Nat.zero_le _⟩
  refine zcalli (wr := (zwW adW adT adR adG adF adH adD adP)) hr_1 hP hD hS hA [] [0] rfl rfl (by decide) (by decide) (fun r_1 u_1 H locs hw_1 hP hD hS => ?_)
  subst hw_1
  have hP : va_P (dC, dI) zcl (zwW adW adT adR adG adF adH adD adP) H := hP
  have hD : va_D A (zwW adW adT adR adG adF adH adD adP) := hD
  have hG : g_W_grow_c1 N v1 v3 v5 r_1 = some a := hG
  unfold g_W_grow_c1 at hG
  refine lv_if_eq (tgt := 37) hx hb d_W_grow_4 (by decide) (fun hc => ?_) (fun hc => ?_)
  · have hG := zt hG hc
    exact k_W_grow_37 X hA zz htr hnh hAs hRc hRz N _ hG adW _ _ hP hD hS _ (lv_sub hl [] rfl)
  · have hG := zf hG hc
    refine lv_iload hx hb d_W_grow_7 (lv_at hl 3 rfl) ?_
    refine lv_iconst (v := (1 : Int32)) hx hb d_W_grow_9 (by decide) ?_
    refine lv_icmp_lt (tgt := 37) hx hb d_W_grow_10 (by decide) (fun hc => ?_) (fun hc => ?_)
    · have hG := zt hG hc
      exact k_W_grow_37 X hA zz htr hnh hAs hRc hRz N _ hG adW _ _ hP hD hS _ (lv_sub hl [] rfl)
    · have hG := zf hG hc
      refine lv_iload hx hb d_W_grow_13 (lv_at hl 3 rfl) ?_
      refine lv_iconst (v := (4 : Int32)) hx hb d_W_grow_15 (by decide) ?_
      refine lv_icmp_gt (tgt := 37) hx hb d_W_grow_16 (by decide) (fun hc => ?_) (fun hc => ?_)
      · have hG := zt hG hc
        exact k_W_grow_37 X hA zz htr hnh hAs hRc hRz N _ hG adW _ _ hP hD hS _ (lv_sub hl [] rfl)
      · have hG := zf hG hc
        refine lv_lload_n hx hb d_W_grow_19 rfl (lv_at hl 2 rfl) ?_
        refine lv_lconst (v := (0 : Int64)) hx hb d_W_grow_20 (by decide) ?_
        refine W.lcmp hx hb d_W_grow_21 ?_
        refine lv_if_lt (tgt := 37) hx hb d_W_grow_22 (by decide) (fun hc => ?_) (fun hc => ?_)
        · have hG := zt hG hc
          exact k_W_grow_37 X hA zz htr hnh hAs hRc hRz N _ hG adW _ _ hP hD hS _ (lv_sub hl [] rfl)
        · have hG := zf hG hc
          refine lv_lload_n hx hb d_W_grow_25 rfl (lv_at hl 2 rfl) ?_
          refine lv_lconst (v := (1 : Int64)) hx hb d_W_grow_26 (by decide) ?_
          refine lv_bipush (v := (8 : Int32)) hx hb d_W_grow_27 (by decide) ?_
          refine lv_iload hx hb d_W_grow_29 (lv_at hl 3 rfl) ?_
          refine lv_imul hx hb d_W_grow_31 ?_
          refine lv_lshl hx hb d_W_grow_32 rfl ?_
          refine W.lcmp hx hb d_W_grow_33 ?_
          refine lv_if_lt (tgt := 48) hx hb d_W_grow_34 (by decide) (fun hc => ?_) (fun hc => ?_)
          · have hG := zt hG hc
            refine lv_lconst (v := (1 : Int64)) hx hb d_W_grow_48 (by decide) ?_
            refine lv_bipush (v := (8 : Int32)) hx hb d_W_grow_49 (by decide) ?_
            refine lv_iload hx hb d_W_grow_51 (lv_at hl 3 rfl) ?_
            refine lv_imul hx hb d_W_grow_53 ?_
            refine lv_lshl hx hb d_W_grow_54 rfl ?_
            refine lv_lstore (lv' := [(6, .long ((1 : Int64) <<< (((8 : Int32) * v5).toInt64 &&& 63))), (0, .ref adW), (1, .long v1), (3, .long v3), (5, .int v5)]) hx hb d_W_grow_55 hl (by decide) rfl (fun ls hl => ?_)
            refine lv_lload_n hx hb d_W_grow_57 rfl (lv_at hl 2 rfl) ?_
            refine lv_lconst (v := (1 : Int64)) hx hb d_W_grow_58 (by decide) ?_
            refine lv_ladd hx hb d_W_grow_59 ?_
            refine lv_lstore (lv' := [(8, .long (v1 + (1 : Int64))), (6, .long ((1 : Int64) <<< (((8 : Int32) * v5).toInt64 &&& 63))), (0, .ref adW), (1, .long v1), (3, .long v3), (5, .int v5)]) hx hb d_W_grow_60 hl (by decide) rfl (fun ls hl => ?_)
            refine lv_lload hx hb d_W_grow_62 (lv_at hl 0 rfl) ?_
            refine lv_lload hx hb d_W_grow_64 (lv_at hl 1 rfl) ?_
            refine lv_lneg hx hb d_W_grow_66 ?_
            refine lv_land hx hb d_W_grow_67 ?_
            refine lv_lload_n hx hb d_W_grow_68 rfl (lv_at hl 4 rfl) ?_
            refine lv_ladd hx hb d_W_grow_69 ?_
            refine lv_lstore (lv' := [(10, .long (((v1 + (1 : Int64)) &&& (-((1 : Int64) <<< (((8 : Int32) * v5).toInt64 &&& 63)))) + v3)), (8, .long (v1 + (1 : Int64))), (6, .long ((1 : Int64) <<< (((8 : Int32) * v5).toInt64 &&& 63))), (0, .ref adW), (1, .long v1), (3, .long v3), (5, .int v5)]) hx hb d_W_grow_70 hl (by decide) rfl (fun ls hl => ?_)
            refine lv_ldc2 (v := (-1 : Int64)) hx hb hown (hts (.constantLong R_W 125 (-1 : Int64)) zin_W_125) d_W_grow_72 ?_
            refine lv_lstore (lv' := [(12, .long (-1 : Int64)), (10, .long (((v1 + (1 : Int64)) &&& (-((1 : Int64) <<< (((8 : Int32) * v5).toInt64 &&& 63)))) + v3)), (8, .long (v1 + (1 : Int64))), (6, .long ((1 : Int64) <<< (((8 : Int32) * v5).toInt64 &&& 63))), (0, .ref adW), (1, .long v1), (3, .long v3), (5, .int v5)]) hx hb d_W_grow_75 hl (by decide) rfl (fun ls hl => ?_)
            refine lv_iconst (v := (-1 : Int32)) hx hb d_W_grow_77 (by decide) ?_
            refine lv_istore (lv' := [(14, .int (-1 : Int32)), (12, .long (-1 : Int64)), (10, .long (((v1 + (1 : Int64)) &&& (-((1 : Int64) <<< (((8 : Int32) * v5).toInt64 &&& 63)))) + v3)), (8, .long (v1 + (1 : Int64))), (6, .long ((1 : Int64) <<< (((8 : Int32) * v5).toInt64 &&& 63))), (0, .ref adW), (1, .long v1), (3, .long v3), (5, .int v5)]) hx hb d_W_grow_78 hl (by decide) rfl (fun ls hl => ?_)
            exact k_W_grow_80 X hA zz htr hnh hAs hRc hRz N N ((1 : Int64) <<< (((8 : Int32) * v5).toInt64 &&& 63)) (v1 + (1 : Int64)) (((v1 + (1 : Int64)) &&& (-((1 : Int64) <<< (((8 : Int32) * v5).toInt64 &&& 63)))) + v3) (-1 : Int64) (-1 : Int32) _ hG adW _ _ hP hD hS _ (lv_sub hl [4, 3, 2, 1, 0] rfl)
          · have hG := zf hG hc
            exact k_W_grow_37 X hA zz htr hnh hAs hRc hRz N _ hG adW _ _ hP hD hS _ (lv_sub hl [] rfl)
set_option maxRecDepth 100000 in
set_option maxHeartbeats 4000000 in
theorem c_W_grow (l : Launch) (dC : Nat → ClassId) (dI : Nat → Nat → Nat) (cB cI cL : ClassId) (sz : Nat) (adW adT adR adG adF adH adD adP : Nat) (N : Nat) (v1 : Int64) (v3 : Int64) (v5 : Int32) (a : (Int64 ⊕ Nat)) (hG : g_W_grow N v1 v3 v5 = some a) (htr : l.stackTraces = false) : zMet l y_W_grow (zw y_W_grow b_W_grow 17 (some .long)) ({ frames := 6, cells := 1, slots := 6, locals := 98 }) (va_Pc [.ref adW, .long v1, .long v3, .int v5] (zpre dC dI cB cI cL sz (zwW adW adT adR adG adF adH adD adP))) (q_W_grow dC dI cB cI cL (va_A (zwW adW adT adR adG adF adH adD adP) sz) adW adT adR adG adF adH adD adP a) 1 6 (va_A (zwW adW adT adR adG adF adH adD adP) sz) := by
  refine zMet.ofW (cc := b_W_grow) (maxL := 17) (ret := (some .long)) (by decide) rfl ?_
  intro p e s m args below meth c s₁ B hml hv
  obtain ⟨rfl, hsz, hP, zz, hD0⟩ := hv
  subst hsz
  have X := zx_of (F := 6) (L := 98) B hml (Nat.le_refl _) (Nat.le_refl _)
  have hD := hD0.self (sz := s.heap.size)
  have hA : ∀ q : Nat, s.heap.size ≤ q → va_A (zwW adW adT adR adG adF adH adD adP) s.heap.size q := fun q h => Or.inr h
  have hl := lv_entry ([.ref adW, .long v1, .long v3, .int v5]) (n := 17) (Nat.le_of_ble_eq_true rfl)
  rw [lg_entry_eq]
  generalize (lg_sl ([.ref adW, .long v1, .long v3, .int v5]) ++ List.replicate (17 - (lg_sl ([.ref adW, .long v1, .long v3, .int v5])).length) Slot.unset).toArray = ls at hl ⊢
  have hnh := BodyLoose.noHandlers B (atoms_spec (ws := zw y_W_grow b_W_grow 17 (some .long)) B.pre _ List.mem_cons_self)
  have hAs := zstatics hP
  exact k_W_grow_0 X hA zz htr hnh hAs (Nat.le_refl _) (Nat.le_refl _) N v1 v3 v5 a hG adW _ _ hP hD va_S.rf ls hl
noncomputable def g_W_keepWritten_c4 (sT_4 : zT) (r_4 : Int32) : Option ((Int32 ⊕ Nat) × zT) := if r_4 = (0 : Int32) then (some (.inr 2, sT_4)) else (some (.inl (zT_length sT_4), sT_4))
noncomputable def g_W_keepWritten (sT : zT) : Option ((Int32 ⊕ Nat) × zT) := (g_T_endWriting sT).bind (fun a => g_W_keepWritten_c4 a.2 a.1)
def q_W_keepWritten (dC : Nat → ClassId) (dI : Nat → Nat → Nat) (cB cI cL : ClassId) (A : Nat → Prop) (adW : Nat) (adT : Nat) (adT_bytes : Nat) (adR : Nat) (adG : Nat) (adF : Nat) (adH : Nat) (adD : Nat) (adP : Nat) (a : (Int32 ⊕ Nat) × zT) : Array Value → State → Outcome → State → Prop := zQx (α := Int32) (fun r => some (.int r)) (fun r (u : zT) => (r, u) = a) (dC, dI) (fun u => (zwW adW adT adR adG adF adH adD adP ++ zwT adT adT_bytes cB cI cL u)) A
set_option maxRecDepth 100000 in
set_option maxHeartbeats 4000000 in
theorem k_W_keepWritten_0 {p : Program} {l : Launch} {e : Env} {R : Room} {s : State} {m : MethodId} {args : Array Value} {below : List Frame} {meth : Method} {c : Code} {dC : Nat → ClassId} {dI : Nat → Nat → Nat} {cB cI cL : ClassId} {A : Nat → Prop} {adR adG adF adH adD adP : Nat} (X : zx p s m args meth c R R_W b_W_keepWritten (some .int) 1 6 98) (hA : ∀ q, s.heap.size ≤ q → A q) (zz : zk dC dI cB cI cL A s) (htr : l.stackTraces = false) (hnh : c.exceptionTable.isEmpty = true) (hAs : ∀ q, A q → ∀ cell, s.heap[q]? = some cell → cell.vm.isStatics = false) (hRc : 1 ≤ R.cells) (hRz : 6 ≤ R.slots)  (sT : zT) (a : (Int32 ⊕ Nat) × zT) (hG : g_W_keepWritten sT = some a) (adW adT adT_bytes : Nat) (H : Heap) (locs : List Loc) (hP : va_P (dC, dI) zcl (zwW adW adT adR adG adF adH adD adP ++ zwT adT adT_bytes cB cI cL sT) H) (hD : va_D A (zwW adW adT adR adG adF adH adD adP ++ zwT adT adT_bytes cB cI cL sT)) (hS : va_S A s.heap H locs) (ls : Array Slot) (hl : lv_has ls 1 [(0, .ref adW)]) : W p l e R s m args below meth c H locs 0 0 (zMQ below (q_W_keepWritten dC dI cB cI cL A adW adT adT_bytes adR adG adF adH adD adP a) args s 1 6 A) (F0 m 0 ls []) := by
  obtain ⟨hx, hb, hr, hml, hown, hts, hlocks, hRf, hRl⟩ := id X
  unfold g_W_keepWritten at hG
  refine lv_aload_n hx hb d_W_keepWritten_0 rfl (lv_at hl 0 rfl) ?_
  refine va_get (D := (dC, dI)) (ci := 0) (v := .ref adT) (C := R_W) (T := F_W) (N := 7) hx hb hts zi_W hown zz.1 hP 0 rfl rfl 0 (by decide) (hts (.fieldLink R_W 12 "WireCodec" "tape" "LWireCodec$Tape;") zin_W_12) (fun _ h9 => h9) rfl d_W_keepWritten_1 ?_
  obtain ⟨a_4, hx_4, hG⟩ := zb hG
  have hr_4 := zrunV (p := p) (e := e) (below := below) (meth := meth) (As := []) (rest := []) (st0 := [.ref adT]) (cells := 0) (slots := 0) X zz hP hD hS hA [1, 2] (by decide) rfl (c_T_endWriting l dC dI cB cI cL H.size adT adT_bytes sT _ hx_4) zy_T_endWriting zv_T_endWriting (hts (.methodLink R_W 303 y_T_endWriting) zin_W_303) hl rfl rfl d_W_keepWritten_4 (lv_room (Nat.le_of_ble_eq_true rfl)) rfl rfl ⟨Nat.le_trans (Nat.le_of_ble_eq_true rfl) hRf, Nat.le_trans (Nat.le_of_ble_eq_true rfl) hRl⟩ ⟨Nat.zero_le _, Nat.zero_le _⟩ 0 1 rfl rfl
  refine zcalli (wr := (zwW adW adT adR adG adF adH adD adP)) hr_4 hP hD hS hA [1, 2] [0] rfl rfl (by decide) (by decide) (fun r_4 u_4 H locs hw_4 hP hD hS => ?_)
  obtain ⟨sT_4, rfl⟩ : ∃ z, z = u_4 := ⟨_, rfl⟩
  subst hw_4
  have hP : va_P (dC, dI) zcl (zwW adW adT adR adG adF adH adD adP ++ zwT adT adT_bytes cB cI cL sT_4) H := hP
  have hD : va_D A (zwW adW adT adR adG adF adH adD adP ++ zwT adT adT_bytes cB cI cL sT_4) := hD
  have hG : g_W_keepWritten_c4 sT_4 r_4 = some a := hG
  unfold g_W_keepWritten_c4 at hG
  refine lv_if_ne (tgt := 21) hx hb d_W_keepWritten_7 (by decide) (fun hc => ?_) (fun hc => ?_)
  · have hG := zf hG hc
    refine lv_aload_n hx hb d_W_keepWritten_21 rfl (lv_at hl 0 rfl) ?_
    refine va_get (D := (dC, dI)) (ci := 0) (v := .ref adT) (C := R_W) (T := F_W) (N := 7) hx hb hts zi_W hown zz.1 hP 0 rfl rfl 0 (by decide) (hts (.fieldLink R_W 12 "WireCodec" "tape" "LWireCodec$Tape;") zin_W_12) (fun _ h9 => h9) rfl d_W_keepWritten_22 ?_
    refine va_get (D := (dC, dI)) (ci := 1) (v := .int (zT_length sT_4)) (C := R_T) (T := F_T) (N := 3) hx hb hts zi_T hown zz.1 hP 1 rfl rfl 2 (by decide) (hts (.fieldLink R_W 95 "WireCodec$Tape" "length" "I") zin_W_95) (fun _ h9 => h9) rfl d_W_keepWritten_25 ?_
    refine W.widen (k := 1) (n := 6) (by decide) (by decide) ?_
    exact zxreti (u := (sT_4)) (v := zT_length sT_4) X hlocks (Option.some.inj hG) hP hD hS d_W_keepWritten_28
  · have hG := zt hG hc
    exact zthrowW htr X zz hnh hAs hA hS 2 (text := "the tape has no room") zin_W_207 zini_2 (by decide +kernel) zat_W_211 zfit_2 hl d_W_keepWritten_10 d_W_keepWritten_13 d_W_keepWritten_14 d_W_keepWritten_17 d_W_keepWritten_20 (Nat.le_trans (Nat.le_of_ble_eq_true rfl) hRf) (Nat.le_trans (Nat.le_of_ble_eq_true rfl) hRl) hRc hRz (by decide) (by decide) (fun t9 q9 hz9 ho9 ht9 => ⟨(sT_4), va_P.kept hP (zold hP ho9), hD, zFr hS hz9 ho9, Or.inr ⟨2, q9, rfl, Option.some.inj hG, ht9⟩⟩)
set_option maxRecDepth 100000 in
set_option maxHeartbeats 4000000 in
theorem c_W_keepWritten (l : Launch) (dC : Nat → ClassId) (dI : Nat → Nat → Nat) (cB cI cL : ClassId) (sz : Nat) (adW adT adT_bytes adR adG adF adH adD adP : Nat) (sT : zT) (a : (Int32 ⊕ Nat) × zT) (hG : g_W_keepWritten sT = some a) (htr : l.stackTraces = false) : zMet l y_W_keepWritten (zw y_W_keepWritten b_W_keepWritten 1 (some .int)) ({ frames := 6, cells := 1, slots := 6, locals := 98 }) (va_Pc [.ref adW] (zpre dC dI cB cI cL sz (zwW adW adT adR adG adF adH adD adP ++ zwT adT adT_bytes cB cI cL sT))) (q_W_keepWritten dC dI cB cI cL (va_A (zwW adW adT adR adG adF adH adD adP ++ zwT adT adT_bytes cB cI cL sT) sz) adW adT adT_bytes adR adG adF adH adD adP a) 1 6 (va_A (zwW adW adT adR adG adF adH adD adP ++ zwT adT adT_bytes cB cI cL sT) sz) := by
  refine zMet.ofW (cc := b_W_keepWritten) (maxL := 1) (ret := (some .int)) (by decide) rfl ?_
  intro p e s m args below meth c s₁ B hml hv
  obtain ⟨rfl, hsz, hP, zz, hD0⟩ := hv
  subst hsz
  have X := zx_of (F := 6) (L := 98) B hml (Nat.le_refl _) (Nat.le_refl _)
  have hD := hD0.self (sz := s.heap.size)
  have hA : ∀ q : Nat, s.heap.size ≤ q → va_A (zwW adW adT adR adG adF adH adD adP ++ zwT adT adT_bytes cB cI cL sT) s.heap.size q := fun q h => Or.inr h
  have hl := lv_entry ([.ref adW]) (n := 1) (Nat.le_of_ble_eq_true rfl)
  rw [lg_entry_eq]
  generalize (lg_sl ([.ref adW]) ++ List.replicate (1 - (lg_sl ([.ref adW])).length) Slot.unset).toArray = ls at hl ⊢
  have hnh := BodyLoose.noHandlers B (atoms_spec (ws := zw y_W_keepWritten b_W_keepWritten 1 (some .int)) B.pre _ List.mem_cons_self)
  have hAs := zstatics hP
  exact k_W_keepWritten_0 X hA zz htr hnh hAs (Nat.le_refl _) (Nat.le_refl _) sT a hG adW adT adT_bytes _ _ hP hD va_S.rf ls hl
noncomputable def g_W_startAtFrame_15 (sR : zR) (sG : zG) : Option ((Unit ⊕ Nat) × zR) := some (.inr 3, sR)
noncomputable def g_W_startAtFrame_c45 (sR_45 : zR) : Option ((Unit ⊕ Nat) × zR) := some (.inl (), sR_45)
noncomputable def g_W_startAtFrame_c35 (sR : zR) (sG : zG) (r_35 : Int32) : Option ((Unit ⊕ Nat) × zR) := (g_R_start sR r_35 (zG_limit sG)).bind (fun a => g_W_startAtFrame_c45 a)
noncomputable def g_W_startAtFrame (sR : zR) (sG : zG) (v1 : Int32) : Option ((Unit ⊕ Nat) × zR) := if v1 < (0 : Int32) then (g_W_startAtFrame_15 sR sG) else (if v1 < (zG_frameCount sG) then ((g_G_placeOf sG v1).bind (fun a => g_W_startAtFrame_c35 sR sG a)) else (g_W_startAtFrame_15 sR sG))
def q_W_startAtFrame (dC : Nat → ClassId) (dI : Nat → Nat → Nat) (cB cI cL : ClassId) (A : Nat → Prop) (adW : Nat) (adR : Nat) (adG : Nat) (adG_places : Nat) (adT : Nat) (adF : Nat) (adH : Nat) (adD : Nat) (adP : Nat) (sG : zG) (a : (Unit ⊕ Nat) × zR) : Array Value → State → Outcome → State → Prop := zQx (α := Unit) (fun _ => none) (fun r (u : zR) => (r, u) = a) (dC, dI) (fun u => (zwW adW adT adR adG adF adH adD adP ++ zwR adR adT cB cI cL u ++ zwG adG adG_places cB cI cL sG)) A
set_option maxRecDepth 100000 in
set_option maxHeartbeats 4000000 in
theorem k_W_startAtFrame_15 {p : Program} {l : Launch} {e : Env} {R : Room} {s : State} {m : MethodId} {args : Array Value} {below : List Frame} {meth : Method} {c : Code} {dC : Nat → ClassId} {dI : Nat → Nat → Nat} {cB cI cL : ClassId} {A : Nat → Prop} {adT adF adH adD adP : Nat} (X : zx p s m args meth c R R_W b_W_startAtFrame none 2 6 98) (hA : ∀ q, s.heap.size ≤ q → A q) (zz : zk dC dI cB cI cL A s) (htr : l.stackTraces = false) (hnh : c.exceptionTable.isEmpty = true) (hAs : ∀ q, A q → ∀ cell, s.heap[q]? = some cell → cell.vm.isStatics = false) (hRc : 1 ≤ R.cells) (hRz : 6 ≤ R.slots)  (sR : zR) (sG : zG) (a : (Unit ⊕ Nat) × zR) (hG : g_W_startAtFrame_15 sR sG = some a) (adW adR adG adG_places : Nat) (H : Heap) (locs : List Loc) (hP : va_P (dC, dI) zcl (zwW adW adT adR adG adF adH adD adP ++ zwR adR adT cB cI cL sR ++ zwG adG adG_places cB cI cL sG) H) (hD : va_D A (zwW adW adT adR adG adF adH adD adP ++ zwR adR adT cB cI cL sR ++ zwG adG adG_places cB cI cL sG)) (hS : va_S A s.heap H locs) (ls : Array Slot) (hl : lv_has ls 2 []) : W p l e R s m args below meth c H locs 0 0 (zMQ below (q_W_startAtFrame dC dI cB cI cL A adW adR adG adG_places adT adF adH adD adP sG a) args s 1 6 A) (F0 m 15 ls []) := by
  obtain ⟨hx, hb, hr, hml, hown, hts, hlocks, hRf, hRl⟩ := id X
  unfold g_W_startAtFrame_15 at hG
  exact zthrowW htr X zz hnh hAs hA hS 3 (text := "no such frame") zin_W_164 zini_3 (by decide +kernel) zat_W_168 zfit_3 hl d_W_startAtFrame_15 d_W_startAtFrame_18 d_W_startAtFrame_19 d_W_startAtFrame_22 d_W_startAtFrame_25 (Nat.le_trans (Nat.le_of_ble_eq_true rfl) hRf) (Nat.le_trans (Nat.le_of_ble_eq_true rfl) hRl) hRc hRz (by decide) (by decide) (fun t9 q9 hz9 ho9 ht9 => ⟨(sR), va_P.kept hP (zold hP ho9), hD, zFr hS hz9 ho9, Or.inr ⟨3, q9, rfl, Option.some.inj hG, ht9⟩⟩)
set_option maxRecDepth 100000 in
set_option maxHeartbeats 4000000 in
theorem k_W_startAtFrame_0 {p : Program} {l : Launch} {e : Env} {R : Room} {s : State} {m : MethodId} {args : Array Value} {below : List Frame} {meth : Method} {c : Code} {dC : Nat → ClassId} {dI : Nat → Nat → Nat} {cB cI cL : ClassId} {A : Nat → Prop} {adT adF adH adD adP : Nat} (X : zx p s m args meth c R R_W b_W_startAtFrame none 2 6 98) (hA : ∀ q, s.heap.size ≤ q → A q) (zz : zk dC dI cB cI cL A s) (htr : l.stackTraces = false) (hnh : c.exceptionTable.isEmpty = true) (hAs : ∀ q, A q → ∀ cell, s.heap[q]? = some cell → cell.vm.isStatics = false) (hRc : 1 ≤ R.cells) (hRz : 6 ≤ R.slots)  (sR : zR) (sG : zG) (v1 : Int32) (a : (Unit ⊕ Nat) × zR) (hG : g_W_startAtFrame sR sG v1 = some a) (adW adR adG adG_places : Nat) (H : Heap) (locs : List Loc) (hP : va_P (dC, dI) zcl (zwW adW adT adR adG adF adH adD adP ++ zwR adR adT cB cI cL sR ++ zwG adG adG_places cB cI cL sG) H) (hD : va_D A (zwW adW adT adR adG adF adH adD adP ++ zwR adR adT cB cI cL sR ++ zwG adG adG_places cB cI cL sG)) (hS : va_S A s.heap H locs) (ls : Array Slot) (hl : lv_has ls 2 [(0, .ref adW), (1, .int v1)]) : W p l e R s m args below meth c H locs 0 0 (zMQ below (q_W_startAtFrame dC dI cB cI cL A adW adR adG adG_places adT adF adH adD adP sG a) args s 1 6 A) (F0 m 0 ls []) := by
  obtain ⟨hx, hb, hr, hml, hown, hts, hlocks, hRf, hRl⟩ := id X
  unfold g_W_startAtFrame at hG
  refine lv_iload_n hx hb d_W_startAtFrame_0 rfl (lv_at hl 1 rfl) ?_
  refine lv_if_lt (tgt := 15) hx hb d_W_startAtFrame_1 (by decide) (fun hc => ?_) (fun hc => ?_)
  · have hG := zt hG hc
    exact k_W_startAtFrame_15 X hA zz htr hnh hAs hRc hRz sR sG _ hG adW adR adG adG_places _ _ hP hD hS _ (lv_sub hl [] rfl)
  · have hG := zf hG hc
    refine lv_iload_n hx hb d_W_startAtFrame_4 rfl (lv_at hl 1 rfl) ?_
    refine lv_aload_n hx hb d_W_startAtFrame_5 rfl (lv_at hl 0 rfl) ?_
    refine va_get (D := (dC, dI)) (ci := 0) (v := .ref adG) (C := R_W) (T := F_W) (N := 7) hx hb hts zi_W hown zz.1 hP 0 rfl rfl 2 (by decide) (hts (.fieldLink R_W 28 "WireCodec" "reading" "LWireCodec$Reading;") zin_W_28) (fun _ h9 => h9) rfl d_W_startAtFrame_6 ?_
    refine va_get (D := (dC, dI)) (ci := 3) (v := .int (zG_frameCount sG)) (C := R_G) (T := F_G) (N := 7) hx hb hts zi_G hown zz.1 hP 2 rfl rfl 1 (by decide) (hts (.fieldLink R_W 152 "WireCodec$Reading" "frameCount" "I") zin_W_152) (fun _ h9 => h9) rfl d_W_startAtFrame_9 ?_
    refine lv_icmp_lt (tgt := 26) hx hb d_W_startAtFrame_12 (by decide) (fun hc => ?_) (fun hc => ?_)
    · have hG := zt hG hc
      refine lv_aload_n hx hb d_W_startAtFrame_26 rfl (lv_at hl 0 rfl) ?_
      refine va_get (D := (dC, dI)) (ci := 0) (v := .ref adR) (C := R_W) (T := F_W) (N := 7) hx hb hts zi_W hown zz.1 hP 0 rfl rfl 1 (by decide) (hts (.fieldLink R_W 21 "WireCodec" "reader" "LWireCodec$Reader;") zin_W_21) (fun _ h9 => h9) rfl d_W_startAtFrame_27 ?_
      refine lv_aload_n hx hb d_W_startAtFrame_30 rfl (lv_at hl 0 rfl) ?_
      refine va_get (D := (dC, dI)) (ci := 0) (v := .ref adG) (C := R_W) (T := F_W) (N := 7) hx hb hts zi_W hown zz.1 hP 0 rfl rfl 2 (by decide) (hts (.fieldLink R_W 28 "WireCodec" "reading" "LWireCodec$Reading;") zin_W_28) (fun _ h9 => h9) rfl d_W_startAtFrame_31 ?_
      refine lv_iload_n hx hb d_W_startAtFrame_34 rfl (lv_at hl 1 rfl) ?_
      obtain ⟨a_35, hx_35, hG⟩ := zb hG
      have hr_35 := zrunV (p := p) (e := e) (below := below) (meth := meth) (As := [.int v1]) (rest := [.ref adR]) (st0 := [.int v1, .ref adG, .ref adR]) (cells := 0) (slots := 0) X zz hP hD hS hA [2, 3] (by decide) rfl (c_G_placeOf l dC dI cB cI cL H.size adG adG_places sG v1 _ hx_35) zy_G_placeOf zv_G_placeOf (hts (.methodLink R_W 257 y_G_placeOf) zin_W_257) hl rfl rfl d_W_startAtFrame_35 (lv_room (Nat.le_of_ble_eq_true rfl)) rfl rfl ⟨Nat.le_trans (Nat.le_of_ble_eq_true rfl) hRf, Nat.le_trans (Nat.le_of_ble_eq_true rfl) hRl⟩ ⟨Nat.zero_le _, Nat.zero_le _⟩ 0 3 rfl rfl
      refine zcalli (wr := (zwW adW adT adR adG adF adH adD adP ++ zwR adR adT cB cI cL sR)) hr_35 hP hD hS hA [2, 3] [0, 1] rfl rfl (by decide) (by decide) (fun r_35 u_35 H locs hw_35 hP hD hS => ?_)
      subst hw_35
      have hP : va_P (dC, dI) zcl (zwW adW adT adR adG adF adH adD adP ++ zwR adR adT cB cI cL sR ++ zwG adG adG_places cB cI cL sG) H := hP
      have hD : va_D A (zwW adW adT adR adG adF adH adD adP ++ zwR adR adT cB cI cL sR ++ zwG adG adG_places cB cI cL sG) := hD
      have hG : g_W_startAtFrame_c35 sR sG r_35 = some a := hG
      unfold g_W_startAtFrame_c35 at hG
      refine lv_aload_n hx hb d_W_startAtFrame_38 rfl (lv_at hl 0 rfl) ?_
      refine va_get (D := (dC, dI)) (ci := 0) (v := .ref adG) (C := R_W) (T := F_W) (N := 7) hx hb hts zi_W hown zz.1 hP 0 rfl rfl 2 (by decide) (hts (.fieldLink R_W 28 "WireCodec" "reading" "LWireCodec$Reading;") zin_W_28) (fun _ h9 => h9) rfl d_W_startAtFrame_39 ?_
      refine va_get (D := (dC, dI)) (ci := 3) (v := .int (zG_limit sG)) (C := R_G) (T := F_G) (N := 7) hx hb hts zi_G hown zz.1 hP 2 rfl rfl 3 (by decide) (hts (.fieldLink R_W 132 "WireCodec$Reading" "limit" "I") zin_W_132) (fun _ h9 => h9) rfl d_W_startAtFrame_42 ?_
      obtain ⟨a_45, hx_45, hG⟩ := zb hG
      have hr_45 := zrunV (p := p) (e := e) (below := below) (meth := meth) (As := [.int r_35, .int (zG_limit sG)]) (rest := []) (st0 := [.int (zG_limit sG), .int r_35, .ref adR]) (cells := 0) (slots := 0) X zz hP hD hS hA [1] (by decide) rfl (c_R_start l dC dI cB cI cL H.size adR adT sR r_35 (zG_limit sG) _ hx_45) zy_R_start zv_R_start (hts (.methodLink R_W 114 y_R_start) zin_W_114) hl rfl rfl d_W_startAtFrame_45 (lv_room (Nat.le_of_ble_eq_true rfl)) rfl rfl ⟨Nat.le_trans (Nat.le_of_ble_eq_true rfl) hRf, Nat.le_trans (Nat.le_of_ble_eq_true rfl) hRl⟩ ⟨Nat.zero_le _, Nat.zero_le _⟩ 0 2 rfl rfl
      refine zcallv (wr := (zwW adW adT adR adG adF adH adD adP ++ zwG adG adG_places cB cI cL sG)) hr_45 hP hD hS hA [1] [0, 2, 3] rfl rfl (by decide) (by decide) (fun u_45 H locs hw_45 hP hD hS => ?_)
      obtain ⟨sR_45, rfl⟩ : ∃ z, z = u_45 := ⟨_, rfl⟩
      subst hw_45
      have hP : va_P (dC, dI) zcl (zwW adW adT adR adG adF adH adD adP ++ zwG adG adG_places cB cI cL sG ++ zwR adR adT cB cI cL sR_45) H := hP
      have hD : va_D A (zwW adW adT adR adG adF adH adD adP ++ zwG adG adG_places cB cI cL sG ++ zwR adR adT cB cI cL sR_45) := hD
      have hG : g_W_startAtFrame_c45 sR_45 = some a := hG
      unfold g_W_startAtFrame_c45 at hG
      refine W.widen (k := 1) (n := 6) (by decide) (by decide) ?_
      exact zxretv (u := (sR_45)) X hlocks (Option.some.inj hG) (hP.sub [0, 3, 1, 2] rfl) (hD.sub [0, 3, 1, 2] (by decide) rfl) hS d_W_startAtFrame_48
    · have hG := zf hG hc
      exact k_W_startAtFrame_15 X hA zz htr hnh hAs hRc hRz sR sG _ hG adW adR adG adG_places _ _ hP hD hS _ (lv_sub hl [] rfl)
set_option maxRecDepth 100000 in
set_option maxHeartbeats 4000000 in
theorem c_W_startAtFrame (l : Launch) (dC : Nat → ClassId) (dI : Nat → Nat → Nat) (cB cI cL : ClassId) (sz : Nat) (adW adR adG adG_places adT adF adH adD adP : Nat) (sR : zR) (sG : zG) (v1 : Int32) (a : (Unit ⊕ Nat) × zR) (hG : g_W_startAtFrame sR sG v1 = some a) (htr : l.stackTraces = false) : zMet l y_W_startAtFrame (zw y_W_startAtFrame b_W_startAtFrame 2 none) ({ frames := 6, cells := 1, slots := 6, locals := 98 }) (va_Pc [.ref adW, .int v1] (zpre dC dI cB cI cL sz (zwW adW adT adR adG adF adH adD adP ++ zwR adR adT cB cI cL sR ++ zwG adG adG_places cB cI cL sG))) (q_W_startAtFrame dC dI cB cI cL (va_A (zwW adW adT adR adG adF adH adD adP ++ zwR adR adT cB cI cL sR ++ zwG adG adG_places cB cI cL sG) sz) adW adR adG adG_places adT adF adH adD adP sG a) 1 6 (va_A (zwW adW adT adR adG adF adH adD adP ++ zwR adR adT cB cI cL sR ++ zwG adG adG_places cB cI cL sG) sz) := by
  refine zMet.ofW (cc := b_W_startAtFrame) (maxL := 2) (ret := none) (by decide) rfl ?_
  intro p e s m args below meth c s₁ B hml hv
  obtain ⟨rfl, hsz, hP, zz, hD0⟩ := hv
  subst hsz
  have X := zx_of (F := 6) (L := 98) B hml (Nat.le_refl _) (Nat.le_refl _)
  have hD := hD0.self (sz := s.heap.size)
  have hA : ∀ q : Nat, s.heap.size ≤ q → va_A (zwW adW adT adR adG adF adH adD adP ++ zwR adR adT cB cI cL sR ++ zwG adG adG_places cB cI cL sG) s.heap.size q := fun q h => Or.inr h
  have hl := lv_entry ([.ref adW, .int v1]) (n := 2) (Nat.le_of_ble_eq_true rfl)
  rw [lg_entry_eq]
  generalize (lg_sl ([.ref adW, .int v1]) ++ List.replicate (2 - (lg_sl ([.ref adW, .int v1])).length) Slot.unset).toArray = ls at hl ⊢
  have hnh := BodyLoose.noHandlers B (atoms_spec (ws := zw y_W_startAtFrame b_W_startAtFrame 2 none) B.pre _ List.mem_cons_self)
  have hAs := zstatics hP
  exact k_W_startAtFrame_0 X hA zz htr hnh hAs (Nat.le_refl _) (Nat.le_refl _) sR sG v1 a hG adW adR adG adG_places _ _ hP hD va_S.rf ls hl
noncomputable def g_D_empty_w15 (sD_15 : zD) : Option (zD) := some (sD_15)
noncomputable def g_D_empty_w10 (sD_10 : zD) : Option (zD) := g_D_empty_w15 (zD_ranges' sD_10 (0 : Int32))
noncomputable def g_D_empty_c5 (sD : zD) (x_5 : (Nat → Int64)) : Option (zD) := g_D_empty_w10 (zD_length' (zD_parts' sD x_5) (0 : Int32))
noncomputable def g_D_empty (N : Nat) (sD : zD) : Option (zD) := (g_Ar_fill_aJJ N (zD_parts sD) 12 (0 : Int64)).bind (fun a => g_D_empty_c5 sD a)
def q_D_empty (dC : Nat → ClassId) (dI : Nat → Nat → Nat) (cB cI cL : ClassId) (A : Nat → Prop) (adD : Nat) (adD_parts : Nat) (adD_bytes : Nat) (adD_lows : Nat) (adD_highs : Nat) (a : zD) : Array Value → State → Outcome → State → Prop := va_Qv (fun (u : zD) => (u) = a) (fun u U => va_P (dC, dI) zcl (zwD adD adD_parts adD_bytes adD_lows adD_highs cB cI cL u) U.heap ∧ va_D A (zwD adD adD_parts adD_bytes adD_lows adD_highs cB cI cL u)) A
set_option maxRecDepth 100000 in
set_option maxHeartbeats 4000000 in
theorem k_D_empty_0 {p : Program} {l : Launch} {e : Env} {R : Room} {s : State} {m : MethodId} {args : Array Value} {below : List Frame} {meth : Method} {c : Code} {dC : Nat → ClassId} {dI : Nat → Nat → Nat} {cB cI cL : ClassId} {A : Nat → Prop} (X : zx p s m args meth c R R_D b_D_empty none 1 1 24) (hA : ∀ q, s.heap.size ≤ q → A q) (zz : zk dC dI cB cI cL A s)  (N : Nat) (sD : zD) (a : zD) (hG : g_D_empty N sD = some a) (adD adD_parts adD_bytes adD_lows adD_highs : Nat) (H : Heap) (locs : List Loc) (hP : va_P (dC, dI) zcl (zwD adD adD_parts adD_bytes adD_lows adD_highs cB cI cL sD) H) (hD : va_D A (zwD adD adD_parts adD_bytes adD_lows adD_highs cB cI cL sD)) (hS : va_S A s.heap H locs) (ls : Array Slot) (hl : lv_has ls 1 [(0, .ref adD)]) : W p l e R s m args below meth c H locs 0 0 (MQ below (q_D_empty dC dI cB cI cL A adD adD_parts adD_bytes adD_lows adD_highs a) args s 0 0 A) (F0 m 0 ls []) := by
  obtain ⟨hx, hb, hr, hml, hown, hts, hlocks, hRf, hRl⟩ := id X
  unfold g_D_empty at hG
  refine lv_aload_n hx hb d_D_empty_0 rfl (lv_at hl 0 rfl) ?_
  refine va_get (D := (dC, dI)) (ci := 6) (v := .ref adD_parts) (C := R_D) (T := F_D) (N := 6) hx hb hts zi_D hown zz.1 hP 0 rfl rfl 0 (by decide) (hts (.fieldLink R_D 9 "WireCodec$Draft" "parts" "[J") zin_D_9) (fun _ h9 => h9) rfl d_D_empty_1 ?_
  refine lv_lconst (v := (0 : Int64)) hx hb d_D_empty_4 (by decide) ?_
  obtain ⟨a_5, hx_5, hG⟩ := zb hG
  have hr_5 := zrunS (p := p) (e := e) (below := below) (meth := meth) (As := [.ref adD_parts, .long (0 : Int64)]) (rest := []) (st0 := [.long (0 : Int64), .ref adD_parts]) (cells := 0) (slots := 0) X zz hP hD hS hA [1] (by decide) rfl (c_Ar_fill_aJJ l dC dI cB cI cL H.size adD_parts N (zD_parts sD) 12 (0 : Int64) _ hx_5) zy_Ar_fill_aJJ zv_Ar_fill_aJJ (hts (.methodLink R_D 25 y_Ar_fill_aJJ) zin_D_25) hl rfl rfl d_D_empty_5 (lv_room (Nat.le_of_ble_eq_true rfl)) rfl rfl ⟨Nat.le_trans (Nat.le_of_ble_eq_true rfl) hRf, Nat.le_trans (Nat.le_of_ble_eq_true rfl) hRl⟩ ⟨Nat.zero_le _, Nat.zero_le _⟩
  refine zcallv (wr := ([(adD, .inr (6, [.ref adD_parts, .ref adD_bytes, .ref adD_lows, .ref adD_highs, .int (zD_length sD), .int (zD_ranges sD)])), (adD_bytes, .inl (cB, 2000, .inl (zD_bytes sD))), (adD_lows, .inl (cL, 500, .inr (.inl (zD_lows sD)))), (adD_highs, .inl (cL, 500, .inr (.inl (zD_highs sD))))])) hr_5 hP hD hS hA [1] [0, 2, 3, 4] rfl rfl (by decide) (by decide) (fun u_5 H locs hw_5 hP hD hS => ?_)
  obtain ⟨x_5, rfl⟩ : ∃ z, z = u_5 := ⟨_, rfl⟩
  subst hw_5
  have hP : va_P (dC, dI) zcl (zwD adD adD_parts adD_bytes adD_lows adD_highs cB cI cL (zD_parts' sD x_5)) H := hP.sub [0, 4, 1, 2, 3] rfl
  have hD : va_D A (zwD adD adD_parts adD_bytes adD_lows adD_highs cB cI cL (zD_parts' sD x_5)) := hD.sub [0, 4, 1, 2, 3] (by decide) rfl
  have hG : g_D_empty_c5 sD x_5 = some a := hG
  unfold g_D_empty_c5 at hG
  refine lv_aload_n hx hb d_D_empty_8 rfl (lv_at hl 0 rfl) ?_
  refine lv_iconst (v := (0 : Int32)) hx hb d_D_empty_9 (by decide) ?_
  refine va_put (D := (dC, dI)) (ci := 6) (v := .int (0 : Int32)) (ty := .int) (C := R_D) (T := F_D) (N := 6) hx hb hts zi_D zty_D zty_D_ok znm_D hown zz.1 hP hD hS 0 rfl rfl 4 (by decide) (hts (.fieldLink R_D 31 "WireCodec$Draft" "length" "I") zin_D_31) (fun _ h9 => h9) rfl (by decide +kernel) rfl rfl (Nat.le_of_ble_eq_true rfl) d_D_empty_10 (fun H locs hP hD hS => ?_)
  have hP : va_P (dC, dI) zcl (zwD adD adD_parts adD_bytes adD_lows adD_highs cB cI cL (zD_length' (zD_parts' sD x_5) (0 : Int32))) H := hP
  have hD : va_D A (zwD adD adD_parts adD_bytes adD_lows adD_highs cB cI cL (zD_length' (zD_parts' sD x_5) (0 : Int32))) := hD
  have hG : g_D_empty_w10 (zD_length' (zD_parts' sD x_5) (0 : Int32)) = some a := hG
  generalize zD_length' (zD_parts' sD x_5) (0 : Int32) = sD_10 at hP hD hG
  unfold g_D_empty_w10 at hG
  refine lv_aload_n hx hb d_D_empty_13 rfl (lv_at hl 0 rfl) ?_
  refine lv_iconst (v := (0 : Int32)) hx hb d_D_empty_14 (by decide) ?_
  refine va_put (D := (dC, dI)) (ci := 6) (v := .int (0 : Int32)) (ty := .int) (C := R_D) (T := F_D) (N := 6) hx hb hts zi_D zty_D zty_D_ok znm_D hown zz.1 hP hD hS 0 rfl rfl 5 (by decide) (hts (.fieldLink R_D 35 "WireCodec$Draft" "ranges" "I") zin_D_35) (fun _ h9 => h9) rfl (by decide +kernel) rfl rfl (Nat.le_of_ble_eq_true rfl) d_D_empty_15 (fun H locs hP hD hS => ?_)
  have hP : va_P (dC, dI) zcl (zwD adD adD_parts adD_bytes adD_lows adD_highs cB cI cL (zD_ranges' sD_10 (0 : Int32))) H := hP
  have hD : va_D A (zwD adD adD_parts adD_bytes adD_lows adD_highs cB cI cL (zD_ranges' sD_10 (0 : Int32))) := hD
  have hG : g_D_empty_w15 (zD_ranges' sD_10 (0 : Int32)) = some a := hG
  generalize zD_ranges' sD_10 (0 : Int32) = sD_15 at hP hD hG
  unfold g_D_empty_w15 at hG
  exact W.vret hx hb hr (fun t9 ht9 hW9 => ⟨⟨(sD_15), rfl, Option.some.inj hG, by rw [ht9]; exact hP, hD⟩, hS.F ht9⟩) hS.2.2 d_D_empty_18
set_option maxRecDepth 100000 in
set_option maxHeartbeats 4000000 in
theorem c_D_empty (l : Launch) (dC : Nat → ClassId) (dI : Nat → Nat → Nat) (cB cI cL : ClassId) (sz : Nat) (adD adD_parts adD_bytes adD_lows adD_highs : Nat) (N : Nat) (sD : zD) (a : zD) (hG : g_D_empty N sD = some a) : Met l y_D_empty (zw y_D_empty b_D_empty 1 none) ({ frames := 1, cells := 0, slots := 0, locals := 24 }) (va_Pc [.ref adD] (zpre dC dI cB cI cL sz (zwD adD adD_parts adD_bytes adD_lows adD_highs cB cI cL sD))) (q_D_empty dC dI cB cI cL (va_A (zwD adD adD_parts adD_bytes adD_lows adD_highs cB cI cL sD) sz) adD adD_parts adD_bytes adD_lows adD_highs a) 0 0 (va_A (zwD adD adD_parts adD_bytes adD_lows adD_highs cB cI cL sD) sz) := by
  refine Met.ofW (cc := b_D_empty) (maxL := 1) (ret := none) (by decide) rfl ?_
  intro p e s m args below meth c s₁ B hml hv
  obtain ⟨rfl, hsz, hP, zz, hD0⟩ := hv
  subst hsz
  have X := zx_of (F := 1) (L := 24) B hml (Nat.le_refl _) (Nat.le_refl _)
  have hD := hD0.self (sz := s.heap.size)
  have hA : ∀ q : Nat, s.heap.size ≤ q → va_A (zwD adD adD_parts adD_bytes adD_lows adD_highs cB cI cL sD) s.heap.size q := fun q h => Or.inr h
  have hl := lv_entry ([.ref adD]) (n := 1) (Nat.le_of_ble_eq_true rfl)
  rw [lg_entry_eq]
  generalize (lg_sl ([.ref adD]) ++ List.replicate (1 - (lg_sl ([.ref adD])).length) Slot.unset).toArray = ls at hl ⊢
  exact k_D_empty_0 X hA zz N sD a hG adD adD_parts adD_bytes adD_lows adD_highs _ _ hP hD va_S.rf ls hl
noncomputable def g_D_isFrame_22 (N : Nat) (sD : zD) : Option (Int32) := some ((0 : Int32))
noncomputable def g_D_isFrame_105 (N : Nat) (sD : zD) (s0 : Int32) : Option (Int32) := zg (narrow .boolean (.int s0) = .int s0) (some (s0))
noncomputable def g_D_isFrame_104 (N : Nat) (sD : zD) : Option (Int32) := g_D_isFrame_105 N sD (0 : Int32)
noncomputable def g_D_isFrame_c107 (r_107 : Int32) : Option (Int32) := zg (narrow .boolean (.int r_107) = .int r_107) (some (r_107))
noncomputable def g_D_isFrame_130 (N : Nat) (sD : zD) (s0 : Int32) : Option (Int32) := zg (narrow .boolean (.int s0) = .int s0) (some (s0))
noncomputable def g_D_isFrame_129 (N : Nat) (sD : zD) : Option (Int32) := g_D_isFrame_130 N sD (0 : Int32)
noncomputable def g_D_isFrame_c119 (N : Nat) (sD : zD) (r_119 : Int32) : Option (Int32) := if r_119 = (0 : Int32) then (g_D_isFrame_129 N sD) else (g_D_isFrame_130 N sD (1 : Int32))
noncomputable def g_D_isFrame_c112 (N : Nat) (sD : zD) (r_112 : Int32) : Option (Int32) := if r_112 = (0 : Int32) then (g_D_isFrame_129 N sD) else ((g_D_hasCounts N sD).bind (fun a => g_D_isFrame_c119 N sD a))
noncomputable def g_D_isFrame_168 (N : Nat) (sD : zD) (s0 : Int32) : Option (Int32) := zg (narrow .boolean (.int s0) = .int s0) (some (s0))
noncomputable def g_D_isFrame_167 (N : Nat) (sD : zD) : Option (Int32) := g_D_isFrame_168 N sD (0 : Int32)
noncomputable def g_D_isFrame_c157 (N : Nat) (sD : zD) (r_157 : Int32) : Option (Int32) := if r_157 = (0 : Int32) then (g_D_isFrame_167 N sD) else (g_D_isFrame_168 N sD (1 : Int32))
noncomputable def g_D_isFrame_c149 (N : Nat) (sD : zD) (v1 : Int32) (r_149 : Int32) : Option (Int32) := if r_149 = (0 : Int32) then (g_D_isFrame_167 N sD) else ((g_D_hasShape sD v1).bind (fun a => g_D_isFrame_c157 N sD a))
noncomputable def g_D_isFrame_c137 (N : Nat) (sD : zD) (v1 : Int32) (r_137 : Int32) : Option (Int32) := if r_137 = (0 : Int32) then (g_D_isFrame_167 N sD) else (zg (vp_in (3 : Int32) 12) ((g_D_isBit ((zD_parts sD) (3 : Int32).toNatClampNeg)).bind (fun a => g_D_isFrame_c149 N sD v1 a)))
noncomputable def g_D_isFrame_c171 (r_171 : Int32) : Option (Int32) := zg (narrow .boolean (.int r_171) = .int r_171) (some (r_171))
noncomputable def g_D_isFrame_169 (N : Nat) (sD : zD) (v1 : Int32) : Option (Int32) := (g_D_hasShape sD v1).bind (fun a => g_D_isFrame_c171 a)
noncomputable def g_D_isFrame_24 (N : Nat) (sD : zD) (v1 : Int32) : Option (Int32) := if v1 = (0 : Int32) then (zg (vp_in (0 : Int32) 12) (if (lg_cmp ((zD_parts sD) (0 : Int32).toNatClampNeg) (1 : Int64)) < (0 : Int32) then (g_D_isFrame_104 N sD) else (zg (vp_in (0 : Int32) 12) (if (0 : Int32) < (lg_cmp ((zD_parts sD) (0 : Int32).toNatClampNeg) (2000 : Int64)) then (g_D_isFrame_104 N sD) else (g_D_isFrame_105 N sD (1 : Int32)))))) else if v1 = (2 : Int32) then ((g_D_isAck sD).bind (fun a => g_D_isFrame_c107 a)) else if v1 = (3 : Int32) then ((g_D_isAck sD).bind (fun a => g_D_isFrame_c112 N sD a)) else if v1 = (8 : Int32) then (zg (vp_in (2 : Int32) 12) ((g_D_isBit ((zD_parts sD) (2 : Int32).toNatClampNeg)).bind (fun a => g_D_isFrame_c137 N sD v1 a))) else (g_D_isFrame_169 N sD v1)
noncomputable def g_D_isFrame (N : Nat) (sD : zD) (v1 : Int32) : Option (Int32) := if v1 < (0 : Int32) then (g_D_isFrame_22 N sD) else (if (30 : Int32) < v1 then (g_D_isFrame_22 N sD) else (if v1 ≤ (8 : Int32) then (g_D_isFrame_24 N sD v1) else (if (15 : Int32) < v1 then (g_D_isFrame_24 N sD v1) else (g_D_isFrame_22 N sD))))
def q_D_isFrame (dC : Nat → ClassId) (dI : Nat → Nat → Nat) (cB cI cL : ClassId) (A : Nat → Prop) (adD : Nat) (adD_parts : Nat) (adD_bytes : Nat) (adD_lows : Nat) (adD_highs : Nat) (sD : zD) (a : Int32) : Array Value → State → Outcome → State → Prop := va_Qi (fun (r : Int32) (u : Unit) => (r) = a) (fun u U => va_P (dC, dI) zcl (zwD adD adD_parts adD_bytes adD_lows adD_highs cB cI cL sD) U.heap ∧ va_D A (zwD adD adD_parts adD_bytes adD_lows adD_highs cB cI cL sD)) A
set_option maxRecDepth 100000 in
set_option maxHeartbeats 4000000 in
theorem k_D_isFrame_22 {p : Program} {l : Launch} {e : Env} {R : Room} {s : State} {m : MethodId} {args : Array Value} {below : List Frame} {meth : Method} {c : Code} {dC : Nat → ClassId} {dI : Nat → Nat → Nat} {cB cI cL : ClassId} {A : Nat → Prop} (X : zx p s m args meth c R R_D b_D_isFrame (some .boolean) 2 2 50) (hA : ∀ q, s.heap.size ≤ q → A q) (zz : zk dC dI cB cI cL A s)  (N : Nat) (sD : zD) (a : Int32) (hG : g_D_isFrame_22 N sD = some a) (adD adD_parts adD_bytes adD_lows adD_highs : Nat) (H : Heap) (locs : List Loc) (hP : va_P (dC, dI) zcl (zwD adD adD_parts adD_bytes adD_lows adD_highs cB cI cL sD) H) (hD : va_D A (zwD adD adD_parts adD_bytes adD_lows adD_highs cB cI cL sD)) (hS : va_S A s.heap H locs) (ls : Array Slot) (hl : lv_has ls 2 []) : W p l e R s m args below meth c H locs 0 0 (MQ below (q_D_isFrame dC dI cB cI cL A adD adD_parts adD_bytes adD_lows adD_highs sD a) args s 0 0 A) (F0 m 22 ls []) := by
  obtain ⟨hx, hb, hr, hml, hown, hts, hlocks, hRf, hRl⟩ := id X
  unfold g_D_isFrame_22 at hG
  refine lv_iconst (v := (0 : Int32)) hx hb d_D_isFrame_22 (by decide) ?_
  exact W.zret (v := (0 : Int32)) hx hb hr (by decide) (fun t9 ht9 hW9 => ⟨⟨(0 : Int32), (), rfl, Option.some.inj hG, by rw [ht9]; exact hP, hD⟩, hS.F ht9⟩) hS.2.2 d_D_isFrame_23
set_option maxRecDepth 100000 in
set_option maxHeartbeats 4000000 in
theorem k_D_isFrame_105 {p : Program} {l : Launch} {e : Env} {R : Room} {s : State} {m : MethodId} {args : Array Value} {below : List Frame} {meth : Method} {c : Code} {dC : Nat → ClassId} {dI : Nat → Nat → Nat} {cB cI cL : ClassId} {A : Nat → Prop} (X : zx p s m args meth c R R_D b_D_isFrame (some .boolean) 2 2 50) (hA : ∀ q, s.heap.size ≤ q → A q) (zz : zk dC dI cB cI cL A s)  (N : Nat) (sD : zD) (s0 : Int32) (a : Int32) (hG : g_D_isFrame_105 N sD s0 = some a) (adD adD_parts adD_bytes adD_lows adD_highs : Nat) (H : Heap) (locs : List Loc) (hP : va_P (dC, dI) zcl (zwD adD adD_parts adD_bytes adD_lows adD_highs cB cI cL sD) H) (hD : va_D A (zwD adD adD_parts adD_bytes adD_lows adD_highs cB cI cL sD)) (hS : va_S A s.heap H locs) (ls : Array Slot) (hl : lv_has ls 2 []) : W p l e R s m args below meth c H locs 0 0 (MQ below (q_D_isFrame dC dI cB cI cL A adD adD_parts adD_bytes adD_lows adD_highs sD a) args s 0 0 A) (F0 m 105 ls [.int s0]) := by
  obtain ⟨hx, hb, hr, hml, hown, hts, hlocks, hRf, hRl⟩ := id X
  unfold g_D_isFrame_105 at hG
  obtain ⟨hnb, hG⟩ := zgd hG
  exact W.zret (v := s0) hx hb hr hnb (fun t9 ht9 hW9 => ⟨⟨s0, (), rfl, Option.some.inj hG, by rw [ht9]; exact hP, hD⟩, hS.F ht9⟩) hS.2.2 d_D_isFrame_105
set_option maxRecDepth 100000 in
set_option maxHeartbeats 4000000 in
theorem k_D_isFrame_104 {p : Program} {l : Launch} {e : Env} {R : Room} {s : State} {m : MethodId} {args : Array Value} {below : List Frame} {meth : Method} {c : Code} {dC : Nat → ClassId} {dI : Nat → Nat → Nat} {cB cI cL : ClassId} {A : Nat → Prop} (X : zx p s m args meth c R R_D b_D_isFrame (some .boolean) 2 2 50) (hA : ∀ q, s.heap.size ≤ q → A q) (zz : zk dC dI cB cI cL A s)  (N : Nat) (sD : zD) (a : Int32) (hG : g_D_isFrame_104 N sD = some a) (adD adD_parts adD_bytes adD_lows adD_highs : Nat) (H : Heap) (locs : List Loc) (hP : va_P (dC, dI) zcl (zwD adD adD_parts adD_bytes adD_lows adD_highs cB cI cL sD) H) (hD : va_D A (zwD adD adD_parts adD_bytes adD_lows adD_highs cB cI cL sD)) (hS : va_S A s.heap H locs) (ls : Array Slot) (hl : lv_has ls 2 []) : W p l e R s m args below meth c H locs 0 0 (MQ below (q_D_isFrame dC dI cB cI cL A adD adD_parts adD_bytes adD_lows adD_highs sD a) args s 0 0 A) (F0 m 104 ls []) := by
  obtain ⟨hx, hb, hr, hml, hown, hts, hlocks, hRf, hRl⟩ := id X
  unfold g_D_isFrame_104 at hG
  refine lv_iconst (v := (0 : Int32)) hx hb d_D_isFrame_104 (by decide) ?_
  exact k_D_isFrame_105 X hA zz N sD (0 : Int32) _ hG adD adD_parts adD_bytes adD_lows adD_highs _ _ hP hD hS _ (lv_sub hl [] rfl)
set_option maxRecDepth 100000 in
set_option maxHeartbeats 4000000 in
theorem k_D_isFrame_130 {p : Program} {l : Launch} {e : Env} {R : Room} {s : State} {m : MethodId} {args : Array Value} {below : List Frame} {meth : Method} {c : Code} {dC : Nat → ClassId} {dI : Nat → Nat → Nat} {cB cI cL : ClassId} {A : Nat → Prop} (X : zx p s m args meth c R R_D b_D_isFrame (some .boolean) 2 2 50) (hA : ∀ q, s.heap.size ≤ q → A q) (zz : zk dC dI cB cI cL A s)  (N : Nat) (sD : zD) (s0 : Int32) (a : Int32) (hG : g_D_isFrame_130 N sD s0 = some a) (adD adD_parts adD_bytes adD_lows adD_highs : Nat) (H : Heap) (locs : List Loc) (hP : va_P (dC, dI) zcl (zwD adD adD_parts adD_bytes adD_lows adD_highs cB cI cL sD) H) (hD : va_D A (zwD adD adD_parts adD_bytes adD_lows adD_highs cB cI cL sD)) (hS : va_S A s.heap H locs) (ls : Array Slot) (hl : lv_has ls 2 []) : W p l e R s m args below meth c H locs 0 0 (MQ below (q_D_isFrame dC dI cB cI cL A adD adD_parts adD_bytes adD_lows adD_highs sD a) args s 0 0 A) (F0 m 130 ls [.int s0]) := by
  obtain ⟨hx, hb, hr, hml, hown, hts, hlocks, hRf, hRl⟩ := id X
  unfold g_D_isFrame_130 at hG
  obtain ⟨hnb, hG⟩ := zgd hG
  exact W.zret (v := s0) hx hb hr hnb (fun t9 ht9 hW9 => ⟨⟨s0, (), rfl, Option.some.inj hG, by rw [ht9]; exact hP, hD⟩, hS.F ht9⟩) hS.2.2 d_D_isFrame_130
set_option maxRecDepth 100000 in
set_option maxHeartbeats 4000000 in
theorem k_D_isFrame_129 {p : Program} {l : Launch} {e : Env} {R : Room} {s : State} {m : MethodId} {args : Array Value} {below : List Frame} {meth : Method} {c : Code} {dC : Nat → ClassId} {dI : Nat → Nat → Nat} {cB cI cL : ClassId} {A : Nat → Prop} (X : zx p s m args meth c R R_D b_D_isFrame (some .boolean) 2 2 50) (hA : ∀ q, s.heap.size ≤ q → A q) (zz : zk dC dI cB cI cL A s)  (N : Nat) (sD : zD) (a : Int32) (hG : g_D_isFrame_129 N sD = some a) (adD adD_parts adD_bytes adD_lows adD_highs : Nat) (H : Heap) (locs : List Loc) (hP : va_P (dC, dI) zcl (zwD adD adD_parts adD_bytes adD_lows adD_highs cB cI cL sD) H) (hD : va_D A (zwD adD adD_parts adD_bytes adD_lows adD_highs cB cI cL sD)) (hS : va_S A s.heap H locs) (ls : Array Slot) (hl : lv_has ls 2 []) : W p l e R s m args below meth c H locs 0 0 (MQ below (q_D_isFrame dC dI cB cI cL A adD adD_parts adD_bytes adD_lows adD_highs sD a) args s 0 0 A) (F0 m 129 ls []) := by
  obtain ⟨hx, hb, hr, hml, hown, hts, hlocks, hRf, hRl⟩ := id X
  unfold g_D_isFrame_129 at hG
  refine lv_iconst (v := (0 : Int32)) hx hb d_D_isFrame_129 (by decide) ?_
  exact k_D_isFrame_130 X hA zz N sD (0 : Int32) _ hG adD adD_parts adD_bytes adD_lows adD_highs _ _ hP hD hS _ (lv_sub hl [] rfl)
set_option maxRecDepth 100000 in
set_option maxHeartbeats 4000000 in
theorem k_D_isFrame_168 {p : Program} {l : Launch} {e : Env} {R : Room} {s : State} {m : MethodId} {args : Array Value} {below : List Frame} {meth : Method} {c : Code} {dC : Nat → ClassId} {dI : Nat → Nat → Nat} {cB cI cL : ClassId} {A : Nat → Prop} (X : zx p s m args meth c R R_D b_D_isFrame (some .boolean) 2 2 50) (hA : ∀ q, s.heap.size ≤ q → A q) (zz : zk dC dI cB cI cL A s)  (N : Nat) (sD : zD) (s0 : Int32) (a : Int32) (hG : g_D_isFrame_168 N sD s0 = some a) (adD adD_parts adD_bytes adD_lows adD_highs : Nat) (H : Heap) (locs : List Loc) (hP : va_P (dC, dI) zcl (zwD adD adD_parts adD_bytes adD_lows adD_highs cB cI cL sD) H) (hD : va_D A (zwD adD adD_parts adD_bytes adD_lows adD_highs cB cI cL sD)) (hS : va_S A s.heap H locs) (ls : Array Slot) (hl : lv_has ls 2 []) : W p l e R s m args below meth c H locs 0 0 (MQ below (q_D_isFrame dC dI cB cI cL A adD adD_parts adD_bytes adD_lows adD_highs sD a) args s 0 0 A) (F0 m 168 ls [.int s0]) := by
  obtain ⟨hx, hb, hr, hml, hown, hts, hlocks, hRf, hRl⟩ := id X
  unfold g_D_isFrame_168 at hG
  obtain ⟨hnb, hG⟩ := zgd hG
  exact W.zret (v := s0) hx hb hr hnb (fun t9 ht9 hW9 => ⟨⟨s0, (), rfl, Option.some.inj hG, by rw [ht9]; exact hP, hD⟩, hS.F ht9⟩) hS.2.2 d_D_isFrame_168
set_option maxRecDepth 100000 in
set_option maxHeartbeats 4000000 in
theorem k_D_isFrame_167 {p : Program} {l : Launch} {e : Env} {R : Room} {s : State} {m : MethodId} {args : Array Value} {below : List Frame} {meth : Method} {c : Code} {dC : Nat → ClassId} {dI : Nat → Nat → Nat} {cB cI cL : ClassId} {A : Nat → Prop} (X : zx p s m args meth c R R_D b_D_isFrame (some .boolean) 2 2 50) (hA : ∀ q, s.heap.size ≤ q → A q) (zz : zk dC dI cB cI cL A s)  (N : Nat) (sD : zD) (a : Int32) (hG : g_D_isFrame_167 N sD = some a) (adD adD_parts adD_bytes adD_lows adD_highs : Nat) (H : Heap) (locs : List Loc) (hP : va_P (dC, dI) zcl (zwD adD adD_parts adD_bytes adD_lows adD_highs cB cI cL sD) H) (hD : va_D A (zwD adD adD_parts adD_bytes adD_lows adD_highs cB cI cL sD)) (hS : va_S A s.heap H locs) (ls : Array Slot) (hl : lv_has ls 2 []) : W p l e R s m args below meth c H locs 0 0 (MQ below (q_D_isFrame dC dI cB cI cL A adD adD_parts adD_bytes adD_lows adD_highs sD a) args s 0 0 A) (F0 m 167 ls []) := by
  obtain ⟨hx, hb, hr, hml, hown, hts, hlocks, hRf, hRl⟩ := id X
  unfold g_D_isFrame_167 at hG
  refine lv_iconst (v := (0 : Int32)) hx hb d_D_isFrame_167 (by decide) ?_
  exact k_D_isFrame_168 X hA zz N sD (0 : Int32) _ hG adD adD_parts adD_bytes adD_lows adD_highs _ _ hP hD hS _ (lv_sub hl [] rfl)
set_option maxRecDepth 100000 in
set_option maxHeartbeats 4000000 in
theorem k_D_isFrame_169 {p : Program} {l : Launch} {e : Env} {R : Room} {s : State} {m : MethodId} {args : Array Value} {below : List Frame} {meth : Method} {c : Code} {dC : Nat → ClassId} {dI : Nat → Nat → Nat} {cB cI cL : ClassId} {A : Nat → Prop} (X : zx p s m args meth c R R_D b_D_isFrame (some .boolean) 2 2 50) (hA : ∀ q, s.heap.size ≤ q → A q) (zz : zk dC dI cB cI cL A s)  (N : Nat) (sD : zD) (v1 : Int32) (a : Int32) (hG : g_D_isFrame_169 N sD v1 = some a) (adD adD_parts adD_bytes adD_lows adD_highs : Nat) (H : Heap) (locs : List Loc) (hP : va_P (dC, dI) zcl (zwD adD adD_parts adD_bytes adD_lows adD_highs cB cI cL sD) H) (hD : va_D A (zwD adD adD_parts adD_bytes adD_lows adD_highs cB cI cL sD)) (hS : va_S A s.heap H locs) (ls : Array Slot) (hl : lv_has ls 2 [(0, .ref adD), (1, .int v1)]) : W p l e R s m args below meth c H locs 0 0 (MQ below (q_D_isFrame dC dI cB cI cL A adD adD_parts adD_bytes adD_lows adD_highs sD a) args s 0 0 A) (F0 m 169 ls []) := by
  obtain ⟨hx, hb, hr, hml, hown, hts, hlocks, hRf, hRl⟩ := id X
  unfold g_D_isFrame_169 at hG
  refine lv_aload_n hx hb d_D_isFrame_169 rfl (lv_at hl 0 rfl) ?_
  refine lv_iload_n hx hb d_D_isFrame_170 rfl (lv_at hl 1 rfl) ?_
  obtain ⟨a_171, hx_171, hG⟩ := zb hG
  have hr_171 := zrunV (p := p) (e := e) (below := below) (meth := meth) (As := [.int v1]) (rest := []) (st0 := [.int v1, .ref adD]) (cells := 0) (slots := 0) X zz hP hD hS hA [0, 1, 2, 3, 4] (by decide) rfl (c_D_hasShape l dC dI cB cI cL H.size adD adD_parts adD_bytes adD_lows adD_highs sD v1 _ hx_171) zy_D_hasShape zv_D_hasShape (hts (.methodLink R_D 53 y_D_hasShape) zin_D_53) hl rfl rfl d_D_isFrame_171 (lv_room (Nat.le_of_ble_eq_true rfl)) rfl rfl ⟨Nat.le_trans (Nat.le_of_ble_eq_true rfl) hRf, Nat.le_trans (Nat.le_of_ble_eq_true rfl) hRl⟩ ⟨Nat.zero_le _, Nat.zero_le _⟩ 0 6 rfl rfl
  refine zcalli (wr := ([] : va_W)) hr_171 hP hD hS hA [0, 1, 2, 3, 4] [] rfl rfl (by decide) (by decide) (fun r_171 u_171 H locs hw_171 hP hD hS => ?_)
  subst hw_171
  have hP : va_P (dC, dI) zcl (zwD adD adD_parts adD_bytes adD_lows adD_highs cB cI cL sD) H := hP
  have hD : va_D A (zwD adD adD_parts adD_bytes adD_lows adD_highs cB cI cL sD) := hD
  have hG : g_D_isFrame_c171 r_171 = some a := hG
  unfold g_D_isFrame_c171 at hG
  obtain ⟨hnb, hG⟩ := zgd hG
  exact W.zret (v := r_171) hx hb hr hnb (fun t9 ht9 hW9 => ⟨⟨r_171, (), rfl, Option.some.inj hG, by rw [ht9]; exact hP, hD⟩, hS.F ht9⟩) hS.2.2 d_D_isFrame_174
set_option maxRecDepth 100000 in
set_option maxHeartbeats 4000000 in
theorem k_D_isFrame_24 {p : Program} {l : Launch} {e : Env} {R : Room} {s : State} {m : MethodId} {args : Array Value} {below : List Frame} {meth : Method} {c : Code} {dC : Nat → ClassId} {dI : Nat → Nat → Nat} {cB cI cL : ClassId} {A : Nat → Prop} (X : zx p s m args meth c R R_D b_D_isFrame (some .boolean) 2 2 50) (hA : ∀ q, s.heap.size ≤ q → A q) (zz : zk dC dI cB cI cL A s)  (N : Nat) (sD : zD) (v1 : Int32) (a : Int32) (hG : g_D_isFrame_24 N sD v1 = some a) (adD adD_parts adD_bytes adD_lows adD_highs : Nat) (H : Heap) (locs : List Loc) (hP : va_P (dC, dI) zcl (zwD adD adD_parts adD_bytes adD_lows adD_highs cB cI cL sD) H) (hD : va_D A (zwD adD adD_parts adD_bytes adD_lows adD_highs cB cI cL sD)) (hS : va_S A s.heap H locs) (ls : Array Slot) (hl : lv_has ls 2 [(0, .ref adD), (1, .int v1)]) : W p l e R s m args below meth c H locs 0 0 (MQ below (q_D_isFrame dC dI cB cI cL A adD adD_parts adD_bytes adD_lows adD_highs sD a) args s 0 0 A) (F0 m 24 ls []) := by
  obtain ⟨hx, hb, hr, hml, hown, hts, hlocks, hRf, hRl⟩ := id X
  unfold g_D_isFrame_24 at hG
  refine lv_iload_n hx hb d_D_isFrame_24 rfl (lv_at hl 1 rfl) ?_
  by_cases hlo : v1.toInt < 0 ∨ 8 < v1.toInt
  · have hG := zf hG (fun h9 => by rw [h9] at hlo; revert hlo; decide)
    have hG := zf hG (fun h9 => by rw [h9] at hlo; revert hlo; decide)
    have hG := zf hG (fun h9 => by rw [h9] at hlo; revert hlo; decide)
    have hG := zf hG (fun h9 => by rw [h9] at hlo; revert hlo; decide)
    refine lv_tableOut (tgt := 169) hx hb d_D_isFrame_25 hlo (by decide) ?_
    exact k_D_isFrame_169 X hA zz N sD v1 _ hG adD adD_parts adD_bytes adD_lows adD_highs _ _ hP hD hS _ (lv_sub hl [0, 1] rfl)
  obtain ⟨h1, h2⟩ := zlohi hlo
  obtain ⟨j9, hj9, hx9⟩ := zrng (lo := 0) (hi := 8) h1 h2
  have hj9 : j9 < 9 := hj9
  by_cases e9 : j9 = 0
  · subst e9
    have hc : v1 = (0 : Int32) := hx9
    have hG := zt hG hc
    refine lv_tableIn (tgt := 76) hx hb d_D_isFrame_25 h1 h2 (by rw [hc]; rfl) (by decide) ?_
    refine lv_aload_n hx hb d_D_isFrame_76 rfl (lv_at hl 0 rfl) ?_
    refine va_get (D := (dC, dI)) (ci := 6) (v := .ref adD_parts) (C := R_D) (T := F_D) (N := 6) hx hb hts zi_D hown zz.1 hP 0 rfl rfl 0 (by decide) (hts (.fieldLink R_D 9 "WireCodec$Draft" "parts" "[J") zin_D_9) (fun _ h9 => h9) rfl d_D_isFrame_77 ?_
    refine lv_iconst (v := (0 : Int32)) hx hb d_D_isFrame_80 (by decide) ?_
    obtain ⟨hin, hG⟩ := zgd hG
    refine va_lald hx hb zz.1 hP 1 2 rfl rfl hin d_D_isFrame_81 ?_
    refine lv_lconst (v := (1 : Int64)) hx hb d_D_isFrame_82 (by decide) ?_
    refine W.lcmp hx hb d_D_isFrame_83 ?_
    refine lv_if_lt (tgt := 104) hx hb d_D_isFrame_84 (by decide) (fun hc => ?_) (fun hc => ?_)
    · have hG := zt hG hc
      exact k_D_isFrame_104 X hA zz N sD _ hG adD adD_parts adD_bytes adD_lows adD_highs _ _ hP hD hS _ (lv_sub hl [] rfl)
    · have hG := zf hG hc
      refine lv_aload_n hx hb d_D_isFrame_87 rfl (lv_at hl 0 rfl) ?_
      refine va_get (D := (dC, dI)) (ci := 6) (v := .ref adD_parts) (C := R_D) (T := F_D) (N := 6) hx hb hts zi_D hown zz.1 hP 0 rfl rfl 0 (by decide) (hts (.fieldLink R_D 9 "WireCodec$Draft" "parts" "[J") zin_D_9) (fun _ h9 => h9) rfl d_D_isFrame_88 ?_
      refine lv_iconst (v := (0 : Int32)) hx hb d_D_isFrame_91 (by decide) ?_
      obtain ⟨hin, hG⟩ := zgd hG
      refine va_lald hx hb zz.1 hP 1 2 rfl rfl hin d_D_isFrame_92 ?_
      refine lv_ldc2 (v := (2000 : Int64)) hx hb hown (hts (.constantLong R_D 40 (2000 : Int64)) zin_D_40) d_D_isFrame_93 ?_
      refine W.lcmp hx hb d_D_isFrame_96 ?_
      refine lv_if_gt (tgt := 104) hx hb d_D_isFrame_97 (by decide) (fun hc => ?_) (fun hc => ?_)
      · have hG := zt hG hc
        exact k_D_isFrame_104 X hA zz N sD _ hG adD adD_parts adD_bytes adD_lows adD_highs _ _ hP hD hS _ (lv_sub hl [] rfl)
      · have hG := zf hG hc
        refine lv_iconst (v := (1 : Int32)) hx hb d_D_isFrame_100 (by decide) ?_
        refine lv_goto (tgt := 105) hx hb d_D_isFrame_101 (by decide) ?_
        exact k_D_isFrame_105 X hA zz N sD (1 : Int32) _ hG adD adD_parts adD_bytes adD_lows adD_highs _ _ hP hD hS _ (lv_sub hl [] rfl)
  by_cases e9 : j9 = 1
  · subst e9
    have hc : v1 = (1 : Int32) := hx9
    have hG := zf hG (by rw [hc]; decide)
    have hG := zf hG (by rw [hc]; decide)
    have hG := zf hG (by rw [hc]; decide)
    have hG := zf hG (by rw [hc]; decide)
    refine lv_tableIn (tgt := 169) hx hb d_D_isFrame_25 h1 h2 (by rw [hc]; rfl) (by decide) ?_
    exact k_D_isFrame_169 X hA zz N sD v1 _ hG adD adD_parts adD_bytes adD_lows adD_highs _ _ hP hD hS _ (lv_sub hl [0, 1] rfl)
  by_cases e9 : j9 = 2
  · subst e9
    have hc : v1 = (2 : Int32) := hx9
    have hG := zf hG (by rw [hc]; decide)
    have hG := zt hG hc
    refine lv_tableIn (tgt := 106) hx hb d_D_isFrame_25 h1 h2 (by rw [hc]; rfl) (by decide) ?_
    refine lv_aload_n hx hb d_D_isFrame_106 rfl (lv_at hl 0 rfl) ?_
    obtain ⟨a_107, hx_107, hG⟩ := zb hG
    have hr_107 := zrunV (p := p) (e := e) (below := below) (meth := meth) (As := []) (rest := []) (st0 := [.ref adD]) (cells := 0) (slots := 0) X zz hP hD hS hA [0, 1, 2, 3, 4] (by decide) rfl (c_D_isAck l dC dI cB cI cL H.size adD adD_parts adD_bytes adD_lows adD_highs sD _ hx_107) zy_D_isAck zv_D_isAck (hts (.methodLink R_D 42 y_D_isAck) zin_D_42) hl rfl rfl d_D_isFrame_107 (lv_room (Nat.le_of_ble_eq_true rfl)) rfl rfl ⟨Nat.le_trans (Nat.le_of_ble_eq_true rfl) hRf, Nat.le_trans (Nat.le_of_ble_eq_true rfl) hRl⟩ ⟨Nat.zero_le _, Nat.zero_le _⟩ 0 6 rfl rfl
    refine zcalli (wr := ([] : va_W)) hr_107 hP hD hS hA [0, 1, 2, 3, 4] [] rfl rfl (by decide) (by decide) (fun r_107 u_107 H locs hw_107 hP hD hS => ?_)
    subst hw_107
    have hP : va_P (dC, dI) zcl (zwD adD adD_parts adD_bytes adD_lows adD_highs cB cI cL sD) H := hP
    have hD : va_D A (zwD adD adD_parts adD_bytes adD_lows adD_highs cB cI cL sD) := hD
    have hG : g_D_isFrame_c107 r_107 = some a := hG
    unfold g_D_isFrame_c107 at hG
    obtain ⟨hnb, hG⟩ := zgd hG
    exact W.zret (v := r_107) hx hb hr hnb (fun t9 ht9 hW9 => ⟨⟨r_107, (), rfl, Option.some.inj hG, by rw [ht9]; exact hP, hD⟩, hS.F ht9⟩) hS.2.2 d_D_isFrame_110
  by_cases e9 : j9 = 3
  · subst e9
    have hc : v1 = (3 : Int32) := hx9
    have hG := zf hG (by rw [hc]; decide)
    have hG := zf hG (by rw [hc]; decide)
    have hG := zt hG hc
    refine lv_tableIn (tgt := 111) hx hb d_D_isFrame_25 h1 h2 (by rw [hc]; rfl) (by decide) ?_
    refine lv_aload_n hx hb d_D_isFrame_111 rfl (lv_at hl 0 rfl) ?_
    obtain ⟨a_112, hx_112, hG⟩ := zb hG
    have hr_112 := zrunV (p := p) (e := e) (below := below) (meth := meth) (As := []) (rest := []) (st0 := [.ref adD]) (cells := 0) (slots := 0) X zz hP hD hS hA [0, 1, 2, 3, 4] (by decide) rfl (c_D_isAck l dC dI cB cI cL H.size adD adD_parts adD_bytes adD_lows adD_highs sD _ hx_112) zy_D_isAck zv_D_isAck (hts (.methodLink R_D 42 y_D_isAck) zin_D_42) hl rfl rfl d_D_isFrame_112 (lv_room (Nat.le_of_ble_eq_true rfl)) rfl rfl ⟨Nat.le_trans (Nat.le_of_ble_eq_true rfl) hRf, Nat.le_trans (Nat.le_of_ble_eq_true rfl) hRl⟩ ⟨Nat.zero_le _, Nat.zero_le _⟩ 0 6 rfl rfl
    refine zcalli (wr := ([] : va_W)) hr_112 hP hD hS hA [0, 1, 2, 3, 4] [] rfl rfl (by decide) (by decide) (fun r_112 u_112 H locs hw_112 hP hD hS => ?_)
    subst hw_112
    have hP : va_P (dC, dI) zcl (zwD adD adD_parts adD_bytes adD_lows adD_highs cB cI cL sD) H := hP
    have hD : va_D A (zwD adD adD_parts adD_bytes adD_lows adD_highs cB cI cL sD) := hD
    have hG : g_D_isFrame_c112 N sD r_112 = some a := hG
    unfold g_D_isFrame_c112 at hG
    refine lv_if_eq (tgt := 129) hx hb d_D_isFrame_115 (by decide) (fun hc => ?_) (fun hc => ?_)
    · have hG := zt hG hc
      exact k_D_isFrame_129 X hA zz N sD _ hG adD adD_parts adD_bytes adD_lows adD_highs _ _ hP hD hS _ (lv_sub hl [] rfl)
    · have hG := zf hG hc
      refine lv_aload_n hx hb d_D_isFrame_118 rfl (lv_at hl 0 rfl) ?_
      obtain ⟨a_119, hx_119, hG⟩ := zb hG
      have hr_119 := zrunV (p := p) (e := e) (below := below) (meth := meth) (As := []) (rest := []) (st0 := [.ref adD]) (cells := 0) (slots := 0) X zz hP hD hS hA [0, 1, 2, 3, 4] (by decide) rfl (c_D_hasCounts l dC dI cB cI cL H.size adD adD_parts adD_bytes adD_lows adD_highs N sD _ hx_119) zy_D_hasCounts zv_D_hasCounts (hts (.methodLink R_D 46 y_D_hasCounts) zin_D_46) hl rfl rfl d_D_isFrame_119 (lv_room (Nat.le_of_ble_eq_true rfl)) rfl rfl ⟨Nat.le_trans (Nat.le_of_ble_eq_true rfl) hRf, Nat.le_trans (Nat.le_of_ble_eq_true rfl) hRl⟩ ⟨Nat.zero_le _, Nat.zero_le _⟩ 0 6 rfl rfl
      refine zcalli (wr := ([] : va_W)) hr_119 hP hD hS hA [0, 1, 2, 3, 4] [] rfl rfl (by decide) (by decide) (fun r_119 u_119 H locs hw_119 hP hD hS => ?_)
      subst hw_119
      have hP : va_P (dC, dI) zcl (zwD adD adD_parts adD_bytes adD_lows adD_highs cB cI cL sD) H := hP
      have hD : va_D A (zwD adD adD_parts adD_bytes adD_lows adD_highs cB cI cL sD) := hD
      have hG : g_D_isFrame_c119 N sD r_119 = some a := hG
      unfold g_D_isFrame_c119 at hG
      refine lv_if_eq (tgt := 129) hx hb d_D_isFrame_122 (by decide) (fun hc => ?_) (fun hc => ?_)
      · have hG := zt hG hc
        exact k_D_isFrame_129 X hA zz N sD _ hG adD adD_parts adD_bytes adD_lows adD_highs _ _ hP hD hS _ (lv_sub hl [] rfl)
      · have hG := zf hG hc
        refine lv_iconst (v := (1 : Int32)) hx hb d_D_isFrame_125 (by decide) ?_
        refine lv_goto (tgt := 130) hx hb d_D_isFrame_126 (by decide) ?_
        exact k_D_isFrame_130 X hA zz N sD (1 : Int32) _ hG adD adD_parts adD_bytes adD_lows adD_highs _ _ hP hD hS _ (lv_sub hl [] rfl)
  by_cases e9 : j9 = 4
  · subst e9
    have hc : v1 = (4 : Int32) := hx9
    have hG := zf hG (by rw [hc]; decide)
    have hG := zf hG (by rw [hc]; decide)
    have hG := zf hG (by rw [hc]; decide)
    have hG := zf hG (by rw [hc]; decide)
    refine lv_tableIn (tgt := 169) hx hb d_D_isFrame_25 h1 h2 (by rw [hc]; rfl) (by decide) ?_
    exact k_D_isFrame_169 X hA zz N sD v1 _ hG adD adD_parts adD_bytes adD_lows adD_highs _ _ hP hD hS _ (lv_sub hl [0, 1] rfl)
  by_cases e9 : j9 = 5
  · subst e9
    have hc : v1 = (5 : Int32) := hx9
    have hG := zf hG (by rw [hc]; decide)
    have hG := zf hG (by rw [hc]; decide)
    have hG := zf hG (by rw [hc]; decide)
    have hG := zf hG (by rw [hc]; decide)
    refine lv_tableIn (tgt := 169) hx hb d_D_isFrame_25 h1 h2 (by rw [hc]; rfl) (by decide) ?_
    exact k_D_isFrame_169 X hA zz N sD v1 _ hG adD adD_parts adD_bytes adD_lows adD_highs _ _ hP hD hS _ (lv_sub hl [0, 1] rfl)
  by_cases e9 : j9 = 6
  · subst e9
    have hc : v1 = (6 : Int32) := hx9
    have hG := zf hG (by rw [hc]; decide)
    have hG := zf hG (by rw [hc]; decide)
    have hG := zf hG (by rw [hc]; decide)
    have hG := zf hG (by rw [hc]; decide)
    refine lv_tableIn (tgt := 169) hx hb d_D_isFrame_25 h1 h2 (by rw [hc]; rfl) (by decide) ?_
    exact k_D_isFrame_169 X hA zz N sD v1 _ hG adD adD_parts adD_bytes adD_lows adD_highs _ _ hP hD hS _ (lv_sub hl [0, 1] rfl)
  by_cases e9 : j9 = 7
  · subst e9
    have hc : v1 = (7 : Int32) := hx9
    have hG := zf hG (by rw [hc]; decide)
    have hG := zf hG (by rw [hc]; decide)
    have hG := zf hG (by rw [hc]; decide)
    have hG := zf hG (by rw [hc]; decide)
    refine lv_tableIn (tgt := 169) hx hb d_D_isFrame_25 h1 h2 (by rw [hc]; rfl) (by decide) ?_
    exact k_D_isFrame_169 X hA zz N sD v1 _ hG adD adD_parts adD_bytes adD_lows adD_highs _ _ hP hD hS _ (lv_sub hl [0, 1] rfl)
  by_cases e9 : j9 = 8
  · subst e9
    have hc : v1 = (8 : Int32) := hx9
    have hG := zf hG (by rw [hc]; decide)
    have hG := zf hG (by rw [hc]; decide)
    have hG := zf hG (by rw [hc]; decide)
    have hG := zt hG hc
    refine lv_tableIn (tgt := 131) hx hb d_D_isFrame_25 h1 h2 (by rw [hc]; rfl) (by decide) ?_
    refine lv_aload_n hx hb d_D_isFrame_131 rfl (lv_at hl 0 rfl) ?_
    refine va_get (D := (dC, dI)) (ci := 6) (v := .ref adD_parts) (C := R_D) (T := F_D) (N := 6) hx hb hts zi_D hown zz.1 hP 0 rfl rfl 0 (by decide) (hts (.fieldLink R_D 9 "WireCodec$Draft" "parts" "[J") zin_D_9) (fun _ h9 => h9) rfl d_D_isFrame_132 ?_
    refine lv_iconst (v := (2 : Int32)) hx hb d_D_isFrame_135 (by decide) ?_
    obtain ⟨hin, hG⟩ := zgd hG
    refine va_lald hx hb zz.1 hP 1 2 rfl rfl hin d_D_isFrame_136 ?_
    obtain ⟨a_137, hx_137, hG⟩ := zb hG
    have hr_137 := zrunS (p := p) (e := e) (below := below) (meth := meth) (As := [.long ((zD_parts sD) (2 : Int32).toNatClampNeg)]) (rest := []) (st0 := [.long ((zD_parts sD) (2 : Int32).toNatClampNeg)]) (cells := 0) (slots := 0) X zz hP hD hS hA [] (by decide) rfl (c_D_isBit l dC dI cB cI cL H.size ((zD_parts sD) (2 : Int32).toNatClampNeg) _ hx_137) zy_D_isBit zv_D_isBit (hts (.methodLink R_D 49 y_D_isBit) zin_D_49) hl rfl rfl d_D_isFrame_137 (lv_room (Nat.le_of_ble_eq_true rfl)) rfl rfl ⟨Nat.le_trans (Nat.le_of_ble_eq_true rfl) hRf, Nat.le_trans (Nat.le_of_ble_eq_true rfl) hRl⟩ ⟨Nat.zero_le _, Nat.zero_le _⟩
    refine zcalli (wr := (zwD adD adD_parts adD_bytes adD_lows adD_highs cB cI cL sD)) hr_137 hP hD hS hA [] [0, 1, 2, 3, 4] rfl rfl (by decide) (by decide) (fun r_137 u_137 H locs hw_137 hP hD hS => ?_)
    subst hw_137
    have hP : va_P (dC, dI) zcl (zwD adD adD_parts adD_bytes adD_lows adD_highs cB cI cL sD) H := hP
    have hD : va_D A (zwD adD adD_parts adD_bytes adD_lows adD_highs cB cI cL sD) := hD
    have hG : g_D_isFrame_c137 N sD v1 r_137 = some a := hG
    unfold g_D_isFrame_c137 at hG
    refine lv_if_eq (tgt := 167) hx hb d_D_isFrame_140 (by decide) (fun hc => ?_) (fun hc => ?_)
    · have hG := zt hG hc
      exact k_D_isFrame_167 X hA zz N sD _ hG adD adD_parts adD_bytes adD_lows adD_highs _ _ hP hD hS _ (lv_sub hl [] rfl)
    · have hG := zf hG hc
      refine lv_aload_n hx hb d_D_isFrame_143 rfl (lv_at hl 0 rfl) ?_
      refine va_get (D := (dC, dI)) (ci := 6) (v := .ref adD_parts) (C := R_D) (T := F_D) (N := 6) hx hb hts zi_D hown zz.1 hP 0 rfl rfl 0 (by decide) (hts (.fieldLink R_D 9 "WireCodec$Draft" "parts" "[J") zin_D_9) (fun _ h9 => h9) rfl d_D_isFrame_144 ?_
      refine lv_iconst (v := (3 : Int32)) hx hb d_D_isFrame_147 (by decide) ?_
      obtain ⟨hin, hG⟩ := zgd hG
      refine va_lald hx hb zz.1 hP 1 2 rfl rfl hin d_D_isFrame_148 ?_
      obtain ⟨a_149, hx_149, hG⟩ := zb hG
      have hr_149 := zrunS (p := p) (e := e) (below := below) (meth := meth) (As := [.long ((zD_parts sD) (3 : Int32).toNatClampNeg)]) (rest := []) (st0 := [.long ((zD_parts sD) (3 : Int32).toNatClampNeg)]) (cells := 0) (slots := 0) X zz hP hD hS hA [] (by decide) rfl (c_D_isBit l dC dI cB cI cL H.size ((zD_parts sD) (3 : Int32).toNatClampNeg) _ hx_149) zy_D_isBit zv_D_isBit (hts (.methodLink R_D 49 y_D_isBit) zin_D_49) hl rfl rfl d_D_isFrame_149 (lv_room (Nat.le_of_ble_eq_true rfl)) rfl rfl ⟨Nat.le_trans (Nat.le_of_ble_eq_true rfl) hRf, Nat.le_trans (Nat.le_of_ble_eq_true rfl) hRl⟩ ⟨Nat.zero_le _, Nat.zero_le _⟩
      refine zcalli (wr := (zwD adD adD_parts adD_bytes adD_lows adD_highs cB cI cL sD)) hr_149 hP hD hS hA [] [0, 1, 2, 3, 4] rfl rfl (by decide) (by decide) (fun r_149 u_149 H locs hw_149 hP hD hS => ?_)
      subst hw_149
      have hP : va_P (dC, dI) zcl (zwD adD adD_parts adD_bytes adD_lows adD_highs cB cI cL sD) H := hP
      have hD : va_D A (zwD adD adD_parts adD_bytes adD_lows adD_highs cB cI cL sD) := hD
      have hG : g_D_isFrame_c149 N sD v1 r_149 = some a := hG
      unfold g_D_isFrame_c149 at hG
      refine lv_if_eq (tgt := 167) hx hb d_D_isFrame_152 (by decide) (fun hc => ?_) (fun hc => ?_)
      · have hG := zt hG hc
        exact k_D_isFrame_167 X hA zz N sD _ hG adD adD_parts adD_bytes adD_lows adD_highs _ _ hP hD hS _ (lv_sub hl [] rfl)
      · have hG := zf hG hc
        refine lv_aload_n hx hb d_D_isFrame_155 rfl (lv_at hl 0 rfl) ?_
        refine lv_iload_n hx hb d_D_isFrame_156 rfl (lv_at hl 1 rfl) ?_
        obtain ⟨a_157, hx_157, hG⟩ := zb hG
        have hr_157 := zrunV (p := p) (e := e) (below := below) (meth := meth) (As := [.int v1]) (rest := []) (st0 := [.int v1, .ref adD]) (cells := 0) (slots := 0) X zz hP hD hS hA [0, 1, 2, 3, 4] (by decide) rfl (c_D_hasShape l dC dI cB cI cL H.size adD adD_parts adD_bytes adD_lows adD_highs sD v1 _ hx_157) zy_D_hasShape zv_D_hasShape (hts (.methodLink R_D 53 y_D_hasShape) zin_D_53) hl rfl rfl d_D_isFrame_157 (lv_room (Nat.le_of_ble_eq_true rfl)) rfl rfl ⟨Nat.le_trans (Nat.le_of_ble_eq_true rfl) hRf, Nat.le_trans (Nat.le_of_ble_eq_true rfl) hRl⟩ ⟨Nat.zero_le _, Nat.zero_le _⟩ 0 6 rfl rfl
        refine zcalli (wr := ([] : va_W)) hr_157 hP hD hS hA [0, 1, 2, 3, 4] [] rfl rfl (by decide) (by decide) (fun r_157 u_157 H locs hw_157 hP hD hS => ?_)
        subst hw_157
        have hP : va_P (dC, dI) zcl (zwD adD adD_parts adD_bytes adD_lows adD_highs cB cI cL sD) H := hP
        have hD : va_D A (zwD adD adD_parts adD_bytes adD_lows adD_highs cB cI cL sD) := hD
        have hG : g_D_isFrame_c157 N sD r_157 = some a := hG
        unfold g_D_isFrame_c157 at hG
        refine lv_if_eq (tgt := 167) hx hb d_D_isFrame_160 (by decide) (fun hc => ?_) (fun hc => ?_)
        · have hG := zt hG hc
          exact k_D_isFrame_167 X hA zz N sD _ hG adD adD_parts adD_bytes adD_lows adD_highs _ _ hP hD hS _ (lv_sub hl [] rfl)
        · have hG := zf hG hc
          refine lv_iconst (v := (1 : Int32)) hx hb d_D_isFrame_163 (by decide) ?_
          refine lv_goto (tgt := 168) hx hb d_D_isFrame_164 (by decide) ?_
          exact k_D_isFrame_168 X hA zz N sD (1 : Int32) _ hG adD adD_parts adD_bytes adD_lows adD_highs _ _ hP hD hS _ (lv_sub hl [] rfl)
  exact absurd hj9 (by omega)
set_option maxRecDepth 100000 in
set_option maxHeartbeats 4000000 in
theorem k_D_isFrame_0 {p : Program} {l : Launch} {e : Env} {R : Room} {s : State} {m : MethodId} {args : Array Value} {below : List Frame} {meth : Method} {c : Code} {dC : Nat → ClassId} {dI : Nat → Nat → Nat} {cB cI cL : ClassId} {A : Nat → Prop} (X : zx p s m args meth c R R_D b_D_isFrame (some .boolean) 2 2 50) (hA : ∀ q, s.heap.size ≤ q → A q) (zz : zk dC dI cB cI cL A s)  (N : Nat) (sD : zD) (v1 : Int32) (a : Int32) (hG : g_D_isFrame N sD v1 = some a) (adD adD_parts adD_bytes adD_lows adD_highs : Nat) (H : Heap) (locs : List Loc) (hP : va_P (dC, dI) zcl (zwD adD adD_parts adD_bytes adD_lows adD_highs cB cI cL sD) H) (hD : va_D A (zwD adD adD_parts adD_bytes adD_lows adD_highs cB cI cL sD)) (hS : va_S A s.heap H locs) (ls : Array Slot) (hl : lv_has ls 2 [(0, .ref adD), (1, .int v1)]) : W p l e R s m args below meth c H locs 0 0 (MQ below (q_D_isFrame dC dI cB cI cL A adD adD_parts adD_bytes adD_lows adD_highs sD a) args s 0 0 A) (F0 m 0 ls []) := by
  obtain ⟨hx, hb, hr, hml, hown, hts, hlocks, hRf, hRl⟩ := id X
  unfold g_D_isFrame at hG
  refine lv_iload_n hx hb d_D_isFrame_0 rfl (lv_at hl 1 rfl) ?_
  refine lv_if_lt (tgt := 22) hx hb d_D_isFrame_1 (by decide) (fun hc => ?_) (fun hc => ?_)
  · have hG := zt hG hc
    exact k_D_isFrame_22 X hA zz N sD _ hG adD adD_parts adD_bytes adD_lows adD_highs _ _ hP hD hS _ (lv_sub hl [] rfl)
  · have hG := zf hG hc
    refine lv_iload_n hx hb d_D_isFrame_4 rfl (lv_at hl 1 rfl) ?_
    refine lv_bipush (v := (30 : Int32)) hx hb d_D_isFrame_5 (by decide) ?_
    refine lv_icmp_gt (tgt := 22) hx hb d_D_isFrame_7 (by decide) (fun hc => ?_) (fun hc => ?_)
    · have hG := zt hG hc
      exact k_D_isFrame_22 X hA zz N sD _ hG adD adD_parts adD_bytes adD_lows adD_highs _ _ hP hD hS _ (lv_sub hl [] rfl)
    · have hG := zf hG hc
      refine lv_iload_n hx hb d_D_isFrame_10 rfl (lv_at hl 1 rfl) ?_
      refine lv_bipush (v := (8 : Int32)) hx hb d_D_isFrame_11 (by decide) ?_
      refine lv_icmp_le (tgt := 24) hx hb d_D_isFrame_13 (by decide) (fun hc => ?_) (fun hc => ?_)
      · have hG := zt hG hc
        exact k_D_isFrame_24 X hA zz N sD v1 _ hG adD adD_parts adD_bytes adD_lows adD_highs _ _ hP hD hS _ (lv_sub hl [0, 1] rfl)
      · have hG := zf hG hc
        refine lv_iload_n hx hb d_D_isFrame_16 rfl (lv_at hl 1 rfl) ?_
        refine lv_bipush (v := (15 : Int32)) hx hb d_D_isFrame_17 (by decide) ?_
        refine lv_icmp_gt (tgt := 24) hx hb d_D_isFrame_19 (by decide) (fun hc => ?_) (fun hc => ?_)
        · have hG := zt hG hc
          exact k_D_isFrame_24 X hA zz N sD v1 _ hG adD adD_parts adD_bytes adD_lows adD_highs _ _ hP hD hS _ (lv_sub hl [0, 1] rfl)
        · have hG := zf hG hc
          exact k_D_isFrame_22 X hA zz N sD _ hG adD adD_parts adD_bytes adD_lows adD_highs _ _ hP hD hS _ (lv_sub hl [] rfl)
set_option maxRecDepth 100000 in
set_option maxHeartbeats 4000000 in
theorem c_D_isFrame (l : Launch) (dC : Nat → ClassId) (dI : Nat → Nat → Nat) (cB cI cL : ClassId) (sz : Nat) (adD adD_parts adD_bytes adD_lows adD_highs : Nat) (N : Nat) (sD : zD) (v1 : Int32) (a : Int32) (hG : g_D_isFrame N sD v1 = some a) : Met l y_D_isFrame (zw y_D_isFrame b_D_isFrame 2 (some .boolean)) ({ frames := 2, cells := 0, slots := 0, locals := 50 }) (va_Pc [.ref adD, .int v1] (zpre dC dI cB cI cL sz (zwD adD adD_parts adD_bytes adD_lows adD_highs cB cI cL sD))) (q_D_isFrame dC dI cB cI cL (va_A (zwD adD adD_parts adD_bytes adD_lows adD_highs cB cI cL sD) sz) adD adD_parts adD_bytes adD_lows adD_highs sD a) 0 0 (va_A (zwD adD adD_parts adD_bytes adD_lows adD_highs cB cI cL sD) sz) := by
  refine Met.ofW (cc := b_D_isFrame) (maxL := 2) (ret := (some .boolean)) (by decide) rfl ?_
  intro p e s m args below meth c s₁ B hml hv
  obtain ⟨rfl, hsz, hP, zz, hD0⟩ := hv
  subst hsz
  have X := zx_of (F := 2) (L := 50) B hml (Nat.le_refl _) (Nat.le_refl _)
  have hD := hD0.self (sz := s.heap.size)
  have hA : ∀ q : Nat, s.heap.size ≤ q → va_A (zwD adD adD_parts adD_bytes adD_lows adD_highs cB cI cL sD) s.heap.size q := fun q h => Or.inr h
  have hl := lv_entry ([.ref adD, .int v1]) (n := 2) (Nat.le_of_ble_eq_true rfl)
  rw [lg_entry_eq]
  generalize (lg_sl ([.ref adD, .int v1]) ++ List.replicate (2 - (lg_sl ([.ref adD, .int v1])).length) Slot.unset).toArray = ls at hl ⊢
  exact k_D_isFrame_0 X hA zz N sD v1 a hG adD adD_parts adD_bytes adD_lows adD_highs _ _ hP hD va_S.rf ls hl
noncomputable def g_F_forget_w15 (sF_15 : zF) : Option (zF) := some (sF_15)
noncomputable def g_F_forget_w10 (sF_10 : zF) : Option (zF) := g_F_forget_w15 (zF_low' sF_10 (0 : Int64))
noncomputable def g_F_forget_c5 (sF : zF) (x_5 : (Nat → Int64)) : Option (zF) := g_F_forget_w10 (zF_secretBytes' (zF_parts' sF x_5) (0 : Int32))
noncomputable def g_F_forget (N : Nat) (sF : zF) : Option (zF) := (g_Ar_fill_aJJ N (zF_parts sF) 12 (0 : Int64)).bind (fun a => g_F_forget_c5 sF a)
def q_F_forget (dC : Nat → ClassId) (dI : Nat → Nat → Nat) (cB cI cL : ClassId) (A : Nat → Prop) (adF : Nat) (adF_parts : Nat) (a : zF) : Array Value → State → Outcome → State → Prop := va_Qv (fun (u : zF) => (u) = a) (fun u U => va_P (dC, dI) zcl (zwF adF adF_parts cB cI cL u) U.heap ∧ va_D A (zwF adF adF_parts cB cI cL u)) A
set_option maxRecDepth 100000 in
set_option maxHeartbeats 4000000 in
theorem k_F_forget_0 {p : Program} {l : Launch} {e : Env} {R : Room} {s : State} {m : MethodId} {args : Array Value} {below : List Frame} {meth : Method} {c : Code} {dC : Nat → ClassId} {dI : Nat → Nat → Nat} {cB cI cL : ClassId} {A : Nat → Prop} (X : zx p s m args meth c R R_F b_F_forget none 1 1 24) (hA : ∀ q, s.heap.size ≤ q → A q) (zz : zk dC dI cB cI cL A s)  (N : Nat) (sF : zF) (a : zF) (hG : g_F_forget N sF = some a) (adF adF_parts : Nat) (H : Heap) (locs : List Loc) (hP : va_P (dC, dI) zcl (zwF adF adF_parts cB cI cL sF) H) (hD : va_D A (zwF adF adF_parts cB cI cL sF)) (hS : va_S A s.heap H locs) (ls : Array Slot) (hl : lv_has ls 1 [(0, .ref adF)]) : W p l e R s m args below meth c H locs 0 0 (MQ below (q_F_forget dC dI cB cI cL A adF adF_parts a) args s 0 0 A) (F0 m 0 ls []) := by
  obtain ⟨hx, hb, hr, hml, hown, hts, hlocks, hRf, hRl⟩ := id X
  unfold g_F_forget at hG
  refine lv_aload_n hx hb d_F_forget_0 rfl (lv_at hl 0 rfl) ?_
  refine va_get (D := (dC, dI)) (ci := 4) (v := .ref adF_parts) (C := R_F) (T := F_F) (N := 7) hx hb hts zi_F hown zz.1 hP 0 rfl rfl 0 (by decide) (hts (.fieldLink R_F 9 "WireCodec$Frame" "parts" "[J") zin_F_9) (fun _ h9 => h9) rfl d_F_forget_1 ?_
  refine lv_lconst (v := (0 : Int64)) hx hb d_F_forget_4 (by decide) ?_
  obtain ⟨a_5, hx_5, hG⟩ := zb hG
  have hr_5 := zrunS (p := p) (e := e) (below := below) (meth := meth) (As := [.ref adF_parts, .long (0 : Int64)]) (rest := []) (st0 := [.long (0 : Int64), .ref adF_parts]) (cells := 0) (slots := 0) X zz hP hD hS hA [1] (by decide) rfl (c_Ar_fill_aJJ l dC dI cB cI cL H.size adF_parts N (zF_parts sF) 12 (0 : Int64) _ hx_5) zy_Ar_fill_aJJ zv_Ar_fill_aJJ (hts (.methodLink R_F 62 y_Ar_fill_aJJ) zin_F_62) hl rfl rfl d_F_forget_5 (lv_room (Nat.le_of_ble_eq_true rfl)) rfl rfl ⟨Nat.le_trans (Nat.le_of_ble_eq_true rfl) hRf, Nat.le_trans (Nat.le_of_ble_eq_true rfl) hRl⟩ ⟨Nat.zero_le _, Nat.zero_le _⟩
  refine zcallv (wr := ([(adF, .inr (4, [.ref adF_parts, .int (zF_dataPlace sF), .int (zF_secretPlace sF), .int (zF_secretBytes sF), .int (zF_rangesPlace sF), .long (zF_low sF), .long (zF_high sF)]))])) hr_5 hP hD hS hA [1] [0] rfl rfl (by decide) (by decide) (fun u_5 H locs hw_5 hP hD hS => ?_)
  obtain ⟨x_5, rfl⟩ : ∃ z, z = u_5 := ⟨_, rfl⟩
  subst hw_5
  have hP : va_P (dC, dI) zcl (zwF adF adF_parts cB cI cL (zF_parts' sF x_5)) H := hP
  have hD : va_D A (zwF adF adF_parts cB cI cL (zF_parts' sF x_5)) := hD
  have hG : g_F_forget_c5 sF x_5 = some a := hG
  unfold g_F_forget_c5 at hG
  refine lv_aload_n hx hb d_F_forget_8 rfl (lv_at hl 0 rfl) ?_
  refine lv_iconst (v := (0 : Int32)) hx hb d_F_forget_9 (by decide) ?_
  refine va_put (D := (dC, dI)) (ci := 4) (v := .int (0 : Int32)) (ty := .int) (C := R_F) (T := F_F) (N := 7) hx hb hts zi_F zty_F zty_F_ok znm_F hown zz.1 hP hD hS 0 rfl rfl 3 (by decide) (hts (.fieldLink R_F 68 "WireCodec$Frame" "secretBytes" "I") zin_F_68) (fun _ h9 => h9) rfl (by decide +kernel) rfl rfl (Nat.le_of_ble_eq_true rfl) d_F_forget_10 (fun H locs hP hD hS => ?_)
  have hP : va_P (dC, dI) zcl (zwF adF adF_parts cB cI cL (zF_secretBytes' (zF_parts' sF x_5) (0 : Int32))) H := hP
  have hD : va_D A (zwF adF adF_parts cB cI cL (zF_secretBytes' (zF_parts' sF x_5) (0 : Int32))) := hD
  have hG : g_F_forget_w10 (zF_secretBytes' (zF_parts' sF x_5) (0 : Int32)) = some a := hG
  generalize zF_secretBytes' (zF_parts' sF x_5) (0 : Int32) = sF_10 at hP hD hG
  unfold g_F_forget_w10 at hG
  refine lv_aload_n hx hb d_F_forget_13 rfl (lv_at hl 0 rfl) ?_
  refine lv_lconst (v := (0 : Int64)) hx hb d_F_forget_14 (by decide) ?_
  refine va_put (D := (dC, dI)) (ci := 4) (v := .long (0 : Int64)) (ty := .long) (C := R_F) (T := F_F) (N := 7) hx hb hts zi_F zty_F zty_F_ok znm_F hown zz.1 hP hD hS 0 rfl rfl 5 (by decide) (hts (.fieldLink R_F 45 "WireCodec$Frame" "low" "J") zin_F_45) (fun _ h9 => h9) rfl (by decide +kernel) rfl rfl (Nat.le_of_ble_eq_true rfl) d_F_forget_15 (fun H locs hP hD hS => ?_)
  have hP : va_P (dC, dI) zcl (zwF adF adF_parts cB cI cL (zF_low' sF_10 (0 : Int64))) H := hP
  have hD : va_D A (zwF adF adF_parts cB cI cL (zF_low' sF_10 (0 : Int64))) := hD
  have hG : g_F_forget_w15 (zF_low' sF_10 (0 : Int64)) = some a := hG
  generalize zF_low' sF_10 (0 : Int64) = sF_15 at hP hD hG
  unfold g_F_forget_w15 at hG
  exact W.vret hx hb hr (fun t9 ht9 hW9 => ⟨⟨(sF_15), rfl, Option.some.inj hG, by rw [ht9]; exact hP, hD⟩, hS.F ht9⟩) hS.2.2 d_F_forget_18
set_option maxRecDepth 100000 in
set_option maxHeartbeats 4000000 in
theorem c_F_forget (l : Launch) (dC : Nat → ClassId) (dI : Nat → Nat → Nat) (cB cI cL : ClassId) (sz : Nat) (adF adF_parts : Nat) (N : Nat) (sF : zF) (a : zF) (hG : g_F_forget N sF = some a) : Met l y_F_forget (zw y_F_forget b_F_forget 1 none) ({ frames := 1, cells := 0, slots := 0, locals := 24 }) (va_Pc [.ref adF] (zpre dC dI cB cI cL sz (zwF adF adF_parts cB cI cL sF))) (q_F_forget dC dI cB cI cL (va_A (zwF adF adF_parts cB cI cL sF) sz) adF adF_parts a) 0 0 (va_A (zwF adF adF_parts cB cI cL sF) sz) := by
  refine Met.ofW (cc := b_F_forget) (maxL := 1) (ret := none) (by decide) rfl ?_
  intro p e s m args below meth c s₁ B hml hv
  obtain ⟨rfl, hsz, hP, zz, hD0⟩ := hv
  subst hsz
  have X := zx_of (F := 1) (L := 24) B hml (Nat.le_refl _) (Nat.le_refl _)
  have hD := hD0.self (sz := s.heap.size)
  have hA : ∀ q : Nat, s.heap.size ≤ q → va_A (zwF adF adF_parts cB cI cL sF) s.heap.size q := fun q h => Or.inr h
  have hl := lv_entry ([.ref adF]) (n := 1) (Nat.le_of_ble_eq_true rfl)
  rw [lg_entry_eq]
  generalize (lg_sl ([.ref adF]) ++ List.replicate (1 - (lg_sl ([.ref adF])).length) Slot.unset).toArray = ls at hl ⊢
  exact k_F_forget_0 X hA zz N sF a hG adF adF_parts _ _ hP hD va_S.rf ls hl
noncomputable def g_F_takeData_w15 (sR_3 : zR) (sF_15 : zF) : Option (zR × zF) := some (sR_3, sF_15)
noncomputable def g_F_takeData_w6 (v2 : Int64) (sR_3 : zR) (sF_6 : zF) : Option (zR × zF) := zg (vp_in (5 : Int32) 12) (g_F_takeData_w15 sR_3 (zF_parts' sF_6 (vp_updL (zF_parts sF_6) ((5 : Int32).toNatClampNeg) v2)))
noncomputable def g_F_takeData_c3 (sF : zF) (v2 : Int64) (sR_3 : zR) (r_3 : Int32) : Option (zR × zF) := g_F_takeData_w6 v2 sR_3 (zF_dataPlace' sF r_3)
noncomputable def g_F_takeData (sR : zR) (sF : zF) (v2 : Int64) : Option (zR × zF) := (g_R_takeBytes sR v2).bind (fun a => g_F_takeData_c3 sF v2 a.2 a.1)
def q_F_takeData (dC : Nat → ClassId) (dI : Nat → Nat → Nat) (cB cI cL : ClassId) (A : Nat → Prop) (adR : Nat) (adF : Nat) (adF_parts : Nat) (adT : Nat) (a : zR × zF) : Array Value → State → Outcome → State → Prop := va_Qv (fun (u : zR × zF) => (u.1, u.2) = a) (fun u U => va_P (dC, dI) zcl (zwR adR adT cB cI cL u.1 ++ zwF adF adF_parts cB cI cL u.2) U.heap ∧ va_D A (zwR adR adT cB cI cL u.1 ++ zwF adF adF_parts cB cI cL u.2)) A
set_option maxRecDepth 100000 in
set_option maxHeartbeats 4000000 in
theorem k_F_takeData_0 {p : Program} {l : Launch} {e : Env} {R : Room} {s : State} {m : MethodId} {args : Array Value} {below : List Frame} {meth : Method} {c : Code} {dC : Nat → ClassId} {dI : Nat → Nat → Nat} {cB cI cL : ClassId} {A : Nat → Prop} {adT : Nat} (X : zx p s m args meth c R R_F b_F_takeData none 4 2 43) (hA : ∀ q, s.heap.size ≤ q → A q) (zz : zk dC dI cB cI cL A s)  (sR : zR) (sF : zF) (v2 : Int64) (a : zR × zF) (hG : g_F_takeData sR sF v2 = some a) (adR adF adF_parts : Nat) (H : Heap) (locs : List Loc) (hP : va_P (dC, dI) zcl (zwR adR adT cB cI cL sR ++ zwF adF adF_parts cB cI cL sF) H) (hD : va_D A (zwR adR adT cB cI cL sR ++ zwF adF adF_parts cB cI cL sF)) (hS : va_S A s.heap H locs) (ls : Array Slot) (hl : lv_has ls 4 [(0, .ref adF), (1, .ref adR), (2, .long v2)]) : W p l e R s m args below meth c H locs 0 0 (MQ below (q_F_takeData dC dI cB cI cL A adR adF adF_parts adT a) args s 0 0 A) (F0 m 0 ls []) := by
  obtain ⟨hx, hb, hr, hml, hown, hts, hlocks, hRf, hRl⟩ := id X
  unfold g_F_takeData at hG
  refine lv_aload_n hx hb d_F_takeData_0 rfl (lv_at hl 0 rfl) ?_
  refine lv_aload_n hx hb d_F_takeData_1 rfl (lv_at hl 1 rfl) ?_
  refine lv_lload_n hx hb d_F_takeData_2 rfl (lv_at hl 2 rfl) ?_
  obtain ⟨a_3, hx_3, hG⟩ := zb hG
  have hr_3 := zrunV (p := p) (e := e) (below := below) (meth := meth) (As := [.long v2]) (rest := [.ref adF]) (st0 := [.long v2, .ref adR, .ref adF]) (cells := 0) (slots := 0) X zz hP hD hS hA [0] (by decide) rfl (c_R_takeBytes l dC dI cB cI cL H.size adR adT sR v2 _ hx_3) zy_R_takeBytes zv_R_takeBytes (hts (.methodLink R_F 94 y_R_takeBytes) zin_F_94) hl rfl rfl d_F_takeData_3 (lv_room (Nat.le_of_ble_eq_true rfl)) rfl rfl ⟨Nat.le_trans (Nat.le_of_ble_eq_true rfl) hRf, Nat.le_trans (Nat.le_of_ble_eq_true rfl) hRl⟩ ⟨Nat.zero_le _, Nat.zero_le _⟩ 0 2 rfl rfl
  refine zcalli (wr := (zwF adF adF_parts cB cI cL sF)) hr_3 hP hD hS hA [0] [1, 2] rfl rfl (by decide) (by decide) (fun r_3 u_3 H locs hw_3 hP hD hS => ?_)
  obtain ⟨sR_3, rfl⟩ : ∃ z, z = u_3 := ⟨_, rfl⟩
  subst hw_3
  have hP : va_P (dC, dI) zcl (zwF adF adF_parts cB cI cL sF ++ zwR adR adT cB cI cL sR_3) H := hP
  have hD : va_D A (zwF adF adF_parts cB cI cL sF ++ zwR adR adT cB cI cL sR_3) := hD
  have hG : g_F_takeData_c3 sF v2 sR_3 r_3 = some a := hG
  unfold g_F_takeData_c3 at hG
  refine va_put (D := (dC, dI)) (ci := 4) (v := .int r_3) (ty := .int) (C := R_F) (T := F_F) (N := 7) hx hb hts zi_F zty_F zty_F_ok znm_F hown zz.1 hP hD hS 0 rfl rfl 1 (by decide) (hts (.fieldLink R_F 101 "WireCodec$Frame" "dataPlace" "I") zin_F_101) (fun _ h9 => h9) rfl (by decide +kernel) rfl rfl (Nat.le_of_ble_eq_true rfl) d_F_takeData_6 (fun H locs hP hD hS => ?_)
  have hP : va_P (dC, dI) zcl (zwF adF adF_parts cB cI cL (zF_dataPlace' sF r_3) ++ zwR adR adT cB cI cL sR_3) H := hP
  have hD : va_D A (zwF adF adF_parts cB cI cL (zF_dataPlace' sF r_3) ++ zwR adR adT cB cI cL sR_3) := hD
  have hG : g_F_takeData_w6 v2 sR_3 (zF_dataPlace' sF r_3) = some a := hG
  generalize zF_dataPlace' sF r_3 = sF_6 at hP hD hG
  unfold g_F_takeData_w6 at hG
  refine lv_aload_n hx hb d_F_takeData_9 rfl (lv_at hl 0 rfl) ?_
  refine va_get (D := (dC, dI)) (ci := 4) (v := .ref adF_parts) (C := R_F) (T := F_F) (N := 7) hx hb hts zi_F hown zz.1 hP 0 rfl rfl 0 (by decide) (hts (.fieldLink R_F 9 "WireCodec$Frame" "parts" "[J") zin_F_9) (fun _ h9 => h9) rfl d_F_takeData_10 ?_
  refine lv_iconst (v := (5 : Int32)) hx hb d_F_takeData_13 (by decide) ?_
  refine lv_lload_n hx hb d_F_takeData_14 rfl (lv_at hl 2 rfl) ?_
  obtain ⟨hin, hG⟩ := zgd hG
  refine va_last hx hb zz.1 hP hD hS 1 2 rfl rfl hin d_F_takeData_15 (fun H locs hP hD hS => ?_)
  have hP : va_P (dC, dI) zcl (zwF adF adF_parts cB cI cL (zF_parts' sF_6 (vp_updL (zF_parts sF_6) ((5 : Int32).toNatClampNeg) v2)) ++ zwR adR adT cB cI cL sR_3) H := hP
  have hD : va_D A (zwF adF adF_parts cB cI cL (zF_parts' sF_6 (vp_updL (zF_parts sF_6) ((5 : Int32).toNatClampNeg) v2)) ++ zwR adR adT cB cI cL sR_3) := hD
  have hG : g_F_takeData_w15 sR_3 (zF_parts' sF_6 (vp_updL (zF_parts sF_6) ((5 : Int32).toNatClampNeg) v2)) = some a := hG
  generalize zF_parts' sF_6 (vp_updL (zF_parts sF_6) ((5 : Int32).toNatClampNeg) v2) = sF_15 at hP hD hG
  unfold g_F_takeData_w15 at hG
  exact W.vret hx hb hr (fun t9 ht9 hW9 => ⟨⟨(sR_3, sF_15), rfl, Option.some.inj hG, by rw [ht9]; exact (hP.sub [2, 0, 1] rfl), (hD.sub [2, 0, 1] (by decide) rfl)⟩, hS.F ht9⟩) hS.2.2 d_F_takeData_16
set_option maxRecDepth 100000 in
set_option maxHeartbeats 4000000 in
theorem c_F_takeData (l : Launch) (dC : Nat → ClassId) (dI : Nat → Nat → Nat) (cB cI cL : ClassId) (sz : Nat) (adR adF adF_parts adT : Nat) (sR : zR) (sF : zF) (v2 : Int64) (a : zR × zF) (hG : g_F_takeData sR sF v2 = some a) : Met l y_F_takeData (zw y_F_takeData b_F_takeData 4 none) ({ frames := 2, cells := 0, slots := 0, locals := 43 }) (va_Pc [.ref adF, .ref adR, .long v2] (zpre dC dI cB cI cL sz (zwR adR adT cB cI cL sR ++ zwF adF adF_parts cB cI cL sF))) (q_F_takeData dC dI cB cI cL (va_A (zwR adR adT cB cI cL sR ++ zwF adF adF_parts cB cI cL sF) sz) adR adF adF_parts adT a) 0 0 (va_A (zwR adR adT cB cI cL sR ++ zwF adF adF_parts cB cI cL sF) sz) := by
  refine Met.ofW (cc := b_F_takeData) (maxL := 4) (ret := none) (by decide) rfl ?_
  intro p e s m args below meth c s₁ B hml hv
  obtain ⟨rfl, hsz, hP, zz, hD0⟩ := hv
  subst hsz
  have X := zx_of (F := 2) (L := 43) B hml (Nat.le_refl _) (Nat.le_refl _)
  have hD := hD0.self (sz := s.heap.size)
  have hA : ∀ q : Nat, s.heap.size ≤ q → va_A (zwR adR adT cB cI cL sR ++ zwF adF adF_parts cB cI cL sF) s.heap.size q := fun q h => Or.inr h
  have hl := lv_entry ([.ref adF, .ref adR, .long v2]) (n := 4) (Nat.le_of_ble_eq_true rfl)
  rw [lg_entry_eq]
  generalize (lg_sl ([.ref adF, .ref adR, .long v2]) ++ List.replicate (4 - (lg_sl ([.ref adF, .ref adR, .long v2])).length) Slot.unset).toArray = ls at hl ⊢
  exact k_F_takeData_0 X hA zz sR sF v2 a hG adR adF adF_parts _ _ hP hD va_S.rf ls hl
noncomputable def g_F_takeStream_36 (sR : zR) (sF : zF) : Option (zR × zF) := some (sR, sF)
noncomputable def g_F_takeStream_c33 (sR_33 : zR) (sF_33 : zF) : Option (zR × zF) := g_F_takeStream_36 sR_33 sF_33
noncomputable def g_F_takeStream_c29 (sR : zR) (sF_9 : zF) (r_29 : Int32) : Option (zR × zF) := (g_F_takeData sR sF_9 r_29.toInt64).bind (fun a => g_F_takeStream_c33 a.1 a.2)
noncomputable def g_F_takeStream_w22 (sR : zR) (sF_22 : zF) : Option (zR × zF) := g_F_takeStream_36 sR sF_22
noncomputable def g_F_takeStream_w9 (sR : zR) (v2 : Int32) (sF_9 : zF) : Option (zR × zF) := if (v2 &&& (2 : Int32)) = (0 : Int32) then ((g_R_left sR).bind (fun a => g_F_takeStream_c29 sR sF_9 a)) else (zg (vp_in (3 : Int32) 12) (g_F_takeStream_w22 sR (zF_parts' sF_9 (vp_updL (zF_parts sF_9) ((3 : Int32).toNatClampNeg) (1 : Int64)))))
noncomputable def g_F_takeStream (sR : zR) (sF : zF) (v2 : Int32) : Option (zR × zF) := zg (vp_in (2 : Int32) 12) (g_F_takeStream_w9 sR v2 (zF_parts' sF (vp_updL (zF_parts sF) ((2 : Int32).toNatClampNeg) ((v2 &&& (1 : Int32)).toInt64))))
def q_F_takeStream (dC : Nat → ClassId) (dI : Nat → Nat → Nat) (cB cI cL : ClassId) (A : Nat → Prop) (adR : Nat) (adF : Nat) (adF_parts : Nat) (adT : Nat) (a : zR × zF) : Array Value → State → Outcome → State → Prop := va_Qv (fun (u : zR × zF) => (u.1, u.2) = a) (fun u U => va_P (dC, dI) zcl (zwR adR adT cB cI cL u.1 ++ zwF adF adF_parts cB cI cL u.2) U.heap ∧ va_D A (zwR adR adT cB cI cL u.1 ++ zwF adF adF_parts cB cI cL u.2)) A
set_option maxRecDepth 100000 in
set_option maxHeartbeats 4000000 in
theorem k_F_takeStream_36 {p : Program} {l : Launch} {e : Env} {R : Room} {s : State} {m : MethodId} {args : Array Value} {below : List Frame} {meth : Method} {c : Code} {dC : Nat → ClassId} {dI : Nat → Nat → Nat} {cB cI cL : ClassId} {A : Nat → Prop} {adT : Nat} (X : zx p s m args meth c R R_F b_F_takeStream none 3 3 66) (hA : ∀ q, s.heap.size ≤ q → A q) (zz : zk dC dI cB cI cL A s)  (sR : zR) (sF : zF) (a : zR × zF) (hG : g_F_takeStream_36 sR sF = some a) (adR adF adF_parts : Nat) (H : Heap) (locs : List Loc) (hP : va_P (dC, dI) zcl (zwR adR adT cB cI cL sR ++ zwF adF adF_parts cB cI cL sF) H) (hD : va_D A (zwR adR adT cB cI cL sR ++ zwF adF adF_parts cB cI cL sF)) (hS : va_S A s.heap H locs) (ls : Array Slot) (hl : lv_has ls 3 []) : W p l e R s m args below meth c H locs 0 0 (MQ below (q_F_takeStream dC dI cB cI cL A adR adF adF_parts adT a) args s 0 0 A) (F0 m 36 ls []) := by
  obtain ⟨hx, hb, hr, hml, hown, hts, hlocks, hRf, hRl⟩ := id X
  unfold g_F_takeStream_36 at hG
  exact W.vret hx hb hr (fun t9 ht9 hW9 => ⟨⟨(sR, sF), rfl, Option.some.inj hG, by rw [ht9]; exact hP, hD⟩, hS.F ht9⟩) hS.2.2 d_F_takeStream_36
set_option maxRecDepth 100000 in
set_option maxHeartbeats 4000000 in
theorem k_F_takeStream_0 {p : Program} {l : Launch} {e : Env} {R : Room} {s : State} {m : MethodId} {args : Array Value} {below : List Frame} {meth : Method} {c : Code} {dC : Nat → ClassId} {dI : Nat → Nat → Nat} {cB cI cL : ClassId} {A : Nat → Prop} {adT : Nat} (X : zx p s m args meth c R R_F b_F_takeStream none 3 3 66) (hA : ∀ q, s.heap.size ≤ q → A q) (zz : zk dC dI cB cI cL A s)  (sR : zR) (sF : zF) (v2 : Int32) (a : zR × zF) (hG : g_F_takeStream sR sF v2 = some a) (adR adF adF_parts : Nat) (H : Heap) (locs : List Loc) (hP : va_P (dC, dI) zcl (zwR adR adT cB cI cL sR ++ zwF adF adF_parts cB cI cL sF) H) (hD : va_D A (zwR adR adT cB cI cL sR ++ zwF adF adF_parts cB cI cL sF)) (hS : va_S A s.heap H locs) (ls : Array Slot) (hl : lv_has ls 3 [(0, .ref adF), (1, .ref adR), (2, .int v2)]) : W p l e R s m args below meth c H locs 0 0 (MQ below (q_F_takeStream dC dI cB cI cL A adR adF adF_parts adT a) args s 0 0 A) (F0 m 0 ls []) := by
  obtain ⟨hx, hb, hr, hml, hown, hts, hlocks, hRf, hRl⟩ := id X
  unfold g_F_takeStream at hG
  refine lv_aload_n hx hb d_F_takeStream_0 rfl (lv_at hl 0 rfl) ?_
  refine va_get (D := (dC, dI)) (ci := 4) (v := .ref adF_parts) (C := R_F) (T := F_F) (N := 7) hx hb hts zi_F hown zz.1 hP 1 rfl rfl 0 (by decide) (hts (.fieldLink R_F 9 "WireCodec$Frame" "parts" "[J") zin_F_9) (fun _ h9 => h9) rfl d_F_takeStream_1 ?_
  refine lv_iconst (v := (2 : Int32)) hx hb d_F_takeStream_4 (by decide) ?_
  refine lv_iload_n hx hb d_F_takeStream_5 rfl (lv_at hl 2 rfl) ?_
  refine lv_iconst (v := (1 : Int32)) hx hb d_F_takeStream_6 (by decide) ?_
  refine lv_iand hx hb d_F_takeStream_7 ?_
  refine lv_i2l hx hb d_F_takeStream_8 rfl ?_
  obtain ⟨hin, hG⟩ := zgd hG
  refine va_last hx hb zz.1 hP hD hS 2 2 rfl rfl hin d_F_takeStream_9 (fun H locs hP hD hS => ?_)
  have hP : va_P (dC, dI) zcl (zwR adR adT cB cI cL sR ++ zwF adF adF_parts cB cI cL (zF_parts' sF (vp_updL (zF_parts sF) ((2 : Int32).toNatClampNeg) ((v2 &&& (1 : Int32)).toInt64)))) H := hP
  have hD : va_D A (zwR adR adT cB cI cL sR ++ zwF adF adF_parts cB cI cL (zF_parts' sF (vp_updL (zF_parts sF) ((2 : Int32).toNatClampNeg) ((v2 &&& (1 : Int32)).toInt64)))) := hD
  have hG : g_F_takeStream_w9 sR v2 (zF_parts' sF (vp_updL (zF_parts sF) ((2 : Int32).toNatClampNeg) ((v2 &&& (1 : Int32)).toInt64))) = some a := hG
  generalize zF_parts' sF (vp_updL (zF_parts sF) ((2 : Int32).toNatClampNeg) ((v2 &&& (1 : Int32)).toInt64)) = sF_9 at hP hD hG
  unfold g_F_takeStream_w9 at hG
  refine lv_iload_n hx hb d_F_takeStream_10 rfl (lv_at hl 2 rfl) ?_
  refine lv_iconst (v := (2 : Int32)) hx hb d_F_takeStream_11 (by decide) ?_
  refine lv_iand hx hb d_F_takeStream_12 ?_
  refine lv_if_eq (tgt := 26) hx hb d_F_takeStream_13 (by decide) (fun hc => ?_) (fun hc => ?_)
  · have hG := zt hG hc
    refine lv_aload_n hx hb d_F_takeStream_26 rfl (lv_at hl 0 rfl) ?_
    refine lv_aload_n hx hb d_F_takeStream_27 rfl (lv_at hl 1 rfl) ?_
    refine lv_aload_n hx hb d_F_takeStream_28 rfl (lv_at hl 1 rfl) ?_
    obtain ⟨a_29, hx_29, hG⟩ := zb hG
    have hr_29 := zrunV (p := p) (e := e) (below := below) (meth := meth) (As := []) (rest := [.ref adR, .ref adF]) (st0 := [.ref adR, .ref adR, .ref adF]) (cells := 0) (slots := 0) X zz hP hD hS hA [0] (by decide) rfl (c_R_left l dC dI cB cI cL H.size adR adT sR _ hx_29) zy_R_left zv_R_left (hts (.methodLink R_F 104 y_R_left) zin_F_104) hl rfl rfl d_F_takeStream_29 (lv_room (Nat.le_of_ble_eq_true rfl)) rfl rfl ⟨Nat.le_trans (Nat.le_of_ble_eq_true rfl) hRf, Nat.le_trans (Nat.le_of_ble_eq_true rfl) hRl⟩ ⟨Nat.zero_le _, Nat.zero_le _⟩ 0 2 rfl rfl
    refine zcalli (wr := (zwF adF adF_parts cB cI cL sF_9)) hr_29 hP hD hS hA [0] [1, 2] rfl rfl (by decide) (by decide) (fun r_29 u_29 H locs hw_29 hP hD hS => ?_)
    subst hw_29
    have hP : va_P (dC, dI) zcl (zwF adF adF_parts cB cI cL sF_9 ++ zwR adR adT cB cI cL sR) H := hP
    have hD : va_D A (zwF adF adF_parts cB cI cL sF_9 ++ zwR adR adT cB cI cL sR) := hD
    have hG : g_F_takeStream_c29 sR sF_9 r_29 = some a := hG
    unfold g_F_takeStream_c29 at hG
    refine lv_i2l hx hb d_F_takeStream_32 rfl ?_
    obtain ⟨a_33, hx_33, hG⟩ := zb hG
    have hr_33 := zrunV (p := p) (e := e) (below := below) (meth := meth) (As := [.ref adR, .long r_29.toInt64]) (rest := []) (st0 := [.long r_29.toInt64, .ref adR, .ref adF]) (cells := 0) (slots := 0) X zz hP hD hS hA [2, 0, 1] (by decide) rfl (c_F_takeData l dC dI cB cI cL H.size adR adF adF_parts adT sR sF_9 r_29.toInt64 _ hx_33) zy_F_takeData zv_F_takeData (hts (.methodLink R_F 71 y_F_takeData) zin_F_71) hl rfl rfl d_F_takeStream_33 (lv_room (Nat.le_of_ble_eq_true rfl)) rfl rfl ⟨Nat.le_trans (Nat.le_of_ble_eq_true rfl) hRf, Nat.le_trans (Nat.le_of_ble_eq_true rfl) hRl⟩ ⟨Nat.zero_le _, Nat.zero_le _⟩ 1 4 rfl rfl
    refine zcallv (wr := ([] : va_W)) hr_33 hP hD hS hA [2, 0, 1] [] rfl rfl (by decide) (by decide) (fun u_33 H locs hw_33 hP hD hS => ?_)
    obtain ⟨sR_33, sF_33⟩ := u_33
    subst hw_33
    have hP : va_P (dC, dI) zcl (zwR adR adT cB cI cL sR_33 ++ zwF adF adF_parts cB cI cL sF_33) H := hP
    have hD : va_D A (zwR adR adT cB cI cL sR_33 ++ zwF adF adF_parts cB cI cL sF_33) := hD
    have hG : g_F_takeStream_c33 sR_33 sF_33 = some a := hG
    unfold g_F_takeStream_c33 at hG
    exact k_F_takeStream_36 X hA zz sR_33 sF_33 _ hG adR adF adF_parts _ _ hP hD hS _ (lv_sub hl [] rfl)
  · have hG := zf hG hc
    refine lv_aload_n hx hb d_F_takeStream_16 rfl (lv_at hl 0 rfl) ?_
    refine va_get (D := (dC, dI)) (ci := 4) (v := .ref adF_parts) (C := R_F) (T := F_F) (N := 7) hx hb hts zi_F hown zz.1 hP 1 rfl rfl 0 (by decide) (hts (.fieldLink R_F 9 "WireCodec$Frame" "parts" "[J") zin_F_9) (fun _ h9 => h9) rfl d_F_takeStream_17 ?_
    refine lv_iconst (v := (3 : Int32)) hx hb d_F_takeStream_20 (by decide) ?_
    refine lv_lconst (v := (1 : Int64)) hx hb d_F_takeStream_21 (by decide) ?_
    obtain ⟨hin, hG⟩ := zgd hG
    refine va_last hx hb zz.1 hP hD hS 2 2 rfl rfl hin d_F_takeStream_22 (fun H locs hP hD hS => ?_)
    have hP : va_P (dC, dI) zcl (zwR adR adT cB cI cL sR ++ zwF adF adF_parts cB cI cL (zF_parts' sF_9 (vp_updL (zF_parts sF_9) ((3 : Int32).toNatClampNeg) (1 : Int64)))) H := hP
    have hD : va_D A (zwR adR adT cB cI cL sR ++ zwF adF adF_parts cB cI cL (zF_parts' sF_9 (vp_updL (zF_parts sF_9) ((3 : Int32).toNatClampNeg) (1 : Int64)))) := hD
    have hG : g_F_takeStream_w22 sR (zF_parts' sF_9 (vp_updL (zF_parts sF_9) ((3 : Int32).toNatClampNeg) (1 : Int64))) = some a := hG
    generalize zF_parts' sF_9 (vp_updL (zF_parts sF_9) ((3 : Int32).toNatClampNeg) (1 : Int64)) = sF_22 at hP hD hG
    unfold g_F_takeStream_w22 at hG
    refine lv_goto (tgt := 36) hx hb d_F_takeStream_23 (by decide) ?_
    exact k_F_takeStream_36 X hA zz sR sF_22 _ hG adR adF adF_parts _ _ hP hD hS _ (lv_sub hl [] rfl)
set_option maxRecDepth 100000 in
set_option maxHeartbeats 4000000 in
theorem c_F_takeStream (l : Launch) (dC : Nat → ClassId) (dI : Nat → Nat → Nat) (cB cI cL : ClassId) (sz : Nat) (adR adF adF_parts adT : Nat) (sR : zR) (sF : zF) (v2 : Int32) (a : zR × zF) (hG : g_F_takeStream sR sF v2 = some a) : Met l y_F_takeStream (zw y_F_takeStream b_F_takeStream 3 none) ({ frames := 3, cells := 0, slots := 0, locals := 66 }) (va_Pc [.ref adF, .ref adR, .int v2] (zpre dC dI cB cI cL sz (zwR adR adT cB cI cL sR ++ zwF adF adF_parts cB cI cL sF))) (q_F_takeStream dC dI cB cI cL (va_A (zwR adR adT cB cI cL sR ++ zwF adF adF_parts cB cI cL sF) sz) adR adF adF_parts adT a) 0 0 (va_A (zwR adR adT cB cI cL sR ++ zwF adF adF_parts cB cI cL sF) sz) := by
  refine Met.ofW (cc := b_F_takeStream) (maxL := 3) (ret := none) (by decide) rfl ?_
  intro p e s m args below meth c s₁ B hml hv
  obtain ⟨rfl, hsz, hP, zz, hD0⟩ := hv
  subst hsz
  have X := zx_of (F := 3) (L := 66) B hml (Nat.le_refl _) (Nat.le_refl _)
  have hD := hD0.self (sz := s.heap.size)
  have hA : ∀ q : Nat, s.heap.size ≤ q → va_A (zwR adR adT cB cI cL sR ++ zwF adF adF_parts cB cI cL sF) s.heap.size q := fun q h => Or.inr h
  have hl := lv_entry ([.ref adF, .ref adR, .int v2]) (n := 3) (Nat.le_of_ble_eq_true rfl)
  rw [lg_entry_eq]
  generalize (lg_sl ([.ref adF, .ref adR, .int v2]) ++ List.replicate (3 - (lg_sl ([.ref adF, .ref adR, .int v2])).length) Slot.unset).toArray = ls at hl ⊢
  exact k_F_takeStream_0 X hA zz sR sF v2 a hG adR adF adF_parts _ _ hP hD va_S.rf ls hl
noncomputable def g_H_goesTo_70 (N : Nat) (sT : zT) (sH : zH) (v4 : Int32) : Option (Int32) := zg (narrow .boolean (.int v4) = .int v4) (some (v4))
noncomputable def g_H_goesTo_62 (N : Nat) (kr : zT → zH → Int32 → Int32 → Int32 → Int32 → Option (Int32)) (sT : zT) (sH : zH) (v2 : Int32) (v3 : Int32) (v5 : Int32) (s0 : Int32) : Option (Int32) := kr sT sH v2 v3 s0 (v5 + 1)
noncomputable def g_H_goesTo_c51 (N : Nat) (kr : zT → zH → Int32 → Int32 → Int32 → Int32 → Option (Int32)) (sT : zT) (sH : zH) (v2 : Int32) (v3 : Int32) (v5 : Int32) (r_43 : Int32) (r_51 : Int32) : Option (Int32) := if r_43 = r_51 then (g_H_goesTo_62 N kr sT sH v2 v3 v5 (1 : Int32)) else (g_H_goesTo_62 N kr sT sH v2 v3 v5 (0 : Int32))
noncomputable def g_H_goesTo_c43 (N : Nat) (kr : zT → zH → Int32 → Int32 → Int32 → Int32 → Option (Int32)) (sT : zT) (sH : zH) (v2 : Int32) (v3 : Int32) (v5 : Int32) (r_43 : Int32) : Option (Int32) := (g_T_byteAt sT (v2 + v5)).bind (fun a => g_H_goesTo_c51 N kr sT sH v2 v3 v5 r_43 a)
noncomputable def g_H_goesTo_21_b (N : Nat) (kr : zT → zH → Int32 → Int32 → Int32 → Int32 → Option (Int32)) (sT : zT) (sH : zH) (v2 : Int32) (v3 : Int32) (v4 : Int32) (v5 : Int32) : Option (Int32) := if v4 = (0 : Int32) then (g_H_goesTo_70 N sT sH v4) else (if v3 ≤ v5 then (g_H_goesTo_70 N sT sH v4) else (zg (vp_in (6 : Int32) 12) ((g_T_byteAt sT (((zH_parts sH) (6 : Int32).toNatClampNeg) + v5)).bind (fun a => g_H_goesTo_c43 N kr sT sH v2 v3 v5 a))))
noncomputable def g_H_goesTo_21 (N : Nat) : Nat → zT → zH → Int32 → Int32 → Int32 → Int32 → Option (Int32)
  | 0 => fun _ _ _ _ _ _ => none
  | k + 1 => fun sT sH v2 v3 v4 v5 => g_H_goesTo_21_b N (g_H_goesTo_21 N k) sT sH v2 v3 v4 v5
noncomputable def g_H_goesTo_16 (N : Nat) (sT : zT) (sH : zH) (v2 : Int32) (v3 : Int32) (s0 : Int32) : Option (Int32) := g_H_goesTo_21 N N sT sH v2 v3 s0 (0 : Int32)
noncomputable def g_H_goesTo (N : Nat) (sT : zT) (sH : zH) (v2 : Int32) (v3 : Int32) : Option (Int32) := zg (vp_in (7 : Int32) 12) (if ((zH_parts sH) (7 : Int32).toNatClampNeg) = v3 then (g_H_goesTo_16 N sT sH v2 v3 (1 : Int32)) else (g_H_goesTo_16 N sT sH v2 v3 (0 : Int32)))
def q_H_goesTo (dC : Nat → ClassId) (dI : Nat → Nat → Nat) (cB cI cL : ClassId) (A : Nat → Prop) (adT : Nat) (adT_bytes : Nat) (adH : Nat) (adH_parts : Nat) (sT : zT) (sH : zH) (a : Int32) : Array Value → State → Outcome → State → Prop := va_Qi (fun (r : Int32) (u : Unit) => (r) = a) (fun u U => va_P (dC, dI) zcl (zwT adT adT_bytes cB cI cL sT ++ zwH adH adH_parts cB cI cL sH) U.heap ∧ va_D A (zwT adT adT_bytes cB cI cL sT ++ zwH adH adH_parts cB cI cL sH)) A
set_option maxRecDepth 100000 in
set_option maxHeartbeats 4000000 in
theorem k_H_goesTo_70 {p : Program} {l : Launch} {e : Env} {R : Room} {s : State} {m : MethodId} {args : Array Value} {below : List Frame} {meth : Method} {c : Code} {dC : Nat → ClassId} {dI : Nat → Nat → Nat} {cB cI cL : ClassId} {A : Nat → Prop} (X : zx p s m args meth c R R_H b_H_goesTo (some .boolean) 6 1 21) (hA : ∀ q, s.heap.size ≤ q → A q) (zz : zk dC dI cB cI cL A s)  (N : Nat) (sT : zT) (sH : zH) (v4 : Int32) (a : Int32) (hG : g_H_goesTo_70 N sT sH v4 = some a) (adT adT_bytes adH adH_parts : Nat) (H : Heap) (locs : List Loc) (hP : va_P (dC, dI) zcl (zwT adT adT_bytes cB cI cL sT ++ zwH adH adH_parts cB cI cL sH) H) (hD : va_D A (zwT adT adT_bytes cB cI cL sT ++ zwH adH adH_parts cB cI cL sH)) (hS : va_S A s.heap H locs) (ls : Array Slot) (hl : lv_has ls 6 [(4, .int v4)]) : W p l e R s m args below meth c H locs 0 0 (MQ below (q_H_goesTo dC dI cB cI cL A adT adT_bytes adH adH_parts sT sH a) args s 0 0 A) (F0 m 70 ls []) := by
  obtain ⟨hx, hb, hr, hml, hown, hts, hlocks, hRf, hRl⟩ := id X
  unfold g_H_goesTo_70 at hG
  refine lv_iload hx hb d_H_goesTo_70 (lv_at hl 0 rfl) ?_
  obtain ⟨hnb, hG⟩ := zgd hG
  exact W.zret (v := v4) hx hb hr hnb (fun t9 ht9 hW9 => ⟨⟨v4, (), rfl, Option.some.inj hG, by rw [ht9]; exact hP, hD⟩, hS.F ht9⟩) hS.2.2 d_H_goesTo_72
set_option maxRecDepth 100000 in
set_option maxHeartbeats 4000000 in
theorem k_H_goesTo_62 {p : Program} {l : Launch} {e : Env} {R : Room} {s : State} {m : MethodId} {args : Array Value} {below : List Frame} {meth : Method} {c : Code} {dC : Nat → ClassId} {dI : Nat → Nat → Nat} {cB cI cL : ClassId} {A : Nat → Prop} (kr : zT → zH → Int32 → Int32 → Int32 → Int32 → Option (Int32)) (hrec : ∀ (sT : zT) (sH : zH) (v2 : Int32) (v3 : Int32) (v4 : Int32) (v5 : Int32) (a : Int32), kr sT sH v2 v3 v4 v5 = some a → ∀ (adT adT_bytes adH adH_parts : Nat) (H : Heap) (locs : List Loc), va_P (dC, dI) zcl (zwT adT adT_bytes cB cI cL sT ++ zwH adH adH_parts cB cI cL sH) H → va_D A (zwT adT adT_bytes cB cI cL sT ++ zwH adH adH_parts cB cI cL sH) → va_S A s.heap H locs → ∀ ls : Array Slot, lv_has ls 6 [(0, .ref adH), (1, .ref adT), (2, .int v2), (3, .int v3), (4, .int v4), (5, .int v5)] → W p l e R s m args below meth c H locs 0 0 (MQ below (q_H_goesTo dC dI cB cI cL A adT adT_bytes adH adH_parts sT sH a) args s 0 0 A) (F0 m 21 ls [])) (X : zx p s m args meth c R R_H b_H_goesTo (some .boolean) 6 1 21) (hA : ∀ q, s.heap.size ≤ q → A q) (zz : zk dC dI cB cI cL A s)  (N : Nat) (sT : zT) (sH : zH) (v2 : Int32) (v3 : Int32) (v5 : Int32) (s0 : Int32) (a : Int32) (hG : g_H_goesTo_62 N kr sT sH v2 v3 v5 s0 = some a) (adT adT_bytes adH adH_parts : Nat) (H : Heap) (locs : List Loc) (hP : va_P (dC, dI) zcl (zwT adT adT_bytes cB cI cL sT ++ zwH adH adH_parts cB cI cL sH) H) (hD : va_D A (zwT adT adT_bytes cB cI cL sT ++ zwH adH adH_parts cB cI cL sH)) (hS : va_S A s.heap H locs) (ls : Array Slot) (hl : lv_has ls 6 [(0, .ref adH), (1, .ref adT), (2, .int v2), (3, .int v3), (5, .int v5)]) : W p l e R s m args below meth c H locs 0 0 (MQ below (q_H_goesTo dC dI cB cI cL A adT adT_bytes adH adH_parts sT sH a) args s 0 0 A) (F0 m 62 ls [.int s0]) := by
  obtain ⟨hx, hb, hr, hml, hown, hts, hlocks, hRf, hRl⟩ := id X
  unfold g_H_goesTo_62 at hG
  refine lv_istore (lv' := [(4, .int s0), (0, .ref adH), (1, .ref adT), (2, .int v2), (3, .int v3), (5, .int v5)]) hx hb d_H_goesTo_62 hl (by decide) rfl (fun ls hl => ?_)
  refine lv_iinc (v := v5 + 1) (lv' := [(5, .int (v5 + 1)), (4, .int s0), (0, .ref adH), (1, .ref adT), (2, .int v2), (3, .int v3)]) hx hb d_H_goesTo_64 hl (k := 5) rfl rfl (by decide) rfl (fun ls hl => ?_)
  refine lv_goto (tgt := 21) hx hb d_H_goesTo_67 (by decide) ?_
  exact hrec sT sH v2 v3 s0 (v5 + 1) _ hG adT adT_bytes adH adH_parts _ _ hP hD hS _ (lv_sub hl [2, 3, 4, 5, 1, 0] rfl)
set_option maxRecDepth 100000 in
set_option maxHeartbeats 4000000 in
theorem k_H_goesTo_21_b {p : Program} {l : Launch} {e : Env} {R : Room} {s : State} {m : MethodId} {args : Array Value} {below : List Frame} {meth : Method} {c : Code} {dC : Nat → ClassId} {dI : Nat → Nat → Nat} {cB cI cL : ClassId} {A : Nat → Prop} (kr : zT → zH → Int32 → Int32 → Int32 → Int32 → Option (Int32)) (hrec : ∀ (sT : zT) (sH : zH) (v2 : Int32) (v3 : Int32) (v4 : Int32) (v5 : Int32) (a : Int32), kr sT sH v2 v3 v4 v5 = some a → ∀ (adT adT_bytes adH adH_parts : Nat) (H : Heap) (locs : List Loc), va_P (dC, dI) zcl (zwT adT adT_bytes cB cI cL sT ++ zwH adH adH_parts cB cI cL sH) H → va_D A (zwT adT adT_bytes cB cI cL sT ++ zwH adH adH_parts cB cI cL sH) → va_S A s.heap H locs → ∀ ls : Array Slot, lv_has ls 6 [(0, .ref adH), (1, .ref adT), (2, .int v2), (3, .int v3), (4, .int v4), (5, .int v5)] → W p l e R s m args below meth c H locs 0 0 (MQ below (q_H_goesTo dC dI cB cI cL A adT adT_bytes adH adH_parts sT sH a) args s 0 0 A) (F0 m 21 ls [])) (X : zx p s m args meth c R R_H b_H_goesTo (some .boolean) 6 1 21) (hA : ∀ q, s.heap.size ≤ q → A q) (zz : zk dC dI cB cI cL A s)  (N : Nat) (sT : zT) (sH : zH) (v2 : Int32) (v3 : Int32) (v4 : Int32) (v5 : Int32) (a : Int32) (hG : g_H_goesTo_21_b N kr sT sH v2 v3 v4 v5 = some a) (adT adT_bytes adH adH_parts : Nat) (H : Heap) (locs : List Loc) (hP : va_P (dC, dI) zcl (zwT adT adT_bytes cB cI cL sT ++ zwH adH adH_parts cB cI cL sH) H) (hD : va_D A (zwT adT adT_bytes cB cI cL sT ++ zwH adH adH_parts cB cI cL sH)) (hS : va_S A s.heap H locs) (ls : Array Slot) (hl : lv_has ls 6 [(0, .ref adH), (1, .ref adT), (2, .int v2), (3, .int v3), (4, .int v4), (5, .int v5)]) : W p l e R s m args below meth c H locs 0 0 (MQ below (q_H_goesTo dC dI cB cI cL A adT adT_bytes adH adH_parts sT sH a) args s 0 0 A) (F0 m 21 ls []) := by
  obtain ⟨hx, hb, hr, hml, hown, hts, hlocks, hRf, hRl⟩ := id X
  unfold g_H_goesTo_21_b at hG
  refine lv_iload hx hb d_H_goesTo_21 (lv_at hl 4 rfl) ?_
  refine lv_if_eq (tgt := 70) hx hb d_H_goesTo_23 (by decide) (fun hc => ?_) (fun hc => ?_)
  · have hG := zt hG hc
    exact k_H_goesTo_70 X hA zz N sT sH v4 _ hG adT adT_bytes adH adH_parts _ _ hP hD hS _ (lv_sub hl [4] rfl)
  · have hG := zf hG hc
    refine lv_iload hx hb d_H_goesTo_26 (lv_at hl 5 rfl) ?_
    refine lv_iload_n hx hb d_H_goesTo_28 rfl (lv_at hl 3 rfl) ?_
    refine lv_icmp_ge (tgt := 70) hx hb d_H_goesTo_29 (by decide) (fun hc => ?_) (fun hc => ?_)
    · have hG := zt hG hc
      exact k_H_goesTo_70 X hA zz N sT sH v4 _ hG adT adT_bytes adH adH_parts _ _ hP hD hS _ (lv_sub hl [4] rfl)
    · have hG := zf hG hc
      refine lv_aload_n hx hb d_H_goesTo_32 rfl (lv_at hl 1 rfl) ?_
      refine lv_aload_n hx hb d_H_goesTo_33 rfl (lv_at hl 0 rfl) ?_
      refine va_get (D := (dC, dI)) (ci := 5) (v := .ref adH_parts) (C := R_H) (T := F_H) (N := 1) hx hb hts zi_H hown zz.1 hP 2 rfl rfl 0 (by decide) (hts (.fieldLink R_H 9 "WireCodec$Header" "parts" "[I") zin_H_9) (fun _ h9 => h9) rfl d_H_goesTo_34 ?_
      refine lv_bipush (v := (6 : Int32)) hx hb d_H_goesTo_37 (by decide) ?_
      obtain ⟨hin, hG⟩ := zgd hG
      refine va_iald hx hb zz.1 hP 3 1 rfl rfl hin d_H_goesTo_39 ?_
      refine lv_iload hx hb d_H_goesTo_40 (lv_at hl 5 rfl) ?_
      refine lv_iadd hx hb d_H_goesTo_42 ?_
      obtain ⟨a_43, hx_43, hG⟩ := zb hG
      have hr_43 := zrunV (p := p) (e := e) (below := below) (meth := meth) (As := [.int (((zH_parts sH) (6 : Int32).toNatClampNeg) + v5)]) (rest := []) (st0 := [.int (((zH_parts sH) (6 : Int32).toNatClampNeg) + v5), .ref adT]) (cells := 0) (slots := 0) X zz hP hD hS hA [0, 1] (by decide) rfl (c_T_byteAt l dC dI cB cI cL H.size adT adT_bytes sT (((zH_parts sH) (6 : Int32).toNatClampNeg) + v5) _ hx_43) zy_T_byteAt zv_T_byteAt (hts (.methodLink R_H 43 y_T_byteAt) zin_H_43) hl rfl rfl d_H_goesTo_43 (lv_room (Nat.le_of_ble_eq_true rfl)) rfl rfl ⟨Nat.le_trans (Nat.le_of_ble_eq_true rfl) hRf, Nat.le_trans (Nat.le_of_ble_eq_true rfl) hRl⟩ ⟨Nat.zero_le _, Nat.zero_le _⟩ 0 1 rfl rfl
      refine zcalli (wr := (zwH adH adH_parts cB cI cL sH)) hr_43 hP hD hS hA [0, 1] [2, 3] rfl rfl (by decide) (by decide) (fun r_43 u_43 H locs hw_43 hP hD hS => ?_)
      subst hw_43
      have hP : va_P (dC, dI) zcl (zwH adH adH_parts cB cI cL sH ++ zwT adT adT_bytes cB cI cL sT) H := hP
      have hD : va_D A (zwH adH adH_parts cB cI cL sH ++ zwT adT adT_bytes cB cI cL sT) := hD
      have hG : g_H_goesTo_c43 N kr sT sH v2 v3 v5 r_43 = some a := hG
      unfold g_H_goesTo_c43 at hG
      refine lv_aload_n hx hb d_H_goesTo_46 rfl (lv_at hl 1 rfl) ?_
      refine lv_iload_n hx hb d_H_goesTo_47 rfl (lv_at hl 2 rfl) ?_
      refine lv_iload hx hb d_H_goesTo_48 (lv_at hl 5 rfl) ?_
      refine lv_iadd hx hb d_H_goesTo_50 ?_
      obtain ⟨a_51, hx_51, hG⟩ := zb hG
      have hr_51 := zrunV (p := p) (e := e) (below := below) (meth := meth) (As := [.int (v2 + v5)]) (rest := [.int r_43]) (st0 := [.int (v2 + v5), .ref adT, .int r_43]) (cells := 0) (slots := 0) X zz hP hD hS hA [2, 3] (by decide) rfl (c_T_byteAt l dC dI cB cI cL H.size adT adT_bytes sT (v2 + v5) _ hx_51) zy_T_byteAt zv_T_byteAt (hts (.methodLink R_H 43 y_T_byteAt) zin_H_43) hl rfl rfl d_H_goesTo_51 (lv_room (Nat.le_of_ble_eq_true rfl)) rfl rfl ⟨Nat.le_trans (Nat.le_of_ble_eq_true rfl) hRf, Nat.le_trans (Nat.le_of_ble_eq_true rfl) hRl⟩ ⟨Nat.zero_le _, Nat.zero_le _⟩ 0 1 rfl rfl
      refine zcalli (wr := (zwH adH adH_parts cB cI cL sH)) hr_51 hP hD hS hA [2, 3] [0, 1] rfl rfl (by decide) (by decide) (fun r_51 u_51 H locs hw_51 hP hD hS => ?_)
      subst hw_51
      have hP : va_P (dC, dI) zcl (zwH adH adH_parts cB cI cL sH ++ zwT adT adT_bytes cB cI cL sT) H := hP
      have hD : va_D A (zwH adH adH_parts cB cI cL sH ++ zwT adT adT_bytes cB cI cL sT) := hD
      have hG : g_H_goesTo_c51 N kr sT sH v2 v3 v5 r_43 r_51 = some a := hG
      unfold g_H_goesTo_c51 at hG
      refine lv_icmp_ne (tgt := 61) hx hb d_H_goesTo_54 (by decide) (fun hc => ?_) (fun hc => ?_)
      · have hG := zf hG hc
        refine lv_iconst (v := (0 : Int32)) hx hb d_H_goesTo_61 (by decide) ?_
        exact k_H_goesTo_62 kr hrec X hA zz N sT sH v2 v3 v5 (0 : Int32) _ hG adT adT_bytes adH adH_parts _ _ (hP.sub [2, 3, 0, 1] rfl) (hD.sub [2, 3, 0, 1] (by decide) rfl) hS _ (lv_sub hl [0, 1, 2, 3, 5] rfl)
      · have hG := zt hG hc
        refine lv_iconst (v := (1 : Int32)) hx hb d_H_goesTo_57 (by decide) ?_
        refine lv_goto (tgt := 62) hx hb d_H_goesTo_58 (by decide) ?_
        exact k_H_goesTo_62 kr hrec X hA zz N sT sH v2 v3 v5 (1 : Int32) _ hG adT adT_bytes adH adH_parts _ _ (hP.sub [2, 3, 0, 1] rfl) (hD.sub [2, 3, 0, 1] (by decide) rfl) hS _ (lv_sub hl [0, 1, 2, 3, 5] rfl)
theorem k_H_goesTo_21 {p : Program} {l : Launch} {e : Env} {R : Room} {s : State} {m : MethodId} {args : Array Value} {below : List Frame} {meth : Method} {c : Code} {dC : Nat → ClassId} {dI : Nat → Nat → Nat} {cB cI cL : ClassId} {A : Nat → Prop} (X : zx p s m args meth c R R_H b_H_goesTo (some .boolean) 6 1 21) (hA : ∀ q, s.heap.size ≤ q → A q) (zz : zk dC dI cB cI cL A s)  (N : Nat) : ∀ (k : Nat) (sT : zT) (sH : zH) (v2 : Int32) (v3 : Int32) (v4 : Int32) (v5 : Int32) (a : Int32) (hG : g_H_goesTo_21 N k sT sH v2 v3 v4 v5 = some a) (adT adT_bytes adH adH_parts : Nat) (H : Heap) (locs : List Loc) (hP : va_P (dC, dI) zcl (zwT adT adT_bytes cB cI cL sT ++ zwH adH adH_parts cB cI cL sH) H) (hD : va_D A (zwT adT adT_bytes cB cI cL sT ++ zwH adH adH_parts cB cI cL sH)) (hS : va_S A s.heap H locs) (ls : Array Slot) (hl : lv_has ls 6 [(0, .ref adH), (1, .ref adT), (2, .int v2), (3, .int v3), (4, .int v4), (5, .int v5)]), W p l e R s m args below meth c H locs 0 0 (MQ below (q_H_goesTo dC dI cB cI cL A adT adT_bytes adH adH_parts sT sH a) args s 0 0 A) (F0 m 21 ls []) := by
  intro k
  induction k with
  | zero => intro sT sH v2 v3 v4 v5 a hG; exact absurd hG (by unfold g_H_goesTo_21; simp)
  | succ k ih => intro sT sH v2 v3 v4 v5 a hG adT adT_bytes adH adH_parts H locs hP hD hS ls hl; exact k_H_goesTo_21_b _ ih X hA zz N sT sH v2 v3 v4 v5 a hG adT adT_bytes adH adH_parts H locs hP hD hS ls hl
set_option maxRecDepth 100000 in
set_option maxHeartbeats 4000000 in
theorem k_H_goesTo_16 {p : Program} {l : Launch} {e : Env} {R : Room} {s : State} {m : MethodId} {args : Array Value} {below : List Frame} {meth : Method} {c : Code} {dC : Nat → ClassId} {dI : Nat → Nat → Nat} {cB cI cL : ClassId} {A : Nat → Prop} (X : zx p s m args meth c R R_H b_H_goesTo (some .boolean) 6 1 21) (hA : ∀ q, s.heap.size ≤ q → A q) (zz : zk dC dI cB cI cL A s)  (N : Nat) (sT : zT) (sH : zH) (v2 : Int32) (v3 : Int32) (s0 : Int32) (a : Int32) (hG : g_H_goesTo_16 N sT sH v2 v3 s0 = some a) (adT adT_bytes adH adH_parts : Nat) (H : Heap) (locs : List Loc) (hP : va_P (dC, dI) zcl (zwT adT adT_bytes cB cI cL sT ++ zwH adH adH_parts cB cI cL sH) H) (hD : va_D A (zwT adT adT_bytes cB cI cL sT ++ zwH adH adH_parts cB cI cL sH)) (hS : va_S A s.heap H locs) (ls : Array Slot) (hl : lv_has ls 6 [(0, .ref adH), (1, .ref adT), (2, .int v2), (3, .int v3)]) : W p l e R s m args below meth c H locs 0 0 (MQ below (q_H_goesTo dC dI cB cI cL A adT adT_bytes adH adH_parts sT sH a) args s 0 0 A) (F0 m 16 ls [.int s0]) := by
  obtain ⟨hx, hb, hr, hml, hown, hts, hlocks, hRf, hRl⟩ := id X
  unfold g_H_goesTo_16 at hG
  refine lv_istore (lv' := [(4, .int s0), (0, .ref adH), (1, .ref adT), (2, .int v2), (3, .int v3)]) hx hb d_H_goesTo_16 hl (by decide) rfl (fun ls hl => ?_)
  refine lv_iconst (v := (0 : Int32)) hx hb d_H_goesTo_18 (by decide) ?_
  refine lv_istore (lv' := [(5, .int (0 : Int32)), (4, .int s0), (0, .ref adH), (1, .ref adT), (2, .int v2), (3, .int v3)]) hx hb d_H_goesTo_19 hl (by decide) rfl (fun ls hl => ?_)
  exact k_H_goesTo_21 X hA zz N N sT sH v2 v3 s0 (0 : Int32) _ hG adT adT_bytes adH adH_parts _ _ hP hD hS _ (lv_sub hl [2, 3, 4, 5, 1, 0] rfl)
set_option maxRecDepth 100000 in
set_option maxHeartbeats 4000000 in
theorem k_H_goesTo_0 {p : Program} {l : Launch} {e : Env} {R : Room} {s : State} {m : MethodId} {args : Array Value} {below : List Frame} {meth : Method} {c : Code} {dC : Nat → ClassId} {dI : Nat → Nat → Nat} {cB cI cL : ClassId} {A : Nat → Prop} (X : zx p s m args meth c R R_H b_H_goesTo (some .boolean) 6 1 21) (hA : ∀ q, s.heap.size ≤ q → A q) (zz : zk dC dI cB cI cL A s)  (N : Nat) (sT : zT) (sH : zH) (v2 : Int32) (v3 : Int32) (a : Int32) (hG : g_H_goesTo N sT sH v2 v3 = some a) (adT adT_bytes adH adH_parts : Nat) (H : Heap) (locs : List Loc) (hP : va_P (dC, dI) zcl (zwT adT adT_bytes cB cI cL sT ++ zwH adH adH_parts cB cI cL sH) H) (hD : va_D A (zwT adT adT_bytes cB cI cL sT ++ zwH adH adH_parts cB cI cL sH)) (hS : va_S A s.heap H locs) (ls : Array Slot) (hl : lv_has ls 6 [(0, .ref adH), (1, .ref adT), (2, .int v2), (3, .int v3)]) : W p l e R s m args below meth c H locs 0 0 (MQ below (q_H_goesTo dC dI cB cI cL A adT adT_bytes adH adH_parts sT sH a) args s 0 0 A) (F0 m 0 ls []) := by
  obtain ⟨hx, hb, hr, hml, hown, hts, hlocks, hRf, hRl⟩ := id X
  unfold g_H_goesTo at hG
  refine lv_aload_n hx hb d_H_goesTo_0 rfl (lv_at hl 0 rfl) ?_
  refine va_get (D := (dC, dI)) (ci := 5) (v := .ref adH_parts) (C := R_H) (T := F_H) (N := 1) hx hb hts zi_H hown zz.1 hP 2 rfl rfl 0 (by decide) (hts (.fieldLink R_H 9 "WireCodec$Header" "parts" "[I") zin_H_9) (fun _ h9 => h9) rfl d_H_goesTo_1 ?_
  refine lv_bipush (v := (7 : Int32)) hx hb d_H_goesTo_4 (by decide) ?_
  obtain ⟨hin, hG⟩ := zgd hG
  refine va_iald hx hb zz.1 hP 3 1 rfl rfl hin d_H_goesTo_6 ?_
  refine lv_iload_n hx hb d_H_goesTo_7 rfl (lv_at hl 3 rfl) ?_
  refine lv_icmp_ne (tgt := 15) hx hb d_H_goesTo_8 (by decide) (fun hc => ?_) (fun hc => ?_)
  · have hG := zf hG hc
    refine lv_iconst (v := (0 : Int32)) hx hb d_H_goesTo_15 (by decide) ?_
    exact k_H_goesTo_16 X hA zz N sT sH v2 v3 (0 : Int32) _ hG adT adT_bytes adH adH_parts _ _ hP hD hS _ (lv_sub hl [0, 1, 2, 3] rfl)
  · have hG := zt hG hc
    refine lv_iconst (v := (1 : Int32)) hx hb d_H_goesTo_11 (by decide) ?_
    refine lv_goto (tgt := 16) hx hb d_H_goesTo_12 (by decide) ?_
    exact k_H_goesTo_16 X hA zz N sT sH v2 v3 (1 : Int32) _ hG adT adT_bytes adH adH_parts _ _ hP hD hS _ (lv_sub hl [0, 1, 2, 3] rfl)
set_option maxRecDepth 100000 in
set_option maxHeartbeats 4000000 in
theorem c_H_goesTo (l : Launch) (dC : Nat → ClassId) (dI : Nat → Nat → Nat) (cB cI cL : ClassId) (sz : Nat) (adT adT_bytes adH adH_parts : Nat) (N : Nat) (sT : zT) (sH : zH) (v2 : Int32) (v3 : Int32) (a : Int32) (hG : g_H_goesTo N sT sH v2 v3 = some a) : Met l y_H_goesTo (zw y_H_goesTo b_H_goesTo 6 (some .boolean)) ({ frames := 1, cells := 0, slots := 0, locals := 21 }) (va_Pc [.ref adH, .ref adT, .int v2, .int v3] (zpre dC dI cB cI cL sz (zwT adT adT_bytes cB cI cL sT ++ zwH adH adH_parts cB cI cL sH))) (q_H_goesTo dC dI cB cI cL (va_A (zwT adT adT_bytes cB cI cL sT ++ zwH adH adH_parts cB cI cL sH) sz) adT adT_bytes adH adH_parts sT sH a) 0 0 (va_A (zwT adT adT_bytes cB cI cL sT ++ zwH adH adH_parts cB cI cL sH) sz) := by
  refine Met.ofW (cc := b_H_goesTo) (maxL := 6) (ret := (some .boolean)) (by decide) rfl ?_
  intro p e s m args below meth c s₁ B hml hv
  obtain ⟨rfl, hsz, hP, zz, hD0⟩ := hv
  subst hsz
  have X := zx_of (F := 1) (L := 21) B hml (Nat.le_refl _) (Nat.le_refl _)
  have hD := hD0.self (sz := s.heap.size)
  have hA : ∀ q : Nat, s.heap.size ≤ q → va_A (zwT adT adT_bytes cB cI cL sT ++ zwH adH adH_parts cB cI cL sH) s.heap.size q := fun q h => Or.inr h
  have hl := lv_entry ([.ref adH, .ref adT, .int v2, .int v3]) (n := 6) (Nat.le_of_ble_eq_true rfl)
  rw [lg_entry_eq]
  generalize (lg_sl ([.ref adH, .ref adT, .int v2, .int v3]) ++ List.replicate (6 - (lg_sl ([.ref adH, .ref adT, .int v2, .int v3])).length) Slot.unset).toArray = ls at hl ⊢
  exact k_H_goesTo_0 X hA zz N sT sH v2 v3 a hG adT adT_bytes adH adH_parts _ _ hP hD va_S.rf ls hl
noncomputable def g_H_parseShort_79 (sR : zR) (sH : zH) (s0 : Int32) : Option (Int32 × zR × zH) := some (s0, sR, sH)
noncomputable def g_H_parseShort_74 (sR : zR) (sH : zH) : Option (Int32 × zR × zH) := g_H_parseShort_79 sR sH (1 : Int32)
noncomputable def g_H_parseShort_c66 (sR_26 : zR) (sH_57 : zH) (r_66 : Int32) : Option (Int32 × zR × zH) := if (20 : Int32) ≤ r_66 then (g_H_parseShort_79 sR_26 sH_57 (0 : Int32)) else (g_H_parseShort_74 sR_26 sH_57)
noncomputable def g_H_parseShort_w57 (sR_26 : zR) (sH_57 : zH) : Option (Int32 × zR × zH) := if (zR_over sR_26) = (0 : Int32) then ((g_R_left sR_26).bind (fun a => g_H_parseShort_c66 sR_26 sH_57 a)) else (g_H_parseShort_74 sR_26 sH_57)
noncomputable def g_H_parseShort_w47 (sR_26 : zR) (sH_47 : zH) : Option (Int32 × zR × zH) := zg (vp_in (5 : Int32) 12) (g_H_parseShort_w57 sR_26 (zH_parts' sH_47 (upd (zH_parts sH_47) ((5 : Int32).toNatClampNeg) (zR_limit sR_26))))
noncomputable def g_H_parseShort_w37 (sR_26 : zR) (sH_37 : zH) : Option (Int32 × zR × zH) := zg (vp_in (4 : Int32) 12) (g_H_parseShort_w47 sR_26 (zH_parts' sH_37 (upd (zH_parts sH_37) ((4 : Int32).toNatClampNeg) (zR_place sR_26))))
noncomputable def g_H_parseShort_w29 (v3 : Int32) (sR_26 : zR) (sH_29 : zH) : Option (Int32 × zR × zH) := zg (vp_in (7 : Int32) 12) (g_H_parseShort_w37 sR_26 (zH_parts' sH_29 (upd (zH_parts sH_29) ((7 : Int32).toNatClampNeg) v3)))
noncomputable def g_H_parseShort_c26 (v3 : Int32) (sH_16 : zH) (sR_26 : zR) (r_26 : Int32) : Option (Int32 × zR × zH) := zg (vp_in (6 : Int32) 12) (g_H_parseShort_w29 v3 sR_26 (zH_parts' sH_16 (upd (zH_parts sH_16) ((6 : Int32).toNatClampNeg) r_26)))
noncomputable def g_H_parseShort_w16 (sR : zR) (v3 : Int32) (sH_16 : zH) : Option (Int32 × zR × zH) := (g_R_takeBytes sR v3.toInt64).bind (fun a => g_H_parseShort_c26 v3 sH_16 a.2 a.1)
noncomputable def g_H_parseShort_w6 (sR : zR) (v2 : Int32) (v3 : Int32) (sH_6 : zH) : Option (Int32 × zR × zH) := zg (vp_in (1 : Int32) 12) (g_H_parseShort_w16 sR v3 (zH_parts' sH_6 (upd (zH_parts sH_6) ((1 : Int32).toNatClampNeg) (v2 &&& (63 : Int32)))))
noncomputable def g_H_parseShort (sR : zR) (sH : zH) (v2 : Int32) (v3 : Int32) : Option (Int32 × zR × zH) := zg (vp_in (0 : Int32) 12) (g_H_parseShort_w6 sR v2 v3 (zH_parts' sH (upd (zH_parts sH) ((0 : Int32).toNatClampNeg) (4 : Int32))))
def q_H_parseShort (dC : Nat → ClassId) (dI : Nat → Nat → Nat) (cB cI cL : ClassId) (A : Nat → Prop) (adR : Nat) (adH : Nat) (adH_parts : Nat) (adT : Nat) (a : Int32 × zR × zH) : Array Value → State → Outcome → State → Prop := va_Qi (fun (r : Int32) (u : zR × zH) => (r, u.1, u.2) = a) (fun u U => va_P (dC, dI) zcl (zwR adR adT cB cI cL u.1 ++ zwH adH adH_parts cB cI cL u.2) U.heap ∧ va_D A (zwR adR adT cB cI cL u.1 ++ zwH adH adH_parts cB cI cL u.2)) A
set_option maxRecDepth 100000 in
set_option maxHeartbeats 4000000 in
theorem k_H_parseShort_79 {p : Program} {l : Launch} {e : Env} {R : Room} {s : State} {m : MethodId} {args : Array Value} {below : List Frame} {meth : Method} {c : Code} {dC : Nat → ClassId} {dI : Nat → Nat → Nat} {cB cI cL : ClassId} {A : Nat → Prop} {adT : Nat} (X : zx p s m args meth c R R_H b_H_parseShort (some .int) 4 2 43) (hA : ∀ q, s.heap.size ≤ q → A q) (zz : zk dC dI cB cI cL A s)  (sR : zR) (sH : zH) (s0 : Int32) (a : Int32 × zR × zH) (hG : g_H_parseShort_79 sR sH s0 = some a) (adR adH adH_parts : Nat) (H : Heap) (locs : List Loc) (hP : va_P (dC, dI) zcl (zwR adR adT cB cI cL sR ++ zwH adH adH_parts cB cI cL sH) H) (hD : va_D A (zwR adR adT cB cI cL sR ++ zwH adH adH_parts cB cI cL sH)) (hS : va_S A s.heap H locs) (ls : Array Slot) (hl : lv_has ls 4 []) : W p l e R s m args below meth c H locs 0 0 (MQ below (q_H_parseShort dC dI cB cI cL A adR adH adH_parts adT a) args s 0 0 A) (F0 m 79 ls [.int s0]) := by
  obtain ⟨hx, hb, hr, hml, hown, hts, hlocks, hRf, hRl⟩ := id X
  unfold g_H_parseShort_79 at hG
  exact W.iret (v := s0) hx hb hr (fun t9 ht9 hW9 => ⟨⟨s0, (sR, sH), rfl, Option.some.inj hG, by rw [ht9]; exact hP, hD⟩, hS.F ht9⟩) hS.2.2 d_H_parseShort_79
set_option maxRecDepth 100000 in
set_option maxHeartbeats 4000000 in
theorem k_H_parseShort_74 {p : Program} {l : Launch} {e : Env} {R : Room} {s : State} {m : MethodId} {args : Array Value} {below : List Frame} {meth : Method} {c : Code} {dC : Nat → ClassId} {dI : Nat → Nat → Nat} {cB cI cL : ClassId} {A : Nat → Prop} {adT : Nat} (X : zx p s m args meth c R R_H b_H_parseShort (some .int) 4 2 43) (hA : ∀ q, s.heap.size ≤ q → A q) (zz : zk dC dI cB cI cL A s)  (sR : zR) (sH : zH) (a : Int32 × zR × zH) (hG : g_H_parseShort_74 sR sH = some a) (adR adH adH_parts : Nat) (H : Heap) (locs : List Loc) (hP : va_P (dC, dI) zcl (zwR adR adT cB cI cL sR ++ zwH adH adH_parts cB cI cL sH) H) (hD : va_D A (zwR adR adT cB cI cL sR ++ zwH adH adH_parts cB cI cL sH)) (hS : va_S A s.heap H locs) (ls : Array Slot) (hl : lv_has ls 4 []) : W p l e R s m args below meth c H locs 0 0 (MQ below (q_H_parseShort dC dI cB cI cL A adR adH adH_parts adT a) args s 0 0 A) (F0 m 74 ls []) := by
  obtain ⟨hx, hb, hr, hml, hown, hts, hlocks, hRf, hRl⟩ := id X
  unfold g_H_parseShort_74 at hG
  refine lv_iconst (v := (1 : Int32)) hx hb d_H_parseShort_74 (by decide) ?_
  refine lv_goto (tgt := 79) hx hb d_H_parseShort_75 (by decide) ?_
  exact k_H_parseShort_79 X hA zz sR sH (1 : Int32) _ hG adR adH adH_parts _ _ hP hD hS _ (lv_sub hl [] rfl)
set_option maxRecDepth 100000 in
set_option maxHeartbeats 4000000 in
theorem k_H_parseShort_0 {p : Program} {l : Launch} {e : Env} {R : Room} {s : State} {m : MethodId} {args : Array Value} {below : List Frame} {meth : Method} {c : Code} {dC : Nat → ClassId} {dI : Nat → Nat → Nat} {cB cI cL : ClassId} {A : Nat → Prop} {adT : Nat} (X : zx p s m args meth c R R_H b_H_parseShort (some .int) 4 2 43) (hA : ∀ q, s.heap.size ≤ q → A q) (zz : zk dC dI cB cI cL A s)  (sR : zR) (sH : zH) (v2 : Int32) (v3 : Int32) (a : Int32 × zR × zH) (hG : g_H_parseShort sR sH v2 v3 = some a) (adR adH adH_parts : Nat) (H : Heap) (locs : List Loc) (hP : va_P (dC, dI) zcl (zwR adR adT cB cI cL sR ++ zwH adH adH_parts cB cI cL sH) H) (hD : va_D A (zwR adR adT cB cI cL sR ++ zwH adH adH_parts cB cI cL sH)) (hS : va_S A s.heap H locs) (ls : Array Slot) (hl : lv_has ls 4 [(0, .ref adH), (1, .ref adR), (2, .int v2), (3, .int v3)]) : W p l e R s m args below meth c H locs 0 0 (MQ below (q_H_parseShort dC dI cB cI cL A adR adH adH_parts adT a) args s 0 0 A) (F0 m 0 ls []) := by
  obtain ⟨hx, hb, hr, hml, hown, hts, hlocks, hRf, hRl⟩ := id X
  unfold g_H_parseShort at hG
  refine lv_aload_n hx hb d_H_parseShort_0 rfl (lv_at hl 0 rfl) ?_
  refine va_get (D := (dC, dI)) (ci := 5) (v := .ref adH_parts) (C := R_H) (T := F_H) (N := 1) hx hb hts zi_H hown zz.1 hP 1 rfl rfl 0 (by decide) (hts (.fieldLink R_H 9 "WireCodec$Header" "parts" "[I") zin_H_9) (fun _ h9 => h9) rfl d_H_parseShort_1 ?_
  refine lv_iconst (v := (0 : Int32)) hx hb d_H_parseShort_4 (by decide) ?_
  refine lv_iconst (v := (4 : Int32)) hx hb d_H_parseShort_5 (by decide) ?_
  obtain ⟨hin, hG⟩ := zgd hG
  refine va_iast hx hb zz.1 hP hD hS 2 1 rfl rfl hin d_H_parseShort_6 (fun H locs hP hD hS => ?_)
  have hP : va_P (dC, dI) zcl (zwR adR adT cB cI cL sR ++ zwH adH adH_parts cB cI cL (zH_parts' sH (upd (zH_parts sH) ((0 : Int32).toNatClampNeg) (4 : Int32)))) H := hP
  have hD : va_D A (zwR adR adT cB cI cL sR ++ zwH adH adH_parts cB cI cL (zH_parts' sH (upd (zH_parts sH) ((0 : Int32).toNatClampNeg) (4 : Int32)))) := hD
  have hG : g_H_parseShort_w6 sR v2 v3 (zH_parts' sH (upd (zH_parts sH) ((0 : Int32).toNatClampNeg) (4 : Int32))) = some a := hG
  generalize zH_parts' sH (upd (zH_parts sH) ((0 : Int32).toNatClampNeg) (4 : Int32)) = sH_6 at hP hD hG
  unfold g_H_parseShort_w6 at hG
  refine lv_aload_n hx hb d_H_parseShort_7 rfl (lv_at hl 0 rfl) ?_
  refine va_get (D := (dC, dI)) (ci := 5) (v := .ref adH_parts) (C := R_H) (T := F_H) (N := 1) hx hb hts zi_H hown zz.1 hP 1 rfl rfl 0 (by decide) (hts (.fieldLink R_H 9 "WireCodec$Header" "parts" "[I") zin_H_9) (fun _ h9 => h9) rfl d_H_parseShort_8 ?_
  refine lv_iconst (v := (1 : Int32)) hx hb d_H_parseShort_11 (by decide) ?_
  refine lv_iload_n hx hb d_H_parseShort_12 rfl (lv_at hl 2 rfl) ?_
  refine lv_bipush (v := (63 : Int32)) hx hb d_H_parseShort_13 (by decide) ?_
  refine lv_iand hx hb d_H_parseShort_15 ?_
  obtain ⟨hin, hG⟩ := zgd hG
  refine va_iast hx hb zz.1 hP hD hS 2 1 rfl rfl hin d_H_parseShort_16 (fun H locs hP hD hS => ?_)
  have hP : va_P (dC, dI) zcl (zwR adR adT cB cI cL sR ++ zwH adH adH_parts cB cI cL (zH_parts' sH_6 (upd (zH_parts sH_6) ((1 : Int32).toNatClampNeg) (v2 &&& (63 : Int32))))) H := hP
  have hD : va_D A (zwR adR adT cB cI cL sR ++ zwH adH adH_parts cB cI cL (zH_parts' sH_6 (upd (zH_parts sH_6) ((1 : Int32).toNatClampNeg) (v2 &&& (63 : Int32))))) := hD
  have hG : g_H_parseShort_w16 sR v3 (zH_parts' sH_6 (upd (zH_parts sH_6) ((1 : Int32).toNatClampNeg) (v2 &&& (63 : Int32)))) = some a := hG
  generalize zH_parts' sH_6 (upd (zH_parts sH_6) ((1 : Int32).toNatClampNeg) (v2 &&& (63 : Int32))) = sH_16 at hP hD hG
  unfold g_H_parseShort_w16 at hG
  refine lv_aload_n hx hb d_H_parseShort_17 rfl (lv_at hl 0 rfl) ?_
  refine va_get (D := (dC, dI)) (ci := 5) (v := .ref adH_parts) (C := R_H) (T := F_H) (N := 1) hx hb hts zi_H hown zz.1 hP 1 rfl rfl 0 (by decide) (hts (.fieldLink R_H 9 "WireCodec$Header" "parts" "[I") zin_H_9) (fun _ h9 => h9) rfl d_H_parseShort_18 ?_
  refine lv_bipush (v := (6 : Int32)) hx hb d_H_parseShort_21 (by decide) ?_
  refine lv_aload_n hx hb d_H_parseShort_23 rfl (lv_at hl 1 rfl) ?_
  refine lv_iload_n hx hb d_H_parseShort_24 rfl (lv_at hl 3 rfl) ?_
  refine lv_i2l hx hb d_H_parseShort_25 rfl ?_
  obtain ⟨a_26, hx_26, hG⟩ := zb hG
  have hr_26 := zrunV (p := p) (e := e) (below := below) (meth := meth) (As := [.long v3.toInt64]) (rest := [.int (6 : Int32), .ref adH_parts]) (st0 := [.long v3.toInt64, .ref adR, .int (6 : Int32), .ref adH_parts]) (cells := 0) (slots := 0) X zz hP hD hS hA [0] (by decide) rfl (c_R_takeBytes l dC dI cB cI cL H.size adR adT sR v3.toInt64 _ hx_26) zy_R_takeBytes zv_R_takeBytes (hts (.methodLink R_H 49 y_R_takeBytes) zin_H_49) hl rfl rfl d_H_parseShort_26 (lv_room (Nat.le_of_ble_eq_true rfl)) rfl rfl ⟨Nat.le_trans (Nat.le_of_ble_eq_true rfl) hRf, Nat.le_trans (Nat.le_of_ble_eq_true rfl) hRl⟩ ⟨Nat.zero_le _, Nat.zero_le _⟩ 0 2 rfl rfl
  refine zcalli (wr := (zwH adH adH_parts cB cI cL sH_16)) hr_26 hP hD hS hA [0] [1, 2] rfl rfl (by decide) (by decide) (fun r_26 u_26 H locs hw_26 hP hD hS => ?_)
  obtain ⟨sR_26, rfl⟩ : ∃ z, z = u_26 := ⟨_, rfl⟩
  subst hw_26
  have hP : va_P (dC, dI) zcl (zwH adH adH_parts cB cI cL sH_16 ++ zwR adR adT cB cI cL sR_26) H := hP
  have hD : va_D A (zwH adH adH_parts cB cI cL sH_16 ++ zwR adR adT cB cI cL sR_26) := hD
  have hG : g_H_parseShort_c26 v3 sH_16 sR_26 r_26 = some a := hG
  unfold g_H_parseShort_c26 at hG
  obtain ⟨hin, hG⟩ := zgd hG
  refine va_iast hx hb zz.1 hP hD hS 1 1 rfl rfl hin d_H_parseShort_29 (fun H locs hP hD hS => ?_)
  have hP : va_P (dC, dI) zcl (zwH adH adH_parts cB cI cL (zH_parts' sH_16 (upd (zH_parts sH_16) ((6 : Int32).toNatClampNeg) r_26)) ++ zwR adR adT cB cI cL sR_26) H := hP
  have hD : va_D A (zwH adH adH_parts cB cI cL (zH_parts' sH_16 (upd (zH_parts sH_16) ((6 : Int32).toNatClampNeg) r_26)) ++ zwR adR adT cB cI cL sR_26) := hD
  have hG : g_H_parseShort_w29 v3 sR_26 (zH_parts' sH_16 (upd (zH_parts sH_16) ((6 : Int32).toNatClampNeg) r_26)) = some a := hG
  generalize zH_parts' sH_16 (upd (zH_parts sH_16) ((6 : Int32).toNatClampNeg) r_26) = sH_29 at hP hD hG
  unfold g_H_parseShort_w29 at hG
  refine lv_aload_n hx hb d_H_parseShort_30 rfl (lv_at hl 0 rfl) ?_
  refine va_get (D := (dC, dI)) (ci := 5) (v := .ref adH_parts) (C := R_H) (T := F_H) (N := 1) hx hb hts zi_H hown zz.1 hP 0 rfl rfl 0 (by decide) (hts (.fieldLink R_H 9 "WireCodec$Header" "parts" "[I") zin_H_9) (fun _ h9 => h9) rfl d_H_parseShort_31 ?_
  refine lv_bipush (v := (7 : Int32)) hx hb d_H_parseShort_34 (by decide) ?_
  refine lv_iload_n hx hb d_H_parseShort_36 rfl (lv_at hl 3 rfl) ?_
  obtain ⟨hin, hG⟩ := zgd hG
  refine va_iast hx hb zz.1 hP hD hS 1 1 rfl rfl hin d_H_parseShort_37 (fun H locs hP hD hS => ?_)
  have hP : va_P (dC, dI) zcl (zwH adH adH_parts cB cI cL (zH_parts' sH_29 (upd (zH_parts sH_29) ((7 : Int32).toNatClampNeg) v3)) ++ zwR adR adT cB cI cL sR_26) H := hP
  have hD : va_D A (zwH adH adH_parts cB cI cL (zH_parts' sH_29 (upd (zH_parts sH_29) ((7 : Int32).toNatClampNeg) v3)) ++ zwR adR adT cB cI cL sR_26) := hD
  have hG : g_H_parseShort_w37 sR_26 (zH_parts' sH_29 (upd (zH_parts sH_29) ((7 : Int32).toNatClampNeg) v3)) = some a := hG
  generalize zH_parts' sH_29 (upd (zH_parts sH_29) ((7 : Int32).toNatClampNeg) v3) = sH_37 at hP hD hG
  unfold g_H_parseShort_w37 at hG
  refine lv_aload_n hx hb d_H_parseShort_38 rfl (lv_at hl 0 rfl) ?_
  refine va_get (D := (dC, dI)) (ci := 5) (v := .ref adH_parts) (C := R_H) (T := F_H) (N := 1) hx hb hts zi_H hown zz.1 hP 0 rfl rfl 0 (by decide) (hts (.fieldLink R_H 9 "WireCodec$Header" "parts" "[I") zin_H_9) (fun _ h9 => h9) rfl d_H_parseShort_39 ?_
  refine lv_iconst (v := (4 : Int32)) hx hb d_H_parseShort_42 (by decide) ?_
  refine lv_aload_n hx hb d_H_parseShort_43 rfl (lv_at hl 1 rfl) ?_
  refine va_get (D := (dC, dI)) (ci := 2) (v := .int (zR_place sR_26)) (C := R_R) (T := F_R) (N := 4) hx hb hts zi_R hown zz.1 hP 2 rfl rfl 1 (by decide) (hts (.fieldLink R_H 21 "WireCodec$Reader" "place" "I") zin_H_21) (fun _ h9 => h9) rfl d_H_parseShort_44 ?_
  obtain ⟨hin, hG⟩ := zgd hG
  refine va_iast hx hb zz.1 hP hD hS 1 1 rfl rfl hin d_H_parseShort_47 (fun H locs hP hD hS => ?_)
  have hP : va_P (dC, dI) zcl (zwH adH adH_parts cB cI cL (zH_parts' sH_37 (upd (zH_parts sH_37) ((4 : Int32).toNatClampNeg) (zR_place sR_26))) ++ zwR adR adT cB cI cL sR_26) H := hP
  have hD : va_D A (zwH adH adH_parts cB cI cL (zH_parts' sH_37 (upd (zH_parts sH_37) ((4 : Int32).toNatClampNeg) (zR_place sR_26))) ++ zwR adR adT cB cI cL sR_26) := hD
  have hG : g_H_parseShort_w47 sR_26 (zH_parts' sH_37 (upd (zH_parts sH_37) ((4 : Int32).toNatClampNeg) (zR_place sR_26))) = some a := hG
  generalize zH_parts' sH_37 (upd (zH_parts sH_37) ((4 : Int32).toNatClampNeg) (zR_place sR_26)) = sH_47 at hP hD hG
  unfold g_H_parseShort_w47 at hG
  refine lv_aload_n hx hb d_H_parseShort_48 rfl (lv_at hl 0 rfl) ?_
  refine va_get (D := (dC, dI)) (ci := 5) (v := .ref adH_parts) (C := R_H) (T := F_H) (N := 1) hx hb hts zi_H hown zz.1 hP 0 rfl rfl 0 (by decide) (hts (.fieldLink R_H 9 "WireCodec$Header" "parts" "[I") zin_H_9) (fun _ h9 => h9) rfl d_H_parseShort_49 ?_
  refine lv_iconst (v := (5 : Int32)) hx hb d_H_parseShort_52 (by decide) ?_
  refine lv_aload_n hx hb d_H_parseShort_53 rfl (lv_at hl 1 rfl) ?_
  refine va_get (D := (dC, dI)) (ci := 2) (v := .int (zR_limit sR_26)) (C := R_R) (T := F_R) (N := 4) hx hb hts zi_R hown zz.1 hP 2 rfl rfl 2 (by decide) (hts (.fieldLink R_H 53 "WireCodec$Reader" "limit" "I") zin_H_53) (fun _ h9 => h9) rfl d_H_parseShort_54 ?_
  obtain ⟨hin, hG⟩ := zgd hG
  refine va_iast hx hb zz.1 hP hD hS 1 1 rfl rfl hin d_H_parseShort_57 (fun H locs hP hD hS => ?_)
  have hP : va_P (dC, dI) zcl (zwH adH adH_parts cB cI cL (zH_parts' sH_47 (upd (zH_parts sH_47) ((5 : Int32).toNatClampNeg) (zR_limit sR_26))) ++ zwR adR adT cB cI cL sR_26) H := hP
  have hD : va_D A (zwH adH adH_parts cB cI cL (zH_parts' sH_47 (upd (zH_parts sH_47) ((5 : Int32).toNatClampNeg) (zR_limit sR_26))) ++ zwR adR adT cB cI cL sR_26) := hD
  have hG : g_H_parseShort_w57 sR_26 (zH_parts' sH_47 (upd (zH_parts sH_47) ((5 : Int32).toNatClampNeg) (zR_limit sR_26))) = some a := hG
  generalize zH_parts' sH_47 (upd (zH_parts sH_47) ((5 : Int32).toNatClampNeg) (zR_limit sR_26)) = sH_57 at hP hD hG
  unfold g_H_parseShort_w57 at hG
  refine lv_aload_n hx hb d_H_parseShort_58 rfl (lv_at hl 1 rfl) ?_
  refine va_get (D := (dC, dI)) (ci := 2) (v := .int (zR_over sR_26)) (C := R_R) (T := F_R) (N := 4) hx hb hts zi_R hown zz.1 hP 2 rfl rfl 3 (by decide) (hts (.fieldLink R_H 31 "WireCodec$Reader" "over" "Z") zin_H_31) (fun _ h9 => h9) rfl d_H_parseShort_59 ?_
  refine lv_if_ne (tgt := 74) hx hb d_H_parseShort_62 (by decide) (fun hc => ?_) (fun hc => ?_)
  · have hG := zf hG hc
    exact k_H_parseShort_74 X hA zz sR_26 sH_57 _ hG adR adH adH_parts _ _ (hP.sub [2, 0, 1] rfl) (hD.sub [2, 0, 1] (by decide) rfl) hS _ (lv_sub hl [] rfl)
  · have hG := zt hG hc
    refine lv_aload_n hx hb d_H_parseShort_65 rfl (lv_at hl 1 rfl) ?_
    obtain ⟨a_66, hx_66, hG⟩ := zb hG
    have hr_66 := zrunV (p := p) (e := e) (below := below) (meth := meth) (As := []) (rest := []) (st0 := [.ref adR]) (cells := 0) (slots := 0) X zz hP hD hS hA [2] (by decide) rfl (c_R_left l dC dI cB cI cL H.size adR adT sR_26 _ hx_66) zy_R_left zv_R_left (hts (.methodLink R_H 56 y_R_left) zin_H_56) hl rfl rfl d_H_parseShort_66 (lv_room (Nat.le_of_ble_eq_true rfl)) rfl rfl ⟨Nat.le_trans (Nat.le_of_ble_eq_true rfl) hRf, Nat.le_trans (Nat.le_of_ble_eq_true rfl) hRl⟩ ⟨Nat.zero_le _, Nat.zero_le _⟩ 0 2 rfl rfl
    refine zcalli (wr := (zwH adH adH_parts cB cI cL sH_57)) hr_66 hP hD hS hA [2] [0, 1] rfl rfl (by decide) (by decide) (fun r_66 u_66 H locs hw_66 hP hD hS => ?_)
    subst hw_66
    have hP : va_P (dC, dI) zcl (zwH adH adH_parts cB cI cL sH_57 ++ zwR adR adT cB cI cL sR_26) H := hP
    have hD : va_D A (zwH adH adH_parts cB cI cL sH_57 ++ zwR adR adT cB cI cL sR_26) := hD
    have hG : g_H_parseShort_c66 sR_26 sH_57 r_66 = some a := hG
    unfold g_H_parseShort_c66 at hG
    refine lv_bipush (v := (20 : Int32)) hx hb d_H_parseShort_69 (by decide) ?_
    refine lv_icmp_ge (tgt := 78) hx hb d_H_parseShort_71 (by decide) (fun hc => ?_) (fun hc => ?_)
    · have hG := zt hG hc
      refine lv_iconst (v := (0 : Int32)) hx hb d_H_parseShort_78 (by decide) ?_
      exact k_H_parseShort_79 X hA zz sR_26 sH_57 (0 : Int32) _ hG adR adH adH_parts _ _ (hP.sub [2, 0, 1] rfl) (hD.sub [2, 0, 1] (by decide) rfl) hS _ (lv_sub hl [] rfl)
    · have hG := zf hG hc
      exact k_H_parseShort_74 X hA zz sR_26 sH_57 _ hG adR adH adH_parts _ _ (hP.sub [2, 0, 1] rfl) (hD.sub [2, 0, 1] (by decide) rfl) hS _ (lv_sub hl [] rfl)
set_option maxRecDepth 100000 in
set_option maxHeartbeats 4000000 in
theorem c_H_parseShort (l : Launch) (dC : Nat → ClassId) (dI : Nat → Nat → Nat) (cB cI cL : ClassId) (sz : Nat) (adR adH adH_parts adT : Nat) (sR : zR) (sH : zH) (v2 : Int32) (v3 : Int32) (a : Int32 × zR × zH) (hG : g_H_parseShort sR sH v2 v3 = some a) : Met l y_H_parseShort (zw y_H_parseShort b_H_parseShort 4 (some .int)) ({ frames := 2, cells := 0, slots := 0, locals := 43 }) (va_Pc [.ref adH, .ref adR, .int v2, .int v3] (zpre dC dI cB cI cL sz (zwR adR adT cB cI cL sR ++ zwH adH adH_parts cB cI cL sH))) (q_H_parseShort dC dI cB cI cL (va_A (zwR adR adT cB cI cL sR ++ zwH adH adH_parts cB cI cL sH) sz) adR adH adH_parts adT a) 0 0 (va_A (zwR adR adT cB cI cL sR ++ zwH adH adH_parts cB cI cL sH) sz) := by
  refine Met.ofW (cc := b_H_parseShort) (maxL := 4) (ret := (some .int)) (by decide) rfl ?_
  intro p e s m args below meth c s₁ B hml hv
  obtain ⟨rfl, hsz, hP, zz, hD0⟩ := hv
  subst hsz
  have X := zx_of (F := 2) (L := 43) B hml (Nat.le_refl _) (Nat.le_refl _)
  have hD := hD0.self (sz := s.heap.size)
  have hA : ∀ q : Nat, s.heap.size ≤ q → va_A (zwR adR adT cB cI cL sR ++ zwH adH adH_parts cB cI cL sH) s.heap.size q := fun q h => Or.inr h
  have hl := lv_entry ([.ref adH, .ref adR, .int v2, .int v3]) (n := 4) (Nat.le_of_ble_eq_true rfl)
  rw [lg_entry_eq]
  generalize (lg_sl ([.ref adH, .ref adR, .int v2, .int v3]) ++ List.replicate (4 - (lg_sl ([.ref adH, .ref adR, .int v2, .int v3])).length) Slot.unset).toArray = ls at hl ⊢
  exact k_H_parseShort_0 X hA zz sR sH v2 v3 a hG adR adH adH_parts _ _ hP hD va_S.rf ls hl
noncomputable def g_R_takeWord_27 (N : Nat) (sT : zT) (sR : zR) (s0 : Int64) : Option (Int64 × zR) := some (s0, sR)
noncomputable def g_R_takeWord_c24 (N : Nat) (sT : zT) (sR_3 : zR) (r_24 : Int64) : Option (Int64 × zR) := g_R_takeWord_27 N sT sR_3 r_24
noncomputable def g_R_takeWord_c3 (N : Nat) (sT : zT) (v1 : Int32) (sR_3 : zR) (r_3 : Int32) : Option (Int64 × zR) := if (zR_over sR_3) = (0 : Int32) then ((g_T_wordAt N sT r_3 v1).bind (fun a => g_R_takeWord_c24 N sT sR_3 a)) else (g_R_takeWord_27 N sT sR_3 (0 : Int64))
noncomputable def g_R_takeWord (N : Nat) (sT : zT) (sR : zR) (v1 : Int32) : Option (Int64 × zR) := (g_R_takeBytes sR v1.toInt64).bind (fun a => g_R_takeWord_c3 N sT v1 a.2 a.1)
def q_R_takeWord (dC : Nat → ClassId) (dI : Nat → Nat → Nat) (cB cI cL : ClassId) (A : Nat → Prop) (adT : Nat) (adT_bytes : Nat) (adR : Nat) (sT : zT) (a : Int64 × zR) : Array Value → State → Outcome → State → Prop := va_Ql (fun (r : Int64) (u : zR) => (r, u) = a) (fun u U => va_P (dC, dI) zcl (zwT adT adT_bytes cB cI cL sT ++ zwR adR adT cB cI cL u) U.heap ∧ va_D A (zwT adT adT_bytes cB cI cL sT ++ zwR adR adT cB cI cL u)) A
set_option maxRecDepth 100000 in
set_option maxHeartbeats 4000000 in
theorem k_R_takeWord_27 {p : Program} {l : Launch} {e : Env} {R : Room} {s : State} {m : MethodId} {args : Array Value} {below : List Frame} {meth : Method} {c : Code} {dC : Nat → ClassId} {dI : Nat → Nat → Nat} {cB cI cL : ClassId} {A : Nat → Prop} (X : zx p s m args meth c R R_R b_R_takeWord (some .long) 3 2 43) (hA : ∀ q, s.heap.size ≤ q → A q) (zz : zk dC dI cB cI cL A s)  (N : Nat) (sT : zT) (sR : zR) (s0 : Int64) (a : Int64 × zR) (hG : g_R_takeWord_27 N sT sR s0 = some a) (adT adT_bytes adR : Nat) (H : Heap) (locs : List Loc) (hP : va_P (dC, dI) zcl (zwT adT adT_bytes cB cI cL sT ++ zwR adR adT cB cI cL sR) H) (hD : va_D A (zwT adT adT_bytes cB cI cL sT ++ zwR adR adT cB cI cL sR)) (hS : va_S A s.heap H locs) (ls : Array Slot) (hl : lv_has ls 3 []) : W p l e R s m args below meth c H locs 0 0 (MQ below (q_R_takeWord dC dI cB cI cL A adT adT_bytes adR sT a) args s 0 0 A) (F0 m 27 ls [.long s0]) := by
  obtain ⟨hx, hb, hr, hml, hown, hts, hlocks, hRf, hRl⟩ := id X
  unfold g_R_takeWord_27 at hG
  exact W.lret (v := s0) hx hb hr (fun t9 ht9 hW9 => ⟨⟨s0, (sR), rfl, Option.some.inj hG, by rw [ht9]; exact hP, hD⟩, hS.F ht9⟩) hS.2.2 d_R_takeWord_27
set_option maxRecDepth 100000 in
set_option maxHeartbeats 4000000 in
theorem k_R_takeWord_0 {p : Program} {l : Launch} {e : Env} {R : Room} {s : State} {m : MethodId} {args : Array Value} {below : List Frame} {meth : Method} {c : Code} {dC : Nat → ClassId} {dI : Nat → Nat → Nat} {cB cI cL : ClassId} {A : Nat → Prop} (X : zx p s m args meth c R R_R b_R_takeWord (some .long) 3 2 43) (hA : ∀ q, s.heap.size ≤ q → A q) (zz : zk dC dI cB cI cL A s)  (N : Nat) (sT : zT) (sR : zR) (v1 : Int32) (a : Int64 × zR) (hG : g_R_takeWord N sT sR v1 = some a) (adT adT_bytes adR : Nat) (H : Heap) (locs : List Loc) (hP : va_P (dC, dI) zcl (zwT adT adT_bytes cB cI cL sT ++ zwR adR adT cB cI cL sR) H) (hD : va_D A (zwT adT adT_bytes cB cI cL sT ++ zwR adR adT cB cI cL sR)) (hS : va_S A s.heap H locs) (ls : Array Slot) (hl : lv_has ls 3 [(0, .ref adR), (1, .int v1)]) : W p l e R s m args below meth c H locs 0 0 (MQ below (q_R_takeWord dC dI cB cI cL A adT adT_bytes adR sT a) args s 0 0 A) (F0 m 0 ls []) := by
  obtain ⟨hx, hb, hr, hml, hown, hts, hlocks, hRf, hRl⟩ := id X
  unfold g_R_takeWord at hG
  refine lv_aload_n hx hb d_R_takeWord_0 rfl (lv_at hl 0 rfl) ?_
  refine lv_iload_n hx hb d_R_takeWord_1 rfl (lv_at hl 1 rfl) ?_
  refine lv_i2l hx hb d_R_takeWord_2 rfl ?_
  obtain ⟨a_3, hx_3, hG⟩ := zb hG
  have hr_3 := zrunV (p := p) (e := e) (below := below) (meth := meth) (As := [.long v1.toInt64]) (rest := []) (st0 := [.long v1.toInt64, .ref adR]) (cells := 0) (slots := 0) X zz hP hD hS hA [2] (by decide) rfl (c_R_takeBytes l dC dI cB cI cL H.size adR adT sR v1.toInt64 _ hx_3) zy_R_takeBytes zv_R_takeBytes (hts (.methodLink R_R 28 y_R_takeBytes) zin_R_28) hl rfl rfl d_R_takeWord_3 (lv_room (Nat.le_of_ble_eq_true rfl)) rfl rfl ⟨Nat.le_trans (Nat.le_of_ble_eq_true rfl) hRf, Nat.le_trans (Nat.le_of_ble_eq_true rfl) hRl⟩ ⟨Nat.zero_le _, Nat.zero_le _⟩ 0 2 rfl rfl
  refine zcalli (wr := (zwT adT adT_bytes cB cI cL sT)) hr_3 hP hD hS hA [2] [0, 1] rfl rfl (by decide) (by decide) (fun r_3 u_3 H locs hw_3 hP hD hS => ?_)
  obtain ⟨sR_3, rfl⟩ : ∃ z, z = u_3 := ⟨_, rfl⟩
  subst hw_3
  have hP : va_P (dC, dI) zcl (zwT adT adT_bytes cB cI cL sT ++ zwR adR adT cB cI cL sR_3) H := hP
  have hD : va_D A (zwT adT adT_bytes cB cI cL sT ++ zwR adR adT cB cI cL sR_3) := hD
  have hG : g_R_takeWord_c3 N sT v1 sR_3 r_3 = some a := hG
  unfold g_R_takeWord_c3 at hG
  refine lv_istore_n (lv' := [(2, .int r_3), (0, .ref adR), (1, .int v1)]) hx hb d_R_takeWord_6 rfl hl (by decide) rfl (fun ls hl => ?_)
  refine lv_aload_n hx hb d_R_takeWord_7 rfl (lv_at hl 1 rfl) ?_
  refine va_get (D := (dC, dI)) (ci := 2) (v := .int (zR_over sR_3)) (C := R_R) (T := F_R) (N := 4) hx hb hts zi_R hown zz.1 hP 2 rfl rfl 3 (by decide) (hts (.fieldLink R_R 20 "WireCodec$Reader" "over" "Z") zin_R_20) (fun _ h9 => h9) rfl d_R_takeWord_8 ?_
  refine lv_if_eq (tgt := 18) hx hb d_R_takeWord_11 (by decide) (fun hc => ?_) (fun hc => ?_)
  · have hG := zt hG hc
    refine lv_aload_n hx hb d_R_takeWord_18 rfl (lv_at hl 1 rfl) ?_
    refine va_get (D := (dC, dI)) (ci := 2) (v := .ref adT) (C := R_R) (T := F_R) (N := 4) hx hb hts zi_R hown zz.1 hP 2 rfl rfl 0 (by decide) (hts (.fieldLink R_R 7 "WireCodec$Reader" "tape" "LWireCodec$Tape;") zin_R_7) (fun _ h9 => h9) rfl d_R_takeWord_19 ?_
    refine lv_iload_n hx hb d_R_takeWord_22 rfl (lv_at hl 0 rfl) ?_
    refine lv_iload_n hx hb d_R_takeWord_23 rfl (lv_at hl 2 rfl) ?_
    obtain ⟨a_24, hx_24, hG⟩ := zb hG
    have hr_24 := zrunV (p := p) (e := e) (below := below) (meth := meth) (As := [.int r_3, .int v1]) (rest := []) (st0 := [.int v1, .int r_3, .ref adT]) (cells := 0) (slots := 0) X zz hP hD hS hA [0, 1] (by decide) rfl (c_T_wordAt l dC dI cB cI cL H.size adT adT_bytes N sT r_3 v1 _ hx_24) zy_T_wordAt zv_T_wordAt (hts (.methodLink R_R 32 y_T_wordAt) zin_R_32) hl rfl rfl d_R_takeWord_24 (lv_room (Nat.le_of_ble_eq_true rfl)) rfl rfl ⟨Nat.le_trans (Nat.le_of_ble_eq_true rfl) hRf, Nat.le_trans (Nat.le_of_ble_eq_true rfl) hRl⟩ ⟨Nat.zero_le _, Nat.zero_le _⟩ 0 1 rfl rfl
    refine zcalll (wr := (zwR adR adT cB cI cL sR_3)) hr_24 hP hD hS hA [0, 1] [2] rfl rfl (by decide) (by decide) (fun r_24 u_24 H locs hw_24 hP hD hS => ?_)
    subst hw_24
    have hP : va_P (dC, dI) zcl (zwR adR adT cB cI cL sR_3 ++ zwT adT adT_bytes cB cI cL sT) H := hP
    have hD : va_D A (zwR adR adT cB cI cL sR_3 ++ zwT adT adT_bytes cB cI cL sT) := hD
    have hG : g_R_takeWord_c24 N sT sR_3 r_24 = some a := hG
    unfold g_R_takeWord_c24 at hG
    exact k_R_takeWord_27 X hA zz N sT sR_3 r_24 _ hG adT adT_bytes adR _ _ (hP.sub [1, 2, 0] rfl) (hD.sub [1, 2, 0] (by decide) rfl) hS _ (lv_sub hl [] rfl)
  · have hG := zf hG hc
    refine lv_lconst (v := (0 : Int64)) hx hb d_R_takeWord_14 (by decide) ?_
    refine lv_goto (tgt := 27) hx hb d_R_takeWord_15 (by decide) ?_
    exact k_R_takeWord_27 X hA zz N sT sR_3 (0 : Int64) _ hG adT adT_bytes adR _ _ hP hD hS _ (lv_sub hl [] rfl)
set_option maxRecDepth 100000 in
set_option maxHeartbeats 4000000 in
theorem c_R_takeWord (l : Launch) (dC : Nat → ClassId) (dI : Nat → Nat → Nat) (cB cI cL : ClassId) (sz : Nat) (adT adT_bytes adR : Nat) (N : Nat) (sT : zT) (sR : zR) (v1 : Int32) (a : Int64 × zR) (hG : g_R_takeWord N sT sR v1 = some a) : Met l y_R_takeWord (zw y_R_takeWord b_R_takeWord 3 (some .long)) ({ frames := 2, cells := 0, slots := 0, locals := 43 }) (va_Pc [.ref adR, .int v1] (zpre dC dI cB cI cL sz (zwT adT adT_bytes cB cI cL sT ++ zwR adR adT cB cI cL sR))) (q_R_takeWord dC dI cB cI cL (va_A (zwT adT adT_bytes cB cI cL sT ++ zwR adR adT cB cI cL sR) sz) adT adT_bytes adR sT a) 0 0 (va_A (zwT adT adT_bytes cB cI cL sT ++ zwR adR adT cB cI cL sR) sz) := by
  refine Met.ofW (cc := b_R_takeWord) (maxL := 3) (ret := (some .long)) (by decide) rfl ?_
  intro p e s m args below meth c s₁ B hml hv
  obtain ⟨rfl, hsz, hP, zz, hD0⟩ := hv
  subst hsz
  have X := zx_of (F := 2) (L := 43) B hml (Nat.le_refl _) (Nat.le_refl _)
  have hD := hD0.self (sz := s.heap.size)
  have hA : ∀ q : Nat, s.heap.size ≤ q → va_A (zwT adT adT_bytes cB cI cL sT ++ zwR adR adT cB cI cL sR) s.heap.size q := fun q h => Or.inr h
  have hl := lv_entry ([.ref adR, .int v1]) (n := 3) (Nat.le_of_ble_eq_true rfl)
  rw [lg_entry_eq]
  generalize (lg_sl ([.ref adR, .int v1]) ++ List.replicate (3 - (lg_sl ([.ref adR, .int v1])).length) Slot.unset).toArray = ls at hl ⊢
  exact k_R_takeWord_0 X hA zz N sT sR v1 a hG adT adT_bytes adR _ _ hP hD va_S.rf ls hl
noncomputable def g_R_takeZeros_39 (N : Nat) (sT : zT) (sR : zR) (v1 : Int32) : Option (Int32 × zR) := some ((zR_place sR) - v1, sR)
noncomputable def g_R_takeZeros_w30 (kr : zT → zR → Int32 → Int32 → Option (Int32 × zR)) (sT : zT) (v1 : Int32) (v2 : Int32) (sR_30 : zR) : Option (Int32 × zR) := kr sT sR_30 v1 (v2 + 1)
noncomputable def g_R_takeZeros_c20 (N : Nat) (kr : zT → zR → Int32 → Int32 → Option (Int32 × zR)) (sT : zT) (sR : zR) (v1 : Int32) (v2 : Int32) (r_20 : Int32) : Option (Int32 × zR) := if r_20 = (0 : Int32) then (g_R_takeZeros_w30 kr sT v1 v2 (zR_place' sR (v2 + (1 : Int32)))) else (g_R_takeZeros_39 N sT sR v1)
noncomputable def g_R_takeZeros_7_b (N : Nat) (kr : zT → zR → Int32 → Int32 → Option (Int32 × zR)) (sT : zT) (sR : zR) (v1 : Int32) (v2 : Int32) : Option (Int32 × zR) := if (zR_limit sR) ≤ v2 then (g_R_takeZeros_39 N sT sR v1) else ((g_T_byteAt sT v2).bind (fun a => g_R_takeZeros_c20 N kr sT sR v1 v2 a))
noncomputable def g_R_takeZeros_7 (N : Nat) : Nat → zT → zR → Int32 → Int32 → Option (Int32 × zR)
  | 0 => fun _ _ _ _ => none
  | k + 1 => fun sT sR v1 v2 => g_R_takeZeros_7_b N (g_R_takeZeros_7 N k) sT sR v1 v2
noncomputable def g_R_takeZeros (N : Nat) (sT : zT) (sR : zR) : Option (Int32 × zR) := g_R_takeZeros_7 N N sT sR (zR_place sR) (zR_place sR)
def q_R_takeZeros (dC : Nat → ClassId) (dI : Nat → Nat → Nat) (cB cI cL : ClassId) (A : Nat → Prop) (adT : Nat) (adT_bytes : Nat) (adR : Nat) (sT : zT) (a : Int32 × zR) : Array Value → State → Outcome → State → Prop := va_Qi (fun (r : Int32) (u : zR) => (r, u) = a) (fun u U => va_P (dC, dI) zcl (zwT adT adT_bytes cB cI cL sT ++ zwR adR adT cB cI cL u) U.heap ∧ va_D A (zwT adT adT_bytes cB cI cL sT ++ zwR adR adT cB cI cL u)) A
set_option maxRecDepth 100000 in
set_option maxHeartbeats 4000000 in
theorem k_R_takeZeros_39 {p : Program} {l : Launch} {e : Env} {R : Room} {s : State} {m : MethodId} {args : Array Value} {below : List Frame} {meth : Method} {c : Code} {dC : Nat → ClassId} {dI : Nat → Nat → Nat} {cB cI cL : ClassId} {A : Nat → Prop} (X : zx p s m args meth c R R_R b_R_takeZeros (some .int) 3 1 21) (hA : ∀ q, s.heap.size ≤ q → A q) (zz : zk dC dI cB cI cL A s)  (N : Nat) (sT : zT) (sR : zR) (v1 : Int32) (a : Int32 × zR) (hG : g_R_takeZeros_39 N sT sR v1 = some a) (adT adT_bytes adR : Nat) (H : Heap) (locs : List Loc) (hP : va_P (dC, dI) zcl (zwT adT adT_bytes cB cI cL sT ++ zwR adR adT cB cI cL sR) H) (hD : va_D A (zwT adT adT_bytes cB cI cL sT ++ zwR adR adT cB cI cL sR)) (hS : va_S A s.heap H locs) (ls : Array Slot) (hl : lv_has ls 3 [(0, .ref adR), (1, .int v1)]) : W p l e R s m args below meth c H locs 0 0 (MQ below (q_R_takeZeros dC dI cB cI cL A adT adT_bytes adR sT a) args s 0 0 A) (F0 m 39 ls []) := by
  obtain ⟨hx, hb, hr, hml, hown, hts, hlocks, hRf, hRl⟩ := id X
  unfold g_R_takeZeros_39 at hG
  refine lv_aload_n hx hb d_R_takeZeros_39 rfl (lv_at hl 0 rfl) ?_
  refine va_get (D := (dC, dI)) (ci := 2) (v := .int (zR_place sR)) (C := R_R) (T := F_R) (N := 4) hx hb hts zi_R hown zz.1 hP 2 rfl rfl 1 (by decide) (hts (.fieldLink R_R 13 "WireCodec$Reader" "place" "I") zin_R_13) (fun _ h9 => h9) rfl d_R_takeZeros_40 ?_
  refine lv_iload_n hx hb d_R_takeZeros_43 rfl (lv_at hl 1 rfl) ?_
  refine lv_isub hx hb d_R_takeZeros_44 ?_
  exact W.iret (v := (zR_place sR) - v1) hx hb hr (fun t9 ht9 hW9 => ⟨⟨(zR_place sR) - v1, (sR), rfl, Option.some.inj hG, by rw [ht9]; exact hP, hD⟩, hS.F ht9⟩) hS.2.2 d_R_takeZeros_45
set_option maxRecDepth 100000 in
set_option maxHeartbeats 4000000 in
theorem k_R_takeZeros_7_b {p : Program} {l : Launch} {e : Env} {R : Room} {s : State} {m : MethodId} {args : Array Value} {below : List Frame} {meth : Method} {c : Code} {dC : Nat → ClassId} {dI : Nat → Nat → Nat} {cB cI cL : ClassId} {A : Nat → Prop} (kr : zT → zR → Int32 → Int32 → Option (Int32 × zR)) (hrec : ∀ (sT : zT) (sR : zR) (v1 : Int32) (v2 : Int32) (a : Int32 × zR), kr sT sR v1 v2 = some a → ∀ (adT adT_bytes adR : Nat) (H : Heap) (locs : List Loc), va_P (dC, dI) zcl (zwT adT adT_bytes cB cI cL sT ++ zwR adR adT cB cI cL sR) H → va_D A (zwT adT adT_bytes cB cI cL sT ++ zwR adR adT cB cI cL sR) → va_S A s.heap H locs → ∀ ls : Array Slot, lv_has ls 3 [(0, .ref adR), (1, .int v1), (2, .int v2)] → W p l e R s m args below meth c H locs 0 0 (MQ below (q_R_takeZeros dC dI cB cI cL A adT adT_bytes adR sT a) args s 0 0 A) (F0 m 7 ls [])) (X : zx p s m args meth c R R_R b_R_takeZeros (some .int) 3 1 21) (hA : ∀ q, s.heap.size ≤ q → A q) (zz : zk dC dI cB cI cL A s)  (N : Nat) (sT : zT) (sR : zR) (v1 : Int32) (v2 : Int32) (a : Int32 × zR) (hG : g_R_takeZeros_7_b N kr sT sR v1 v2 = some a) (adT adT_bytes adR : Nat) (H : Heap) (locs : List Loc) (hP : va_P (dC, dI) zcl (zwT adT adT_bytes cB cI cL sT ++ zwR adR adT cB cI cL sR) H) (hD : va_D A (zwT adT adT_bytes cB cI cL sT ++ zwR adR adT cB cI cL sR)) (hS : va_S A s.heap H locs) (ls : Array Slot) (hl : lv_has ls 3 [(0, .ref adR), (1, .int v1), (2, .int v2)]) : W p l e R s m args below meth c H locs 0 0 (MQ below (q_R_takeZeros dC dI cB cI cL A adT adT_bytes adR sT a) args s 0 0 A) (F0 m 7 ls []) := by
  obtain ⟨hx, hb, hr, hml, hown, hts, hlocks, hRf, hRl⟩ := id X
  unfold g_R_takeZeros_7_b at hG
  refine lv_iload_n hx hb d_R_takeZeros_7 rfl (lv_at hl 2 rfl) ?_
  refine lv_aload_n hx hb d_R_takeZeros_8 rfl (lv_at hl 0 rfl) ?_
  refine va_get (D := (dC, dI)) (ci := 2) (v := .int (zR_limit sR)) (C := R_R) (T := F_R) (N := 4) hx hb hts zi_R hown zz.1 hP 2 rfl rfl 2 (by decide) (hts (.fieldLink R_R 17 "WireCodec$Reader" "limit" "I") zin_R_17) (fun _ h9 => h9) rfl d_R_takeZeros_9 ?_
  refine lv_icmp_ge (tgt := 39) hx hb d_R_takeZeros_12 (by decide) (fun hc => ?_) (fun hc => ?_)
  · have hG := zt hG hc
    exact k_R_takeZeros_39 X hA zz N sT sR v1 _ hG adT adT_bytes adR _ _ hP hD hS _ (lv_sub hl [0, 1] rfl)
  · have hG := zf hG hc
    refine lv_aload_n hx hb d_R_takeZeros_15 rfl (lv_at hl 0 rfl) ?_
    refine va_get (D := (dC, dI)) (ci := 2) (v := .ref adT) (C := R_R) (T := F_R) (N := 4) hx hb hts zi_R hown zz.1 hP 2 rfl rfl 0 (by decide) (hts (.fieldLink R_R 7 "WireCodec$Reader" "tape" "LWireCodec$Tape;") zin_R_7) (fun _ h9 => h9) rfl d_R_takeZeros_16 ?_
    refine lv_iload_n hx hb d_R_takeZeros_19 rfl (lv_at hl 2 rfl) ?_
    obtain ⟨a_20, hx_20, hG⟩ := zb hG
    have hr_20 := zrunV (p := p) (e := e) (below := below) (meth := meth) (As := [.int v2]) (rest := []) (st0 := [.int v2, .ref adT]) (cells := 0) (slots := 0) X zz hP hD hS hA [0, 1] (by decide) rfl (c_T_byteAt l dC dI cB cI cL H.size adT adT_bytes sT v2 _ hx_20) zy_T_byteAt zv_T_byteAt (hts (.methodLink R_R 47 y_T_byteAt) zin_R_47) hl rfl rfl d_R_takeZeros_20 (lv_room (Nat.le_of_ble_eq_true rfl)) rfl rfl ⟨Nat.le_trans (Nat.le_of_ble_eq_true rfl) hRf, Nat.le_trans (Nat.le_of_ble_eq_true rfl) hRl⟩ ⟨Nat.zero_le _, Nat.zero_le _⟩ 0 1 rfl rfl
    refine zcalli (wr := (zwR adR adT cB cI cL sR)) hr_20 hP hD hS hA [0, 1] [2] rfl rfl (by decide) (by decide) (fun r_20 u_20 H locs hw_20 hP hD hS => ?_)
    subst hw_20
    have hP : va_P (dC, dI) zcl (zwR adR adT cB cI cL sR ++ zwT adT adT_bytes cB cI cL sT) H := hP
    have hD : va_D A (zwR adR adT cB cI cL sR ++ zwT adT adT_bytes cB cI cL sT) := hD
    have hG : g_R_takeZeros_c20 N kr sT sR v1 v2 r_20 = some a := hG
    unfold g_R_takeZeros_c20 at hG
    refine lv_if_ne (tgt := 39) hx hb d_R_takeZeros_23 (by decide) (fun hc => ?_) (fun hc => ?_)
    · have hG := zf hG hc
      exact k_R_takeZeros_39 X hA zz N sT sR v1 _ hG adT adT_bytes adR _ _ (hP.sub [1, 2, 0] rfl) (hD.sub [1, 2, 0] (by decide) rfl) hS _ (lv_sub hl [0, 1] rfl)
    · have hG := zt hG hc
      refine lv_aload_n hx hb d_R_takeZeros_26 rfl (lv_at hl 0 rfl) ?_
      refine lv_iload_n hx hb d_R_takeZeros_27 rfl (lv_at hl 2 rfl) ?_
      refine lv_iconst (v := (1 : Int32)) hx hb d_R_takeZeros_28 (by decide) ?_
      refine lv_iadd hx hb d_R_takeZeros_29 ?_
      refine va_put (D := (dC, dI)) (ci := 2) (v := .int (v2 + (1 : Int32))) (ty := .int) (C := R_R) (T := F_R) (N := 4) hx hb hts zi_R zty_R zty_R_ok znm_R hown zz.1 hP hD hS 0 rfl rfl 1 (by decide) (hts (.fieldLink R_R 13 "WireCodec$Reader" "place" "I") zin_R_13) (fun _ h9 => h9) rfl (by decide +kernel) rfl rfl (Nat.le_of_ble_eq_true rfl) d_R_takeZeros_30 (fun H locs hP hD hS => ?_)
      have hP : va_P (dC, dI) zcl (zwR adR adT cB cI cL (zR_place' sR (v2 + (1 : Int32))) ++ zwT adT adT_bytes cB cI cL sT) H := hP
      have hD : va_D A (zwR adR adT cB cI cL (zR_place' sR (v2 + (1 : Int32))) ++ zwT adT adT_bytes cB cI cL sT) := hD
      have hG : g_R_takeZeros_w30 kr sT v1 v2 (zR_place' sR (v2 + (1 : Int32))) = some a := hG
      generalize zR_place' sR (v2 + (1 : Int32)) = sR_30 at hP hD hG
      unfold g_R_takeZeros_w30 at hG
      refine lv_iinc (v := v2 + 1) (lv' := [(2, .int (v2 + 1)), (0, .ref adR), (1, .int v1)]) hx hb d_R_takeZeros_33 hl (k := 2) rfl rfl (by decide) rfl (fun ls hl => ?_)
      refine lv_goto (tgt := 7) hx hb d_R_takeZeros_36 (by decide) ?_
      exact hrec sT sR_30 v1 (v2 + 1) _ hG adT adT_bytes adR _ _ (hP.sub [1, 2, 0] rfl) (hD.sub [1, 2, 0] (by decide) rfl) hS _ (lv_sub hl [1, 2, 0] rfl)
theorem k_R_takeZeros_7 {p : Program} {l : Launch} {e : Env} {R : Room} {s : State} {m : MethodId} {args : Array Value} {below : List Frame} {meth : Method} {c : Code} {dC : Nat → ClassId} {dI : Nat → Nat → Nat} {cB cI cL : ClassId} {A : Nat → Prop} (X : zx p s m args meth c R R_R b_R_takeZeros (some .int) 3 1 21) (hA : ∀ q, s.heap.size ≤ q → A q) (zz : zk dC dI cB cI cL A s)  (N : Nat) : ∀ (k : Nat) (sT : zT) (sR : zR) (v1 : Int32) (v2 : Int32) (a : Int32 × zR) (hG : g_R_takeZeros_7 N k sT sR v1 v2 = some a) (adT adT_bytes adR : Nat) (H : Heap) (locs : List Loc) (hP : va_P (dC, dI) zcl (zwT adT adT_bytes cB cI cL sT ++ zwR adR adT cB cI cL sR) H) (hD : va_D A (zwT adT adT_bytes cB cI cL sT ++ zwR adR adT cB cI cL sR)) (hS : va_S A s.heap H locs) (ls : Array Slot) (hl : lv_has ls 3 [(0, .ref adR), (1, .int v1), (2, .int v2)]), W p l e R s m args below meth c H locs 0 0 (MQ below (q_R_takeZeros dC dI cB cI cL A adT adT_bytes adR sT a) args s 0 0 A) (F0 m 7 ls []) := by
  intro k
  induction k with
  | zero => intro sT sR v1 v2 a hG; exact absurd hG (by unfold g_R_takeZeros_7; simp)
  | succ k ih => intro sT sR v1 v2 a hG adT adT_bytes adR H locs hP hD hS ls hl; exact k_R_takeZeros_7_b _ ih X hA zz N sT sR v1 v2 a hG adT adT_bytes adR H locs hP hD hS ls hl
set_option maxRecDepth 100000 in
set_option maxHeartbeats 4000000 in
theorem k_R_takeZeros_0 {p : Program} {l : Launch} {e : Env} {R : Room} {s : State} {m : MethodId} {args : Array Value} {below : List Frame} {meth : Method} {c : Code} {dC : Nat → ClassId} {dI : Nat → Nat → Nat} {cB cI cL : ClassId} {A : Nat → Prop} (X : zx p s m args meth c R R_R b_R_takeZeros (some .int) 3 1 21) (hA : ∀ q, s.heap.size ≤ q → A q) (zz : zk dC dI cB cI cL A s)  (N : Nat) (sT : zT) (sR : zR) (a : Int32 × zR) (hG : g_R_takeZeros N sT sR = some a) (adT adT_bytes adR : Nat) (H : Heap) (locs : List Loc) (hP : va_P (dC, dI) zcl (zwT adT adT_bytes cB cI cL sT ++ zwR adR adT cB cI cL sR) H) (hD : va_D A (zwT adT adT_bytes cB cI cL sT ++ zwR adR adT cB cI cL sR)) (hS : va_S A s.heap H locs) (ls : Array Slot) (hl : lv_has ls 3 [(0, .ref adR)]) : W p l e R s m args below meth c H locs 0 0 (MQ below (q_R_takeZeros dC dI cB cI cL A adT adT_bytes adR sT a) args s 0 0 A) (F0 m 0 ls []) := by
  obtain ⟨hx, hb, hr, hml, hown, hts, hlocks, hRf, hRl⟩ := id X
  unfold g_R_takeZeros at hG
  refine lv_aload_n hx hb d_R_takeZeros_0 rfl (lv_at hl 0 rfl) ?_
  refine va_get (D := (dC, dI)) (ci := 2) (v := .int (zR_place sR)) (C := R_R) (T := F_R) (N := 4) hx hb hts zi_R hown zz.1 hP 2 rfl rfl 1 (by decide) (hts (.fieldLink R_R 13 "WireCodec$Reader" "place" "I") zin_R_13) (fun _ h9 => h9) rfl d_R_takeZeros_1 ?_
  refine lv_istore_n (lv' := [(1, .int (zR_place sR)), (0, .ref adR)]) hx hb d_R_takeZeros_4 rfl hl (by decide) rfl (fun ls hl => ?_)
  refine lv_iload_n hx hb d_R_takeZeros_5 rfl (lv_at hl 0 rfl) ?_
  refine lv_istore_n (lv' := [(2, .int (zR_place sR)), (1, .int (zR_place sR)), (0, .ref adR)]) hx hb d_R_takeZeros_6 rfl hl (by decide) rfl (fun ls hl => ?_)
  exact k_R_takeZeros_7 X hA zz N N sT sR (zR_place sR) (zR_place sR) _ hG adT adT_bytes adR _ _ hP hD hS _ (lv_sub hl [2, 1, 0] rfl)
set_option maxRecDepth 100000 in
set_option maxHeartbeats 4000000 in
theorem c_R_takeZeros (l : Launch) (dC : Nat → ClassId) (dI : Nat → Nat → Nat) (cB cI cL : ClassId) (sz : Nat) (adT adT_bytes adR : Nat) (N : Nat) (sT : zT) (sR : zR) (a : Int32 × zR) (hG : g_R_takeZeros N sT sR = some a) : Met l y_R_takeZeros (zw y_R_takeZeros b_R_takeZeros 3 (some .int)) ({ frames := 1, cells := 0, slots := 0, locals := 21 }) (va_Pc [.ref adR] (zpre dC dI cB cI cL sz (zwT adT adT_bytes cB cI cL sT ++ zwR adR adT cB cI cL sR))) (q_R_takeZeros dC dI cB cI cL (va_A (zwT adT adT_bytes cB cI cL sT ++ zwR adR adT cB cI cL sR) sz) adT adT_bytes adR sT a) 0 0 (va_A (zwT adT adT_bytes cB cI cL sT ++ zwR adR adT cB cI cL sR) sz) := by
  refine Met.ofW (cc := b_R_takeZeros) (maxL := 3) (ret := (some .int)) (by decide) rfl ?_
  intro p e s m args below meth c s₁ B hml hv
  obtain ⟨rfl, hsz, hP, zz, hD0⟩ := hv
  subst hsz
  have X := zx_of (F := 1) (L := 21) B hml (Nat.le_refl _) (Nat.le_refl _)
  have hD := hD0.self (sz := s.heap.size)
  have hA : ∀ q : Nat, s.heap.size ≤ q → va_A (zwT adT adT_bytes cB cI cL sT ++ zwR adR adT cB cI cL sR) s.heap.size q := fun q h => Or.inr h
  have hl := lv_entry ([.ref adR]) (n := 3) (Nat.le_of_ble_eq_true rfl)
  rw [lg_entry_eq]
  generalize (lg_sl ([.ref adR]) ++ List.replicate (3 - (lg_sl ([.ref adR])).length) Slot.unset).toArray = ls at hl ⊢
  exact k_R_takeZeros_0 X hA zz N sT sR a hG adT adT_bytes adR _ _ hP hD va_S.rf ls hl
noncomputable def g_G_keepPlace_57 (sG : zG) : Option ((zG) × Nat × Nat) := some ((sG), 0, 0)
noncomputable def g_G_keepPlace_w56 (sG_56 : zG) : Option ((zG) × Nat × Nat) := g_G_keepPlace_57 sG_56
noncomputable def g_G_keepPlace_37 (sG : zG) (v1 : Int32) (v2 : Int32) : Option ((zG) × Nat × Nat) := if v1 < (0 : Int32) then (g_G_keepPlace_57 sG) else (if (nI (zG_placesN sG)) ≤ v1 then (g_G_keepPlace_57 sG) else (zg (vp_in v1 (zG_placesN sG)) (g_G_keepPlace_w56 (zG_places' sG (upd (zG_places sG) v1.toNatClampNeg v2)))))
noncomputable def g_G_keepPlace_w34 (v1 : Int32) (v2 : Int32) (sG_34 : zG) : Option ((zG) × Nat × Nat) := g_G_keepPlace_37 sG_34 v1 v2
noncomputable def g_G_keepPlace_c31 (sG : zG) (v1 : Int32) (v2 : Int32) (rf_31 : (Nat → Int32)) (rn_31 : Nat) : Option ((zG) × Nat × Nat) := g_G_keepPlace_w34 v1 v2 (zG_placesN' (zG_places' sG rf_31) rn_31)
noncomputable def g_G_keepPlace (sG : zG) (v1 : Int32) (v2 : Int32) : Option ((zG) × Nat × Nat) := if v1 < (nI (zG_placesN sG)) then (g_G_keepPlace_37 sG v1 v2) else (if (65536 : Int32) ≤ (nI (zG_placesN sG)) then (g_G_keepPlace_37 sG v1 v2) else (zcbd (g_Ar_copyOf_aII (zG_places sG) (zG_placesN sG) ((2 : Int32) * (nI (zG_placesN sG)))) (fun a => g_G_keepPlace_c31 sG v1 v2 a.1 a.2)))
def q_G_keepPlace (dC : Nat → ClassId) (dI : Nat → Nat → Nat) (cB cI cL : ClassId) (A : Nat → Prop) (adG : Nat) (a : zG) : Array Value → State → Outcome → State → Prop := va_Qv (fun (u : zG × Nat) => (u.1) = a) (fun u U => va_P (dC, dI) zcl (zwG adG u.2 cB cI cL u.1) U.heap ∧ va_D A (zwG adG u.2 cB cI cL u.1)) A
set_option maxRecDepth 100000 in
set_option maxHeartbeats 4000000 in
theorem k_G_keepPlace_57 {p : Program} {l : Launch} {e : Env} {R : Room} {s : State} {m : MethodId} {args : Array Value} {below : List Frame} {meth : Method} {c : Code} {dC : Nat → ClassId} {dI : Nat → Nat → Nat} {cB cI cL : ClassId} {A : Nat → Prop} (X : zx p s m args meth c R R_G b_G_keepPlace none 3 2 82) (hA : ∀ q, s.heap.size ≤ q → A q) (zz : zk dC dI cB cI cL A s)  (sG : zG) (a : zG) (c9 z9 cells slots tc tz : Nat) (hG : g_G_keepPlace_57 sG = some (a, c9, z9)) (kc : cells + c9 = tc) (kz : slots + z9 = tz) (hRc : tc ≤ R.cells) (hRz : tz ≤ R.slots) (adG adG_places : Nat) (H : Heap) (locs : List Loc) (hP : va_P (dC, dI) zcl (zwG adG adG_places cB cI cL sG) H) (hD : va_D A (zwG adG adG_places cB cI cL sG)) (hS : va_S A s.heap H locs) (ls : Array Slot) (hl : lv_has ls 3 []) : W p l e R s m args below meth c H locs cells slots (MQ below (q_G_keepPlace dC dI cB cI cL A adG a) args s tc tz A) (F0 m 57 ls []) := by
  obtain ⟨hx, hb, hr, hml, hown, hts, hlocks, hRf, hRl⟩ := id X
  unfold g_G_keepPlace_57 at hG
  obtain ⟨hG, e91, e92⟩ := zc0 hG
  refine W.widen (k := tc) (n := tz) (Nat.le.intro kc) (Nat.le.intro kz) ?_
  exact W.vret hx hb hr (fun t9 ht9 hW9 => ⟨⟨(sG, adG_places), rfl, hG, by rw [ht9]; exact hP, hD⟩, hS.F ht9⟩) hS.2.2 d_G_keepPlace_57
set_option maxRecDepth 100000 in
set_option maxHeartbeats 4000000 in
theorem k_G_keepPlace_37 {p : Program} {l : Launch} {e : Env} {R : Room} {s : State} {m : MethodId} {args : Array Value} {below : List Frame} {meth : Method} {c : Code} {dC : Nat → ClassId} {dI : Nat → Nat → Nat} {cB cI cL : ClassId} {A : Nat → Prop} (X : zx p s m args meth c R R_G b_G_keepPlace none 3 2 82) (hA : ∀ q, s.heap.size ≤ q → A q) (zz : zk dC dI cB cI cL A s)  (sG : zG) (v1 : Int32) (v2 : Int32) (a : zG) (c9 z9 cells slots tc tz : Nat) (hG : g_G_keepPlace_37 sG v1 v2 = some (a, c9, z9)) (kc : cells + c9 = tc) (kz : slots + z9 = tz) (hRc : tc ≤ R.cells) (hRz : tz ≤ R.slots) (adG adG_places : Nat) (H : Heap) (locs : List Loc) (hP : va_P (dC, dI) zcl (zwG adG adG_places cB cI cL sG) H) (hD : va_D A (zwG adG adG_places cB cI cL sG)) (hS : va_S A s.heap H locs) (ls : Array Slot) (hl : lv_has ls 3 [(0, .ref adG), (1, .int v1), (2, .int v2)]) : W p l e R s m args below meth c H locs cells slots (MQ below (q_G_keepPlace dC dI cB cI cL A adG a) args s tc tz A) (F0 m 37 ls []) := by
  obtain ⟨hx, hb, hr, hml, hown, hts, hlocks, hRf, hRl⟩ := id X
  unfold g_G_keepPlace_37 at hG
  refine lv_iload_n hx hb d_G_keepPlace_37 rfl (lv_at hl 1 rfl) ?_
  refine lv_if_lt (tgt := 57) hx hb d_G_keepPlace_38 (by decide) (fun hc => ?_) (fun hc => ?_)
  · have hG := zt hG hc
    exact k_G_keepPlace_57 X hA zz sG _ _ _ _ _ _ _ hG kc kz hRc hRz adG adG_places _ _ hP hD hS _ (lv_sub hl [] rfl)
  · have hG := zf hG hc
    refine lv_iload_n hx hb d_G_keepPlace_41 rfl (lv_at hl 1 rfl) ?_
    refine lv_aload_n hx hb d_G_keepPlace_42 rfl (lv_at hl 0 rfl) ?_
    refine va_get (D := (dC, dI)) (ci := 3) (v := .ref adG_places) (C := R_G) (T := F_G) (N := 7) hx hb hts zi_G hown zz.1 hP 0 rfl rfl 0 (by decide) (hts (.fieldLink R_G 9 "WireCodec$Reading" "places" "[I") zin_G_9) (fun _ h9 => h9) rfl d_G_keepPlace_43 ?_
    refine va_alen (v := nI (zG_placesN sG)) hx hb zz.1 hP 1 1 rfl rfl rfl d_G_keepPlace_46 ?_
    refine lv_icmp_ge (tgt := 57) hx hb d_G_keepPlace_47 (by decide) (fun hc => ?_) (fun hc => ?_)
    · have hG := zt hG hc
      exact k_G_keepPlace_57 X hA zz sG _ _ _ _ _ _ _ hG kc kz hRc hRz adG adG_places _ _ hP hD hS _ (lv_sub hl [] rfl)
    · have hG := zf hG hc
      refine lv_aload_n hx hb d_G_keepPlace_50 rfl (lv_at hl 0 rfl) ?_
      refine va_get (D := (dC, dI)) (ci := 3) (v := .ref adG_places) (C := R_G) (T := F_G) (N := 7) hx hb hts zi_G hown zz.1 hP 0 rfl rfl 0 (by decide) (hts (.fieldLink R_G 9 "WireCodec$Reading" "places" "[I") zin_G_9) (fun _ h9 => h9) rfl d_G_keepPlace_51 ?_
      refine lv_iload_n hx hb d_G_keepPlace_54 rfl (lv_at hl 1 rfl) ?_
      refine lv_iload_n hx hb d_G_keepPlace_55 rfl (lv_at hl 2 rfl) ?_
      obtain ⟨hin, hG⟩ := zgd hG
      refine va_iast hx hb zz.1 hP hD hS 1 1 rfl rfl hin d_G_keepPlace_56 (fun H locs hP hD hS => ?_)
      have hP : va_P (dC, dI) zcl (zwG adG adG_places cB cI cL (zG_places' sG (upd (zG_places sG) v1.toNatClampNeg v2))) H := hP
      have hD : va_D A (zwG adG adG_places cB cI cL (zG_places' sG (upd (zG_places sG) v1.toNatClampNeg v2))) := hD
      have hG : g_G_keepPlace_w56 (zG_places' sG (upd (zG_places sG) v1.toNatClampNeg v2)) = some (a, c9, z9) := hG
      generalize zG_places' sG (upd (zG_places sG) v1.toNatClampNeg v2) = sG_56 at hP hD hG
      unfold g_G_keepPlace_w56 at hG
      exact k_G_keepPlace_57 X hA zz sG_56 _ _ _ _ _ _ _ hG kc kz hRc hRz adG adG_places _ _ hP hD hS _ (lv_sub hl [] rfl)
set_option maxRecDepth 100000 in
set_option maxHeartbeats 4000000 in
theorem k_G_keepPlace_0 {p : Program} {l : Launch} {e : Env} {R : Room} {s : State} {m : MethodId} {args : Array Value} {below : List Frame} {meth : Method} {c : Code} {dC : Nat → ClassId} {dI : Nat → Nat → Nat} {cB cI cL : ClassId} {A : Nat → Prop} (X : zx p s m args meth c R R_G b_G_keepPlace none 3 2 82) (hA : ∀ q, s.heap.size ≤ q → A q) (zz : zk dC dI cB cI cL A s)  (sG : zG) (v1 : Int32) (v2 : Int32) (a : zG) (c9 z9 cells slots tc tz : Nat) (hG : g_G_keepPlace sG v1 v2 = some (a, c9, z9)) (kc : cells + c9 = tc) (kz : slots + z9 = tz) (hRc : tc ≤ R.cells) (hRz : tz ≤ R.slots) (adG adG_places : Nat) (H : Heap) (locs : List Loc) (hP : va_P (dC, dI) zcl (zwG adG adG_places cB cI cL sG) H) (hD : va_D A (zwG adG adG_places cB cI cL sG)) (hS : va_S A s.heap H locs) (ls : Array Slot) (hl : lv_has ls 3 [(0, .ref adG), (1, .int v1), (2, .int v2)]) : W p l e R s m args below meth c H locs cells slots (MQ below (q_G_keepPlace dC dI cB cI cL A adG a) args s tc tz A) (F0 m 0 ls []) := by
  obtain ⟨hx, hb, hr, hml, hown, hts, hlocks, hRf, hRl⟩ := id X
  unfold g_G_keepPlace at hG
  refine lv_iload_n hx hb d_G_keepPlace_0 rfl (lv_at hl 1 rfl) ?_
  refine lv_aload_n hx hb d_G_keepPlace_1 rfl (lv_at hl 0 rfl) ?_
  refine va_get (D := (dC, dI)) (ci := 3) (v := .ref adG_places) (C := R_G) (T := F_G) (N := 7) hx hb hts zi_G hown zz.1 hP 0 rfl rfl 0 (by decide) (hts (.fieldLink R_G 9 "WireCodec$Reading" "places" "[I") zin_G_9) (fun _ h9 => h9) rfl d_G_keepPlace_2 ?_
  refine va_alen (v := nI (zG_placesN sG)) hx hb zz.1 hP 1 1 rfl rfl rfl d_G_keepPlace_5 ?_
  refine lv_icmp_lt (tgt := 37) hx hb d_G_keepPlace_6 (by decide) (fun hc => ?_) (fun hc => ?_)
  · have hG := zt hG hc
    exact k_G_keepPlace_37 X hA zz sG v1 v2 _ _ _ _ _ _ _ hG kc kz hRc hRz adG adG_places _ _ hP hD hS _ (lv_sub hl [0, 1, 2] rfl)
  · have hG := zf hG hc
    refine lv_aload_n hx hb d_G_keepPlace_9 rfl (lv_at hl 0 rfl) ?_
    refine va_get (D := (dC, dI)) (ci := 3) (v := .ref adG_places) (C := R_G) (T := F_G) (N := 7) hx hb hts zi_G hown zz.1 hP 0 rfl rfl 0 (by decide) (hts (.fieldLink R_G 9 "WireCodec$Reading" "places" "[I") zin_G_9) (fun _ h9 => h9) rfl d_G_keepPlace_10 ?_
    refine va_alen (v := nI (zG_placesN sG)) hx hb zz.1 hP 1 1 rfl rfl rfl d_G_keepPlace_13 ?_
    refine lv_ldc (v := (65536 : Int32)) hx hb hown (hts (.constant R_G 38 (65536 : Int32)) zin_G_38) d_G_keepPlace_14 ?_
    refine lv_icmp_ge (tgt := 37) hx hb d_G_keepPlace_16 (by decide) (fun hc => ?_) (fun hc => ?_)
    · have hG := zt hG hc
      exact k_G_keepPlace_37 X hA zz sG v1 v2 _ _ _ _ _ _ _ hG kc kz hRc hRz adG adG_places _ _ hP hD hS _ (lv_sub hl [0, 1, 2] rfl)
    · have hG := zf hG hc
      refine lv_aload_n hx hb d_G_keepPlace_19 rfl (lv_at hl 0 rfl) ?_
      refine lv_aload_n hx hb d_G_keepPlace_20 rfl (lv_at hl 0 rfl) ?_
      refine va_get (D := (dC, dI)) (ci := 3) (v := .ref adG_places) (C := R_G) (T := F_G) (N := 7) hx hb hts zi_G hown zz.1 hP 0 rfl rfl 0 (by decide) (hts (.fieldLink R_G 9 "WireCodec$Reading" "places" "[I") zin_G_9) (fun _ h9 => h9) rfl d_G_keepPlace_21 ?_
      refine lv_iconst (v := (2 : Int32)) hx hb d_G_keepPlace_24 (by decide) ?_
      refine lv_aload_n hx hb d_G_keepPlace_25 rfl (lv_at hl 0 rfl) ?_
      refine va_get (D := (dC, dI)) (ci := 3) (v := .ref adG_places) (C := R_G) (T := F_G) (N := 7) hx hb hts zi_G hown zz.1 hP 0 rfl rfl 0 (by decide) (hts (.fieldLink R_G 9 "WireCodec$Reading" "places" "[I") zin_G_9) (fun _ h9 => h9) rfl d_G_keepPlace_26 ?_
      refine va_alen (v := nI (zG_placesN sG)) hx hb zz.1 hP 1 1 rfl rfl rfl d_G_keepPlace_29 ?_
      refine lv_imul hx hb d_G_keepPlace_30 ?_
      obtain ⟨a_31, c_31, z_31, c9, z9, hx_31, hG, kc, kz⟩ := zcbde hG kc kz
      have hr_31 := zrunS (p := p) (e := e) (below := below) (meth := meth) (As := [.ref adG_places, .int ((2 : Int32) * (nI (zG_placesN sG)))]) (rest := [.ref adG]) (st0 := [.int ((2 : Int32) * (nI (zG_placesN sG))), .ref adG_places, .ref adG]) (cells := cells) (slots := slots) X zz hP hD hS hA [1] (by decide) rfl (c_Ar_copyOf_aII l dC dI cB cI cL H.size adG_places (zG_places sG) (zG_placesN sG) ((2 : Int32) * (nI (zG_placesN sG))) _ _ _ hx_31) zy_Ar_copyOf_aII zv_Ar_copyOf_aII (hts (.methodLink R_G 39 y_Ar_copyOf_aII) zin_G_39) hl rfl rfl d_G_keepPlace_31 (lv_room (Nat.le_of_ble_eq_true rfl)) rfl rfl ⟨Nat.le_trans (Nat.le_of_ble_eq_true rfl) hRf, Nat.le_trans (Nat.le_of_ble_eq_true rfl) hRl⟩ ⟨zle kc hRc, zle kz hRz⟩
      refine zcallr (wr := ([(adG, .inr (3, [.ref adG_places, .int (zG_frameCount sG), .int (zG_packetCount sG), .int (zG_limit sG), .int (zG_names sG), .int (zG_wrong sG), .int (zG_wrongPlace sG)]))])) hr_31 hP hD hS hA [1] [0] rfl rfl (by decide) (by decide) (fun q31 u_31 H locs hw_31 hP hD hS => ?_)
      obtain ⟨rf_31, rn_31⟩ := u_31
      subst hw_31
      have hP : va_P (dC, dI) zcl (zwG adG adG_places cB cI cL sG ++ [(q31, .inl (cI, rn_31, .inl rf_31))]) H := hP
      have hD : va_D A (zwG adG adG_places cB cI cL sG ++ [(q31, .inl (cI, rn_31, .inl rf_31))]) := hD
      have hG : g_G_keepPlace_c31 sG v1 v2 rf_31 rn_31 = some (a, c9, z9) := hG
      unfold g_G_keepPlace_c31 at hG
      generalize cells + c_31 = cells at kc ⊢
      generalize slots + z_31 = slots at kz ⊢
      refine va_put (D := (dC, dI)) (ci := 3) (v := .ref q31) (ty := (.array .int)) (C := R_G) (T := F_G) (N := 7) hx hb hts zi_G zty_G zty_G_ok znm_G hown zz.1 hP hD hS 0 rfl rfl 0 (by decide) (hts (.fieldLink R_G 9 "WireCodec$Reading" "places" "[I") zin_G_9) (fun _ h9 => h9) rfl (by decide +kernel) rfl rfl (Nat.le_of_ble_eq_true rfl) d_G_keepPlace_34 (fun H locs hP hD hS => ?_)
      have hP : va_P (dC, dI) zcl (zwG adG q31 cB cI cL (zG_placesN' (zG_places' sG rf_31) rn_31) ++ [(adG_places, .inl (cI, zG_placesN sG, .inl (zG_places sG)))]) H := hP.sub [0, 2, 1] rfl
      have hD : va_D A (zwG adG q31 cB cI cL (zG_placesN' (zG_places' sG rf_31) rn_31) ++ [(adG_places, .inl (cI, zG_placesN sG, .inl (zG_places sG)))]) := hD.sub [0, 2, 1] (by decide) rfl
      have hP : va_P (dC, dI) zcl (zwG adG q31 cB cI cL (zG_placesN' (zG_places' sG rf_31) rn_31)) H := hP.sub [0, 1] rfl
      have hD : va_D A (zwG adG q31 cB cI cL (zG_placesN' (zG_places' sG rf_31) rn_31)) := hD.sub [0, 1] (by decide) rfl
      have hG : g_G_keepPlace_w34 v1 v2 (zG_placesN' (zG_places' sG rf_31) rn_31) = some (a, c9, z9) := hG
      generalize zG_placesN' (zG_places' sG rf_31) rn_31 = sG_34 at hP hD hG
      unfold g_G_keepPlace_w34 at hG
      exact k_G_keepPlace_37 X hA zz sG_34 v1 v2 _ _ _ _ _ _ _ hG kc kz hRc hRz adG q31 _ _ hP hD hS _ (lv_sub hl [0, 1, 2] rfl)
set_option maxRecDepth 100000 in
set_option maxHeartbeats 4000000 in
theorem c_G_keepPlace (l : Launch) (dC : Nat → ClassId) (dI : Nat → Nat → Nat) (cB cI cL : ClassId) (sz : Nat) (adG adG_places : Nat) (sG : zG) (v1 : Int32) (v2 : Int32) (a : zG) (c9 z9 : Nat) (hG : g_G_keepPlace sG v1 v2 = some (a, c9, z9)) : Met l y_G_keepPlace (zw y_G_keepPlace b_G_keepPlace 3 none) ({ frames := 2, cells := c9, slots := z9, locals := 82 }) (va_Pc [.ref adG, .int v1, .int v2] (zpre dC dI cB cI cL sz (zwG adG adG_places cB cI cL sG))) (q_G_keepPlace dC dI cB cI cL (va_A (zwG adG adG_places cB cI cL sG) sz) adG a) c9 z9 (va_A (zwG adG adG_places cB cI cL sG) sz) := by
  refine Met.ofW (cc := b_G_keepPlace) (maxL := 3) (ret := none) (by decide) rfl ?_
  intro p e s m args below meth c s₁ B hml hv
  obtain ⟨rfl, hsz, hP, zz, hD0⟩ := hv
  subst hsz
  have X := zx_of (F := 2) (L := 82) B hml (Nat.le_refl _) (Nat.le_refl _)
  have hD := hD0.self (sz := s.heap.size)
  have hA : ∀ q : Nat, s.heap.size ≤ q → va_A (zwG adG adG_places cB cI cL sG) s.heap.size q := fun q h => Or.inr h
  have hl := lv_entry ([.ref adG, .int v1, .int v2]) (n := 3) (Nat.le_of_ble_eq_true rfl)
  rw [lg_entry_eq]
  generalize (lg_sl ([.ref adG, .int v1, .int v2]) ++ List.replicate (3 - (lg_sl ([.ref adG, .int v1, .int v2])).length) Slot.unset).toArray = ls at hl ⊢
  exact k_G_keepPlace_0 X hA zz sG v1 v2 a c9 z9 0 0 c9 z9 hG (Nat.zero_add _) (Nat.zero_add _) (Nat.le_refl _) (Nat.le_refl _) adG adG_places _ _ hP hD va_S.rf ls hl
noncomputable def g_T_numberAt_c3 (v2 : Int32) (r_3 : Int64) : Option (Int64) := some (r_3 &&& (((1 : Int64) <<< ((((8 : Int32) * v2) - (2 : Int32)).toInt64 &&& 63)) - (1 : Int64)))
noncomputable def g_T_numberAt (N : Nat) (sT : zT) (v1 : Int32) (v2 : Int32) : Option (Int64) := (g_T_wordAt N sT v1 v2).bind (fun a => g_T_numberAt_c3 v2 a)
def q_T_numberAt (dC : Nat → ClassId) (dI : Nat → Nat → Nat) (cB cI cL : ClassId) (A : Nat → Prop) (adT : Nat) (adT_bytes : Nat) (sT : zT) (a : Int64) : Array Value → State → Outcome → State → Prop := va_Ql (fun (r : Int64) (u : Unit) => (r) = a) (fun u U => va_P (dC, dI) zcl (zwT adT adT_bytes cB cI cL sT) U.heap ∧ va_D A (zwT adT adT_bytes cB cI cL sT)) A
set_option maxRecDepth 100000 in
set_option maxHeartbeats 4000000 in
theorem k_T_numberAt_0 {p : Program} {l : Launch} {e : Env} {R : Room} {s : State} {m : MethodId} {args : Array Value} {below : List Frame} {meth : Method} {c : Code} {dC : Nat → ClassId} {dI : Nat → Nat → Nat} {cB cI cL : ClassId} {A : Nat → Prop} (X : zx p s m args meth c R R_T b_T_numberAt (some .long) 3 1 25) (hA : ∀ q, s.heap.size ≤ q → A q) (zz : zk dC dI cB cI cL A s)  (N : Nat) (sT : zT) (v1 : Int32) (v2 : Int32) (a : Int64) (hG : g_T_numberAt N sT v1 v2 = some a) (adT adT_bytes : Nat) (H : Heap) (locs : List Loc) (hP : va_P (dC, dI) zcl (zwT adT adT_bytes cB cI cL sT) H) (hD : va_D A (zwT adT adT_bytes cB cI cL sT)) (hS : va_S A s.heap H locs) (ls : Array Slot) (hl : lv_has ls 3 [(0, .ref adT), (1, .int v1), (2, .int v2)]) : W p l e R s m args below meth c H locs 0 0 (MQ below (q_T_numberAt dC dI cB cI cL A adT adT_bytes sT a) args s 0 0 A) (F0 m 0 ls []) := by
  obtain ⟨hx, hb, hr, hml, hown, hts, hlocks, hRf, hRl⟩ := id X
  unfold g_T_numberAt at hG
  refine lv_aload_n hx hb d_T_numberAt_0 rfl (lv_at hl 0 rfl) ?_
  refine lv_iload_n hx hb d_T_numberAt_1 rfl (lv_at hl 1 rfl) ?_
  refine lv_iload_n hx hb d_T_numberAt_2 rfl (lv_at hl 2 rfl) ?_
  obtain ⟨a_3, hx_3, hG⟩ := zb hG
  have hr_3 := zrunV (p := p) (e := e) (below := below) (meth := meth) (As := [.int v1, .int v2]) (rest := []) (st0 := [.int v2, .int v1, .ref adT]) (cells := 0) (slots := 0) X zz hP hD hS hA [0, 1] (by decide) rfl (c_T_wordAt l dC dI cB cI cL H.size adT adT_bytes N sT v1 v2 _ hx_3) zy_T_wordAt zv_T_wordAt (hts (.methodLink R_T 19 y_T_wordAt) zin_T_19) hl rfl rfl d_T_numberAt_3 (lv_room (Nat.le_of_ble_eq_true rfl)) rfl rfl ⟨Nat.le_trans (Nat.le_of_ble_eq_true rfl) hRf, Nat.le_trans (Nat.le_of_ble_eq_true rfl) hRl⟩ ⟨Nat.zero_le _, Nat.zero_le _⟩ 0 1 rfl rfl
  refine zcalll (wr := ([] : va_W)) hr_3 hP hD hS hA [0, 1] [] rfl rfl (by decide) (by decide) (fun r_3 u_3 H locs hw_3 hP hD hS => ?_)
  subst hw_3
  have hP : va_P (dC, dI) zcl (zwT adT adT_bytes cB cI cL sT) H := hP
  have hD : va_D A (zwT adT adT_bytes cB cI cL sT) := hD
  have hG : g_T_numberAt_c3 v2 r_3 = some a := hG
  unfold g_T_numberAt_c3 at hG
  refine lv_lconst (v := (1 : Int64)) hx hb d_T_numberAt_6 (by decide) ?_
  refine lv_bipush (v := (8 : Int32)) hx hb d_T_numberAt_7 (by decide) ?_
  refine lv_iload_n hx hb d_T_numberAt_9 rfl (lv_at hl 2 rfl) ?_
  refine lv_imul hx hb d_T_numberAt_10 ?_
  refine lv_iconst (v := (2 : Int32)) hx hb d_T_numberAt_11 (by decide) ?_
  refine lv_isub hx hb d_T_numberAt_12 ?_
  refine lv_lshl hx hb d_T_numberAt_13 rfl ?_
  refine lv_lconst (v := (1 : Int64)) hx hb d_T_numberAt_14 (by decide) ?_
  refine lv_lsub hx hb d_T_numberAt_15 ?_
  refine lv_land hx hb d_T_numberAt_16 ?_
  exact W.lret (v := r_3 &&& (((1 : Int64) <<< ((((8 : Int32) * v2) - (2 : Int32)).toInt64 &&& 63)) - (1 : Int64))) hx hb hr (fun t9 ht9 hW9 => ⟨⟨r_3 &&& (((1 : Int64) <<< ((((8 : Int32) * v2) - (2 : Int32)).toInt64 &&& 63)) - (1 : Int64)), (), rfl, Option.some.inj hG, by rw [ht9]; exact hP, hD⟩, hS.F ht9⟩) hS.2.2 d_T_numberAt_17
set_option maxRecDepth 100000 in
set_option maxHeartbeats 4000000 in
theorem c_T_numberAt (l : Launch) (dC : Nat → ClassId) (dI : Nat → Nat → Nat) (cB cI cL : ClassId) (sz : Nat) (adT adT_bytes : Nat) (N : Nat) (sT : zT) (v1 : Int32) (v2 : Int32) (a : Int64) (hG : g_T_numberAt N sT v1 v2 = some a) : Met l y_T_numberAt (zw y_T_numberAt b_T_numberAt 3 (some .long)) ({ frames := 1, cells := 0, slots := 0, locals := 25 }) (va_Pc [.ref adT, .int v1, .int v2] (zpre dC dI cB cI cL sz (zwT adT adT_bytes cB cI cL sT))) (q_T_numberAt dC dI cB cI cL (va_A (zwT adT adT_bytes cB cI cL sT) sz) adT adT_bytes sT a) 0 0 (va_A (zwT adT adT_bytes cB cI cL sT) sz) := by
  refine Met.ofW (cc := b_T_numberAt) (maxL := 3) (ret := (some .long)) (by decide) rfl ?_
  intro p e s m args below meth c s₁ B hml hv
  obtain ⟨rfl, hsz, hP, zz, hD0⟩ := hv
  subst hsz
  have X := zx_of (F := 1) (L := 25) B hml (Nat.le_refl _) (Nat.le_refl _)
  have hD := hD0.self (sz := s.heap.size)
  have hA : ∀ q : Nat, s.heap.size ≤ q → va_A (zwT adT adT_bytes cB cI cL sT) s.heap.size q := fun q h => Or.inr h
  have hl := lv_entry ([.ref adT, .int v1, .int v2]) (n := 3) (Nat.le_of_ble_eq_true rfl)
  rw [lg_entry_eq]
  generalize (lg_sl ([.ref adT, .int v1, .int v2]) ++ List.replicate (3 - (lg_sl ([.ref adT, .int v1, .int v2])).length) Slot.unset).toArray = ls at hl ⊢
  exact k_T_numberAt_0 X hA zz N sT v1 v2 a hG adT adT_bytes _ _ hP hD va_S.rf ls hl
noncomputable def g_T_writeByte_w77 (sT_77 : zT) : Option ((zT) × Nat × Nat) := some ((sT_77), 0, 0)
noncomputable def g_T_writeByte_70 (sT : zT) : Option ((zT) × Nat × Nat) := g_T_writeByte_w77 (zT_cursor' sT ((zT_cursor sT) + (1 : Int32)))
noncomputable def g_T_writeByte_w69 (sT_69 : zT) : Option ((zT) × Nat × Nat) := g_T_writeByte_70 sT_69
noncomputable def g_T_writeByte_40 (sT : zT) (v1 : Int32) : Option ((zT) × Nat × Nat) := if (zT_cursor sT) < (0 : Int32) then (g_T_writeByte_70 sT) else (if (nI (zT_bytesN sT)) ≤ (zT_cursor sT) then (g_T_writeByte_70 sT) else (zg (vp_in (zT_cursor sT) (zT_bytesN sT)) (g_T_writeByte_w69 (zT_bytes' sT (upd (zT_bytes sT) ((zT_cursor sT).toNatClampNeg) (vp_nar .byte v1.toInt8.toInt32))))))
noncomputable def g_T_writeByte_w37 (v1 : Int32) (sT_37 : zT) : Option ((zT) × Nat × Nat) := g_T_writeByte_40 sT_37 v1
noncomputable def g_T_writeByte_c34 (sT : zT) (v1 : Int32) (rf_34 : (Nat → Int32)) (rn_34 : Nat) : Option ((zT) × Nat × Nat) := g_T_writeByte_w37 v1 (zT_bytesN' (zT_bytes' sT rf_34) rn_34)
noncomputable def g_T_writeByte (sT : zT) (v1 : Int32) : Option ((zT) × Nat × Nat) := if (zT_cursor sT) < (nI (zT_bytesN sT)) then (g_T_writeByte_40 sT v1) else (if (65536 : Int32) ≤ (nI (zT_bytesN sT)) then (g_T_writeByte_40 sT v1) else (zcbd (g_Ar_copyOf_aBI (zT_bytes sT) (zT_bytesN sT) ((2 : Int32) * (nI (zT_bytesN sT)))) (fun a => g_T_writeByte_c34 sT v1 a.1 a.2)))
def q_T_writeByte (dC : Nat → ClassId) (dI : Nat → Nat → Nat) (cB cI cL : ClassId) (A : Nat → Prop) (adT : Nat) (a : zT) : Array Value → State → Outcome → State → Prop := va_Qv (fun (u : zT × Nat) => (u.1) = a) (fun u U => va_P (dC, dI) zcl (zwT adT u.2 cB cI cL u.1) U.heap ∧ va_D A (zwT adT u.2 cB cI cL u.1)) A
set_option maxRecDepth 100000 in
set_option maxHeartbeats 4000000 in
theorem k_T_writeByte_70 {p : Program} {l : Launch} {e : Env} {R : Room} {s : State} {m : MethodId} {args : Array Value} {below : List Frame} {meth : Method} {c : Code} {dC : Nat → ClassId} {dI : Nat → Nat → Nat} {cB cI cL : ClassId} {A : Nat → Prop} (X : zx p s m args meth c R R_T b_T_writeByte none 2 2 82) (hA : ∀ q, s.heap.size ≤ q → A q) (zz : zk dC dI cB cI cL A s)  (sT : zT) (a : zT) (c9 z9 cells slots tc tz : Nat) (hG : g_T_writeByte_70 sT = some (a, c9, z9)) (kc : cells + c9 = tc) (kz : slots + z9 = tz) (hRc : tc ≤ R.cells) (hRz : tz ≤ R.slots) (adT adT_bytes : Nat) (H : Heap) (locs : List Loc) (hP : va_P (dC, dI) zcl (zwT adT adT_bytes cB cI cL sT) H) (hD : va_D A (zwT adT adT_bytes cB cI cL sT)) (hS : va_S A s.heap H locs) (ls : Array Slot) (hl : lv_has ls 2 [(0, .ref adT)]) : W p l e R s m args below meth c H locs cells slots (MQ below (q_T_writeByte dC dI cB cI cL A adT a) args s tc tz A) (F0 m 70 ls []) := by
  obtain ⟨hx, hb, hr, hml, hown, hts, hlocks, hRf, hRl⟩ := id X
  unfold g_T_writeByte_70 at hG
  refine lv_aload_n hx hb d_T_writeByte_70 rfl (lv_at hl 0 rfl) ?_
  refine lv_dup hx hb d_T_writeByte_71 rfl ?_
  refine va_get (D := (dC, dI)) (ci := 1) (v := .int (zT_cursor sT)) (C := R_T) (T := F_T) (N := 3) hx hb hts zi_T hown zz.1 hP 0 rfl rfl 1 (by decide) (hts (.fieldLink R_T 27 "WireCodec$Tape" "cursor" "I") zin_T_27) (fun _ h9 => h9) rfl d_T_writeByte_72 ?_
  refine lv_iconst (v := (1 : Int32)) hx hb d_T_writeByte_75 (by decide) ?_
  refine lv_iadd hx hb d_T_writeByte_76 ?_
  refine va_put (D := (dC, dI)) (ci := 1) (v := .int ((zT_cursor sT) + (1 : Int32))) (ty := .int) (C := R_T) (T := F_T) (N := 3) hx hb hts zi_T zty_T zty_T_ok znm_T hown zz.1 hP hD hS 0 rfl rfl 1 (by decide) (hts (.fieldLink R_T 27 "WireCodec$Tape" "cursor" "I") zin_T_27) (fun _ h9 => h9) rfl (by decide +kernel) rfl rfl (Nat.le_of_ble_eq_true rfl) d_T_writeByte_77 (fun H locs hP hD hS => ?_)
  have hP : va_P (dC, dI) zcl (zwT adT adT_bytes cB cI cL (zT_cursor' sT ((zT_cursor sT) + (1 : Int32)))) H := hP
  have hD : va_D A (zwT adT adT_bytes cB cI cL (zT_cursor' sT ((zT_cursor sT) + (1 : Int32)))) := hD
  have hG : g_T_writeByte_w77 (zT_cursor' sT ((zT_cursor sT) + (1 : Int32))) = some (a, c9, z9) := hG
  generalize zT_cursor' sT ((zT_cursor sT) + (1 : Int32)) = sT_77 at hP hD hG
  unfold g_T_writeByte_w77 at hG
  obtain ⟨hG, e91, e92⟩ := zc0 hG
  refine W.widen (k := tc) (n := tz) (Nat.le.intro kc) (Nat.le.intro kz) ?_
  exact W.vret hx hb hr (fun t9 ht9 hW9 => ⟨⟨(sT_77, adT_bytes), rfl, hG, by rw [ht9]; exact hP, hD⟩, hS.F ht9⟩) hS.2.2 d_T_writeByte_80
set_option maxRecDepth 100000 in
set_option maxHeartbeats 4000000 in
theorem k_T_writeByte_40 {p : Program} {l : Launch} {e : Env} {R : Room} {s : State} {m : MethodId} {args : Array Value} {below : List Frame} {meth : Method} {c : Code} {dC : Nat → ClassId} {dI : Nat → Nat → Nat} {cB cI cL : ClassId} {A : Nat → Prop} (X : zx p s m args meth c R R_T b_T_writeByte none 2 2 82) (hA : ∀ q, s.heap.size ≤ q → A q) (zz : zk dC dI cB cI cL A s)  (sT : zT) (v1 : Int32) (a : zT) (c9 z9 cells slots tc tz : Nat) (hG : g_T_writeByte_40 sT v1 = some (a, c9, z9)) (kc : cells + c9 = tc) (kz : slots + z9 = tz) (hRc : tc ≤ R.cells) (hRz : tz ≤ R.slots) (adT adT_bytes : Nat) (H : Heap) (locs : List Loc) (hP : va_P (dC, dI) zcl (zwT adT adT_bytes cB cI cL sT) H) (hD : va_D A (zwT adT adT_bytes cB cI cL sT)) (hS : va_S A s.heap H locs) (ls : Array Slot) (hl : lv_has ls 2 [(0, .ref adT), (1, .int v1)]) : W p l e R s m args below meth c H locs cells slots (MQ below (q_T_writeByte dC dI cB cI cL A adT a) args s tc tz A) (F0 m 40 ls []) := by
  obtain ⟨hx, hb, hr, hml, hown, hts, hlocks, hRf, hRl⟩ := id X
  unfold g_T_writeByte_40 at hG
  refine lv_aload_n hx hb d_T_writeByte_40 rfl (lv_at hl 0 rfl) ?_
  refine va_get (D := (dC, dI)) (ci := 1) (v := .int (zT_cursor sT)) (C := R_T) (T := F_T) (N := 3) hx hb hts zi_T hown zz.1 hP 0 rfl rfl 1 (by decide) (hts (.fieldLink R_T 27 "WireCodec$Tape" "cursor" "I") zin_T_27) (fun _ h9 => h9) rfl d_T_writeByte_41 ?_
  refine lv_if_lt (tgt := 70) hx hb d_T_writeByte_44 (by decide) (fun hc => ?_) (fun hc => ?_)
  · have hG := zt hG hc
    exact k_T_writeByte_70 X hA zz sT _ _ _ _ _ _ _ hG kc kz hRc hRz adT adT_bytes _ _ hP hD hS _ (lv_sub hl [0] rfl)
  · have hG := zf hG hc
    refine lv_aload_n hx hb d_T_writeByte_47 rfl (lv_at hl 0 rfl) ?_
    refine va_get (D := (dC, dI)) (ci := 1) (v := .int (zT_cursor sT)) (C := R_T) (T := F_T) (N := 3) hx hb hts zi_T hown zz.1 hP 0 rfl rfl 1 (by decide) (hts (.fieldLink R_T 27 "WireCodec$Tape" "cursor" "I") zin_T_27) (fun _ h9 => h9) rfl d_T_writeByte_48 ?_
    refine lv_aload_n hx hb d_T_writeByte_51 rfl (lv_at hl 0 rfl) ?_
    refine va_get (D := (dC, dI)) (ci := 1) (v := .ref adT_bytes) (C := R_T) (T := F_T) (N := 3) hx hb hts zi_T hown zz.1 hP 0 rfl rfl 0 (by decide) (hts (.fieldLink R_T 9 "WireCodec$Tape" "bytes" "[B") zin_T_9) (fun _ h9 => h9) rfl d_T_writeByte_52 ?_
    refine va_alen (v := nI (zT_bytesN sT)) hx hb zz.1 hP 1 0 rfl rfl rfl d_T_writeByte_55 ?_
    refine lv_icmp_ge (tgt := 70) hx hb d_T_writeByte_56 (by decide) (fun hc => ?_) (fun hc => ?_)
    · have hG := zt hG hc
      exact k_T_writeByte_70 X hA zz sT _ _ _ _ _ _ _ hG kc kz hRc hRz adT adT_bytes _ _ hP hD hS _ (lv_sub hl [0] rfl)
    · have hG := zf hG hc
      refine lv_aload_n hx hb d_T_writeByte_59 rfl (lv_at hl 0 rfl) ?_
      refine va_get (D := (dC, dI)) (ci := 1) (v := .ref adT_bytes) (C := R_T) (T := F_T) (N := 3) hx hb hts zi_T hown zz.1 hP 0 rfl rfl 0 (by decide) (hts (.fieldLink R_T 9 "WireCodec$Tape" "bytes" "[B") zin_T_9) (fun _ h9 => h9) rfl d_T_writeByte_60 ?_
      refine lv_aload_n hx hb d_T_writeByte_63 rfl (lv_at hl 0 rfl) ?_
      refine va_get (D := (dC, dI)) (ci := 1) (v := .int (zT_cursor sT)) (C := R_T) (T := F_T) (N := 3) hx hb hts zi_T hown zz.1 hP 0 rfl rfl 1 (by decide) (hts (.fieldLink R_T 27 "WireCodec$Tape" "cursor" "I") zin_T_27) (fun _ h9 => h9) rfl d_T_writeByte_64 ?_
      refine lv_iload_n hx hb d_T_writeByte_67 rfl (lv_at hl 1 rfl) ?_
      refine lv_i2b hx hb d_T_writeByte_68 rfl ?_
      obtain ⟨hin, hG⟩ := zgd hG
      refine va_bast hx hb zz.1 hP hD hS 1 0 rfl rfl hin d_T_writeByte_69 (fun H locs hP hD hS => ?_)
      have hP : va_P (dC, dI) zcl (zwT adT adT_bytes cB cI cL (zT_bytes' sT (upd (zT_bytes sT) ((zT_cursor sT).toNatClampNeg) (vp_nar .byte v1.toInt8.toInt32)))) H := hP
      have hD : va_D A (zwT adT adT_bytes cB cI cL (zT_bytes' sT (upd (zT_bytes sT) ((zT_cursor sT).toNatClampNeg) (vp_nar .byte v1.toInt8.toInt32)))) := hD
      have hG : g_T_writeByte_w69 (zT_bytes' sT (upd (zT_bytes sT) ((zT_cursor sT).toNatClampNeg) (vp_nar .byte v1.toInt8.toInt32))) = some (a, c9, z9) := hG
      generalize zT_bytes' sT (upd (zT_bytes sT) ((zT_cursor sT).toNatClampNeg) (vp_nar .byte v1.toInt8.toInt32)) = sT_69 at hP hD hG
      unfold g_T_writeByte_w69 at hG
      exact k_T_writeByte_70 X hA zz sT_69 _ _ _ _ _ _ _ hG kc kz hRc hRz adT adT_bytes _ _ hP hD hS _ (lv_sub hl [0] rfl)
set_option maxRecDepth 100000 in
set_option maxHeartbeats 4000000 in
theorem k_T_writeByte_0 {p : Program} {l : Launch} {e : Env} {R : Room} {s : State} {m : MethodId} {args : Array Value} {below : List Frame} {meth : Method} {c : Code} {dC : Nat → ClassId} {dI : Nat → Nat → Nat} {cB cI cL : ClassId} {A : Nat → Prop} (X : zx p s m args meth c R R_T b_T_writeByte none 2 2 82) (hA : ∀ q, s.heap.size ≤ q → A q) (zz : zk dC dI cB cI cL A s)  (sT : zT) (v1 : Int32) (a : zT) (c9 z9 cells slots tc tz : Nat) (hG : g_T_writeByte sT v1 = some (a, c9, z9)) (kc : cells + c9 = tc) (kz : slots + z9 = tz) (hRc : tc ≤ R.cells) (hRz : tz ≤ R.slots) (adT adT_bytes : Nat) (H : Heap) (locs : List Loc) (hP : va_P (dC, dI) zcl (zwT adT adT_bytes cB cI cL sT) H) (hD : va_D A (zwT adT adT_bytes cB cI cL sT)) (hS : va_S A s.heap H locs) (ls : Array Slot) (hl : lv_has ls 2 [(0, .ref adT), (1, .int v1)]) : W p l e R s m args below meth c H locs cells slots (MQ below (q_T_writeByte dC dI cB cI cL A adT a) args s tc tz A) (F0 m 0 ls []) := by
  obtain ⟨hx, hb, hr, hml, hown, hts, hlocks, hRf, hRl⟩ := id X
  unfold g_T_writeByte at hG
  refine lv_aload_n hx hb d_T_writeByte_0 rfl (lv_at hl 0 rfl) ?_
  refine va_get (D := (dC, dI)) (ci := 1) (v := .int (zT_cursor sT)) (C := R_T) (T := F_T) (N := 3) hx hb hts zi_T hown zz.1 hP 0 rfl rfl 1 (by decide) (hts (.fieldLink R_T 27 "WireCodec$Tape" "cursor" "I") zin_T_27) (fun _ h9 => h9) rfl d_T_writeByte_1 ?_
  refine lv_aload_n hx hb d_T_writeByte_4 rfl (lv_at hl 0 rfl) ?_
  refine va_get (D := (dC, dI)) (ci := 1) (v := .ref adT_bytes) (C := R_T) (T := F_T) (N := 3) hx hb hts zi_T hown zz.1 hP 0 rfl rfl 0 (by decide) (hts (.fieldLink R_T 9 "WireCodec$Tape" "bytes" "[B") zin_T_9) (fun _ h9 => h9) rfl d_T_writeByte_5 ?_
  refine va_alen (v := nI (zT_bytesN sT)) hx hb zz.1 hP 1 0 rfl rfl rfl d_T_writeByte_8 ?_
  refine lv_icmp_lt (tgt := 40) hx hb d_T_writeByte_9 (by decide) (fun hc => ?_) (fun hc => ?_)
  · have hG := zt hG hc
    exact k_T_writeByte_40 X hA zz sT v1 _ _ _ _ _ _ _ hG kc kz hRc hRz adT adT_bytes _ _ hP hD hS _ (lv_sub hl [0, 1] rfl)
  · have hG := zf hG hc
    refine lv_aload_n hx hb d_T_writeByte_12 rfl (lv_at hl 0 rfl) ?_
    refine va_get (D := (dC, dI)) (ci := 1) (v := .ref adT_bytes) (C := R_T) (T := F_T) (N := 3) hx hb hts zi_T hown zz.1 hP 0 rfl rfl 0 (by decide) (hts (.fieldLink R_T 9 "WireCodec$Tape" "bytes" "[B") zin_T_9) (fun _ h9 => h9) rfl d_T_writeByte_13 ?_
    refine va_alen (v := nI (zT_bytesN sT)) hx hb zz.1 hP 1 0 rfl rfl rfl d_T_writeByte_16 ?_
    refine lv_ldc (v := (65536 : Int32)) hx hb hown (hts (.constant R_T 30 (65536 : Int32)) zin_T_30) d_T_writeByte_17 ?_
    refine lv_icmp_ge (tgt := 40) hx hb d_T_writeByte_19 (by decide) (fun hc => ?_) (fun hc => ?_)
    · have hG := zt hG hc
      exact k_T_writeByte_40 X hA zz sT v1 _ _ _ _ _ _ _ hG kc kz hRc hRz adT adT_bytes _ _ hP hD hS _ (lv_sub hl [0, 1] rfl)
    · have hG := zf hG hc
      refine lv_aload_n hx hb d_T_writeByte_22 rfl (lv_at hl 0 rfl) ?_
      refine lv_aload_n hx hb d_T_writeByte_23 rfl (lv_at hl 0 rfl) ?_
      refine va_get (D := (dC, dI)) (ci := 1) (v := .ref adT_bytes) (C := R_T) (T := F_T) (N := 3) hx hb hts zi_T hown zz.1 hP 0 rfl rfl 0 (by decide) (hts (.fieldLink R_T 9 "WireCodec$Tape" "bytes" "[B") zin_T_9) (fun _ h9 => h9) rfl d_T_writeByte_24 ?_
      refine lv_iconst (v := (2 : Int32)) hx hb d_T_writeByte_27 (by decide) ?_
      refine lv_aload_n hx hb d_T_writeByte_28 rfl (lv_at hl 0 rfl) ?_
      refine va_get (D := (dC, dI)) (ci := 1) (v := .ref adT_bytes) (C := R_T) (T := F_T) (N := 3) hx hb hts zi_T hown zz.1 hP 0 rfl rfl 0 (by decide) (hts (.fieldLink R_T 9 "WireCodec$Tape" "bytes" "[B") zin_T_9) (fun _ h9 => h9) rfl d_T_writeByte_29 ?_
      refine va_alen (v := nI (zT_bytesN sT)) hx hb zz.1 hP 1 0 rfl rfl rfl d_T_writeByte_32 ?_
      refine lv_imul hx hb d_T_writeByte_33 ?_
      obtain ⟨a_34, c_34, z_34, c9, z9, hx_34, hG, kc, kz⟩ := zcbde hG kc kz
      have hr_34 := zrunS (p := p) (e := e) (below := below) (meth := meth) (As := [.ref adT_bytes, .int ((2 : Int32) * (nI (zT_bytesN sT)))]) (rest := [.ref adT]) (st0 := [.int ((2 : Int32) * (nI (zT_bytesN sT))), .ref adT_bytes, .ref adT]) (cells := cells) (slots := slots) X zz hP hD hS hA [1] (by decide) rfl (c_Ar_copyOf_aBI l dC dI cB cI cL H.size adT_bytes (zT_bytes sT) (zT_bytesN sT) ((2 : Int32) * (nI (zT_bytesN sT))) _ _ _ hx_34) zy_Ar_copyOf_aBI zv_Ar_copyOf_aBI (hts (.methodLink R_T 31 y_Ar_copyOf_aBI) zin_T_31) hl rfl rfl d_T_writeByte_34 (lv_room (Nat.le_of_ble_eq_true rfl)) rfl rfl ⟨Nat.le_trans (Nat.le_of_ble_eq_true rfl) hRf, Nat.le_trans (Nat.le_of_ble_eq_true rfl) hRl⟩ ⟨zle kc hRc, zle kz hRz⟩
      refine zcallr (wr := ([(adT, .inr (1, [.ref adT_bytes, .int (zT_cursor sT), .int (zT_length sT)]))])) hr_34 hP hD hS hA [1] [0] rfl rfl (by decide) (by decide) (fun q34 u_34 H locs hw_34 hP hD hS => ?_)
      obtain ⟨rf_34, rn_34⟩ := u_34
      subst hw_34
      have hP : va_P (dC, dI) zcl (zwT adT adT_bytes cB cI cL sT ++ [(q34, .inl (cB, rn_34, .inl rf_34))]) H := hP
      have hD : va_D A (zwT adT adT_bytes cB cI cL sT ++ [(q34, .inl (cB, rn_34, .inl rf_34))]) := hD
      have hG : g_T_writeByte_c34 sT v1 rf_34 rn_34 = some (a, c9, z9) := hG
      unfold g_T_writeByte_c34 at hG
      generalize cells + c_34 = cells at kc ⊢
      generalize slots + z_34 = slots at kz ⊢
      refine va_put (D := (dC, dI)) (ci := 1) (v := .ref q34) (ty := (.array .byte)) (C := R_T) (T := F_T) (N := 3) hx hb hts zi_T zty_T zty_T_ok znm_T hown zz.1 hP hD hS 0 rfl rfl 0 (by decide) (hts (.fieldLink R_T 9 "WireCodec$Tape" "bytes" "[B") zin_T_9) (fun _ h9 => h9) rfl (by decide +kernel) rfl rfl (Nat.le_of_ble_eq_true rfl) d_T_writeByte_37 (fun H locs hP hD hS => ?_)
      have hP : va_P (dC, dI) zcl (zwT adT q34 cB cI cL (zT_bytesN' (zT_bytes' sT rf_34) rn_34) ++ [(adT_bytes, .inl (cB, zT_bytesN sT, .inl (zT_bytes sT)))]) H := hP.sub [0, 2, 1] rfl
      have hD : va_D A (zwT adT q34 cB cI cL (zT_bytesN' (zT_bytes' sT rf_34) rn_34) ++ [(adT_bytes, .inl (cB, zT_bytesN sT, .inl (zT_bytes sT)))]) := hD.sub [0, 2, 1] (by decide) rfl
      have hP : va_P (dC, dI) zcl (zwT adT q34 cB cI cL (zT_bytesN' (zT_bytes' sT rf_34) rn_34)) H := hP.sub [0, 1] rfl
      have hD : va_D A (zwT adT q34 cB cI cL (zT_bytesN' (zT_bytes' sT rf_34) rn_34)) := hD.sub [0, 1] (by decide) rfl
      have hG : g_T_writeByte_w37 v1 (zT_bytesN' (zT_bytes' sT rf_34) rn_34) = some (a, c9, z9) := hG
      generalize zT_bytesN' (zT_bytes' sT rf_34) rn_34 = sT_37 at hP hD hG
      unfold g_T_writeByte_w37 at hG
      exact k_T_writeByte_40 X hA zz sT_37 v1 _ _ _ _ _ _ _ hG kc kz hRc hRz adT q34 _ _ hP hD hS _ (lv_sub hl [0, 1] rfl)
set_option maxRecDepth 100000 in
set_option maxHeartbeats 4000000 in
theorem c_T_writeByte (l : Launch) (dC : Nat → ClassId) (dI : Nat → Nat → Nat) (cB cI cL : ClassId) (sz : Nat) (adT adT_bytes : Nat) (sT : zT) (v1 : Int32) (a : zT) (c9 z9 : Nat) (hG : g_T_writeByte sT v1 = some (a, c9, z9)) : Met l y_T_writeByte (zw y_T_writeByte b_T_writeByte 2 none) ({ frames := 2, cells := c9, slots := z9, locals := 82 }) (va_Pc [.ref adT, .int v1] (zpre dC dI cB cI cL sz (zwT adT adT_bytes cB cI cL sT))) (q_T_writeByte dC dI cB cI cL (va_A (zwT adT adT_bytes cB cI cL sT) sz) adT a) c9 z9 (va_A (zwT adT adT_bytes cB cI cL sT) sz) := by
  refine Met.ofW (cc := b_T_writeByte) (maxL := 2) (ret := none) (by decide) rfl ?_
  intro p e s m args below meth c s₁ B hml hv
  obtain ⟨rfl, hsz, hP, zz, hD0⟩ := hv
  subst hsz
  have X := zx_of (F := 2) (L := 82) B hml (Nat.le_refl _) (Nat.le_refl _)
  have hD := hD0.self (sz := s.heap.size)
  have hA : ∀ q : Nat, s.heap.size ≤ q → va_A (zwT adT adT_bytes cB cI cL sT) s.heap.size q := fun q h => Or.inr h
  have hl := lv_entry ([.ref adT, .int v1]) (n := 2) (Nat.le_of_ble_eq_true rfl)
  rw [lg_entry_eq]
  generalize (lg_sl ([.ref adT, .int v1]) ++ List.replicate (2 - (lg_sl ([.ref adT, .int v1])).length) Slot.unset).toArray = ls at hl ⊢
  exact k_T_writeByte_0 X hA zz sT v1 a c9 z9 0 0 c9 z9 hG (Nat.zero_add _) (Nat.zero_add _) (Nat.le_refl _) (Nat.le_refl _) adT adT_bytes _ _ hP hD va_S.rf ls hl

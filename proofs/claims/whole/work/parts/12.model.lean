theorem zy_M_set : zy y_M_set b_M_set 4 none 2 := ⟨zmem 1183 (by decide +kernel) (by decide +kernel), zmem 73 (by decide +kernel) (by decide +kernel), by decide +kernel⟩
theorem zv_M_set : Cond.instanceMethod y_M_set ∈ ztb ∧ Cond.selects y_M_set.cls y_M_set y_M_set ∈ ztb := ⟨zmem 1181 (by decide +kernel) (by decide +kernel), zmem 1182 (by decide +kernel) (by decide +kernel)⟩
theorem d_M_set_0 : decode b_M_set 0 = .ok (.aload_n 0, 1) := by decide +kernel
theorem d_M_set_1 : decode b_M_set 1 = .ok (.iload_n 1, 1) := by decide +kernel
theorem d_M_set_2 : decode b_M_set 2 = .ok (.i2l, 1) := by decide +kernel
theorem d_M_set_3 : decode b_M_set 3 = .ok (.lconst 0, 1) := by decide +kernel
theorem d_M_set_4 : decode b_M_set 4 = .ok (.ldc2_w 78, 3) := by decide +kernel
theorem d_M_set_7 : decode b_M_set 7 = .ok (.invokestatic 53, 3) := by decide +kernel
theorem d_M_set_10 : decode b_M_set 10 = .ok (.ifCond .ne 21, 3) := by decide +kernel
theorem d_M_set_13 : decode b_M_set 13 = .ok (.iload_n 1, 1) := by decide +kernel
theorem d_M_set_14 : decode b_M_set 14 = .ok (.i2l, 1) := by decide +kernel
theorem d_M_set_15 : decode b_M_set 15 = .ok (.ldc2_w 217, 3) := by decide +kernel
theorem d_M_set_18 : decode b_M_set 18 = .ok (.ldc2_w 206, 3) := by decide +kernel
theorem d_M_set_21 : decode b_M_set 21 = .ok (.invokestatic 53, 3) := by decide +kernel
theorem d_M_set_24 : decode b_M_set 24 = .ok (.ifCond .ne 7, 3) := by decide +kernel
theorem d_M_set_27 : decode b_M_set 27 = .ok (.iconst 1, 1) := by decide +kernel
theorem d_M_set_28 : decode b_M_set 28 = .ok (.goto 4, 3) := by decide +kernel
theorem d_M_set_31 : decode b_M_set 31 = .ok (.iconst 0, 1) := by decide +kernel
theorem d_M_set_32 : decode b_M_set 32 = .ok (.iconst 1, 1) := by decide +kernel
theorem d_M_set_33 : decode b_M_set 33 = .ok (.invokevirtual 62, 3) := by decide +kernel
theorem d_M_set_36 : decode b_M_set 36 = .ok (.ifCond .eq 4, 3) := by decide +kernel
theorem d_M_set_39 : decode b_M_set 39 = .ok (.return_, 1) := by decide +kernel
theorem d_M_set_40 : decode b_M_set 40 = .ok (.aload_n 0, 1) := by decide +kernel
theorem d_M_set_41 : decode b_M_set 41 = .ok (.getfield 26, 3) := by decide +kernel
theorem d_M_set_44 : decode b_M_set 44 = .ok (.iload_n 1, 1) := by decide +kernel
theorem d_M_set_45 : decode b_M_set 45 = .ok (.lload_n 2, 1) := by decide +kernel
theorem d_M_set_46 : decode b_M_set 46 = .ok (.lastore, 1) := by decide +kernel
theorem d_M_set_47 : decode b_M_set 47 = .ok (.return_, 1) := by decide +kernel
theorem zy_M_add : zy y_M_add b_M_add 5 (some .int) 2 := ⟨zmem 1188 (by decide +kernel) (by decide +kernel), zmem 73 (by decide +kernel) (by decide +kernel), by decide +kernel⟩
theorem zv_M_add : Cond.instanceMethod y_M_add ∈ ztb ∧ Cond.selects y_M_add.cls y_M_add y_M_add ∈ ztb := ⟨zmem 1186 (by decide +kernel) (by decide +kernel), zmem 1187 (by decide +kernel) (by decide +kernel)⟩
theorem d_M_add_0 : decode b_M_add 0 = .ok (.aload_n 0, 1) := by decide +kernel
theorem d_M_add_1 : decode b_M_add 1 = .ok (.iload_n 3, 1) := by decide +kernel
theorem d_M_add_2 : decode b_M_add 2 = .ok (.i2l, 1) := by decide +kernel
theorem d_M_add_3 : decode b_M_add 3 = .ok (.lconst 1, 1) := by decide +kernel
theorem d_M_add_4 : decode b_M_add 4 = .ok (.ldc2_w 60, 3) := by decide +kernel
theorem d_M_add_7 : decode b_M_add 7 = .ok (.invokestatic 53, 3) := by decide +kernel
theorem d_M_add_10 : decode b_M_add 10 = .ok (.ifCond .ne 7, 3) := by decide +kernel
theorem d_M_add_13 : decode b_M_add 13 = .ok (.iconst 1, 1) := by decide +kernel
theorem d_M_add_14 : decode b_M_add 14 = .ok (.goto 4, 3) := by decide +kernel
theorem d_M_add_17 : decode b_M_add 17 = .ok (.iconst 0, 1) := by decide +kernel
theorem d_M_add_18 : decode b_M_add 18 = .ok (.iconst 1, 1) := by decide +kernel
theorem d_M_add_19 : decode b_M_add 19 = .ok (.invokevirtual 62, 3) := by decide +kernel
theorem d_M_add_22 : decode b_M_add 22 = .ok (.ifCond .ne 28, 3) := by decide +kernel
theorem d_M_add_25 : decode b_M_add 25 = .ok (.aload_n 0, 1) := by decide +kernel
theorem d_M_add_26 : decode b_M_add 26 = .ok (.aload_n 0, 1) := by decide +kernel
theorem d_M_add_27 : decode b_M_add 27 = .ok (.getfield 211, 3) := by decide +kernel
theorem d_M_add_30 : decode b_M_add 30 = .ok (.iload_n 3, 1) := by decide +kernel
theorem d_M_add_31 : decode b_M_add 31 = .ok (.iadd, 1) := by decide +kernel
theorem d_M_add_32 : decode b_M_add 32 = .ok (.sipush 2000, 3) := by decide +kernel
theorem d_M_add_35 : decode b_M_add 35 = .ok (.if_icmp .le 7, 3) := by decide +kernel
theorem d_M_add_38 : decode b_M_add 38 = .ok (.iconst 1, 1) := by decide +kernel
theorem d_M_add_39 : decode b_M_add 39 = .ok (.goto 4, 3) := by decide +kernel
theorem d_M_add_42 : decode b_M_add 42 = .ok (.iconst 0, 1) := by decide +kernel
theorem d_M_add_43 : decode b_M_add 43 = .ok (.iconst 2, 1) := by decide +kernel
theorem d_M_add_44 : decode b_M_add 44 = .ok (.invokevirtual 62, 3) := by decide +kernel
theorem d_M_add_47 : decode b_M_add 47 = .ok (.ifCond .eq 5, 3) := by decide +kernel
theorem d_M_add_50 : decode b_M_add 50 = .ok (.iconst 0, 1) := by decide +kernel
theorem d_M_add_51 : decode b_M_add 51 = .ok (.ireturn, 1) := by decide +kernel
theorem d_M_add_52 : decode b_M_add 52 = .ok (.iload_n 3, 1) := by decide +kernel
theorem d_M_add_53 : decode b_M_add 53 = .ok (.iconst 1, 1) := by decide +kernel
theorem d_M_add_54 : decode b_M_add 54 = .ok (.isub, 1) := by decide +kernel
theorem d_M_add_55 : decode b_M_add 55 = .ok (.istore 4, 2) := by decide +kernel
theorem d_M_add_57 : decode b_M_add 57 = .ok (.iload 4, 2) := by decide +kernel
theorem d_M_add_59 : decode b_M_add 59 = .ok (.ifCond .lt 37, 3) := by decide +kernel
theorem d_M_add_62 : decode b_M_add 62 = .ok (.aload_n 0, 1) := by decide +kernel
theorem d_M_add_63 : decode b_M_add 63 = .ok (.getfield 29, 3) := by decide +kernel
theorem d_M_add_66 : decode b_M_add 66 = .ok (.aload_n 0, 1) := by decide +kernel
theorem d_M_add_67 : decode b_M_add 67 = .ok (.getfield 211, 3) := by decide +kernel
theorem d_M_add_70 : decode b_M_add 70 = .ok (.lload_n 1, 1) := by decide +kernel
theorem d_M_add_71 : decode b_M_add 71 = .ok (.bipush 8, 2) := by decide +kernel
theorem d_M_add_73 : decode b_M_add 73 = .ok (.iload 4, 2) := by decide +kernel
theorem d_M_add_75 : decode b_M_add 75 = .ok (.imul, 1) := by decide +kernel
theorem d_M_add_76 : decode b_M_add 76 = .ok (.lshr, 1) := by decide +kernel
theorem d_M_add_77 : decode b_M_add 77 = .ok (.l2i, 1) := by decide +kernel
theorem d_M_add_78 : decode b_M_add 78 = .ok (.i2b, 1) := by decide +kernel
theorem d_M_add_79 : decode b_M_add 79 = .ok (.bastore, 1) := by decide +kernel
theorem d_M_add_80 : decode b_M_add 80 = .ok (.aload_n 0, 1) := by decide +kernel
theorem d_M_add_81 : decode b_M_add 81 = .ok (.dup, 1) := by decide +kernel
theorem d_M_add_82 : decode b_M_add 82 = .ok (.getfield 211, 3) := by decide +kernel
theorem d_M_add_85 : decode b_M_add 85 = .ok (.iconst 1, 1) := by decide +kernel
theorem d_M_add_86 : decode b_M_add 86 = .ok (.iadd, 1) := by decide +kernel
theorem d_M_add_87 : decode b_M_add 87 = .ok (.putfield 211, 3) := by decide +kernel
theorem d_M_add_90 : decode b_M_add 90 = .ok (.iinc 4 (-1), 3) := by decide +kernel
theorem d_M_add_93 : decode b_M_add 93 = .ok (.goto (-36), 3) := by decide +kernel
theorem d_M_add_96 : decode b_M_add 96 = .ok (.aload_n 0, 1) := by decide +kernel
theorem d_M_add_97 : decode b_M_add 97 = .ok (.getfield 211, 3) := by decide +kernel
theorem d_M_add_100 : decode b_M_add 100 = .ok (.ireturn, 1) := by decide +kernel
theorem zy_M_span : zy y_M_span b_M_span 5 none 2 := ⟨zmem 1192 (by decide +kernel) (by decide +kernel), zmem 73 (by decide +kernel) (by decide +kernel), by decide +kernel⟩
theorem zv_M_span : Cond.instanceMethod y_M_span ∈ ztb ∧ Cond.selects y_M_span.cls y_M_span y_M_span ∈ ztb := ⟨zmem 1190 (by decide +kernel) (by decide +kernel), zmem 1191 (by decide +kernel) (by decide +kernel)⟩
theorem d_M_span_0 : decode b_M_span 0 = .ok (.aload_n 0, 1) := by decide +kernel
theorem d_M_span_1 : decode b_M_span 1 = .ok (.lload_n 1, 1) := by decide +kernel
theorem d_M_span_2 : decode b_M_span 2 = .ok (.lconst 0, 1) := by decide +kernel
theorem d_M_span_3 : decode b_M_span 3 = .ok (.lcmp, 1) := by decide +kernel
theorem d_M_span_4 : decode b_M_span 4 = .ok (.ifCond .lt 36, 3) := by decide +kernel
theorem d_M_span_7 : decode b_M_span 7 = .ok (.lload_n 3, 1) := by decide +kernel
theorem d_M_span_8 : decode b_M_span 8 = .ok (.lload_n 1, 1) := by decide +kernel
theorem d_M_span_9 : decode b_M_span 9 = .ok (.lcmp, 1) := by decide +kernel
theorem d_M_span_10 : decode b_M_span 10 = .ok (.ifCond .lt 30, 3) := by decide +kernel
theorem d_M_span_13 : decode b_M_span 13 = .ok (.aload_n 0, 1) := by decide +kernel
theorem d_M_span_14 : decode b_M_span 14 = .ok (.getfield 214, 3) := by decide +kernel
theorem d_M_span_17 : decode b_M_span 17 = .ok (.ifCond .le 27, 3) := by decide +kernel
theorem d_M_span_20 : decode b_M_span 20 = .ok (.lload_n 3, 1) := by decide +kernel
theorem d_M_span_21 : decode b_M_span 21 = .ok (.aload_n 0, 1) := by decide +kernel
theorem d_M_span_22 : decode b_M_span 22 = .ok (.getfield 32, 3) := by decide +kernel
theorem d_M_span_25 : decode b_M_span 25 = .ok (.aload_n 0, 1) := by decide +kernel
theorem d_M_span_26 : decode b_M_span 26 = .ok (.getfield 214, 3) := by decide +kernel
theorem d_M_span_29 : decode b_M_span 29 = .ok (.iconst 1, 1) := by decide +kernel
theorem d_M_span_30 : decode b_M_span 30 = .ok (.isub, 1) := by decide +kernel
theorem d_M_span_31 : decode b_M_span 31 = .ok (.laload, 1) := by decide +kernel
theorem d_M_span_32 : decode b_M_span 32 = .ok (.ldc2_w 76, 3) := by decide +kernel
theorem d_M_span_35 : decode b_M_span 35 = .ok (.lsub, 1) := by decide +kernel
theorem d_M_span_36 : decode b_M_span 36 = .ok (.lcmp, 1) := by decide +kernel
theorem d_M_span_37 : decode b_M_span 37 = .ok (.ifCond .le 7, 3) := by decide +kernel
theorem d_M_span_40 : decode b_M_span 40 = .ok (.iconst 1, 1) := by decide +kernel
theorem d_M_span_41 : decode b_M_span 41 = .ok (.goto 4, 3) := by decide +kernel
theorem d_M_span_44 : decode b_M_span 44 = .ok (.iconst 0, 1) := by decide +kernel
theorem d_M_span_45 : decode b_M_span 45 = .ok (.iconst 1, 1) := by decide +kernel
theorem d_M_span_46 : decode b_M_span 46 = .ok (.invokevirtual 62, 3) := by decide +kernel
theorem d_M_span_49 : decode b_M_span 49 = .ok (.ifCond .ne 26, 3) := by decide +kernel
theorem d_M_span_52 : decode b_M_span 52 = .ok (.aload_n 0, 1) := by decide +kernel
theorem d_M_span_53 : decode b_M_span 53 = .ok (.aload_n 0, 1) := by decide +kernel
theorem d_M_span_54 : decode b_M_span 54 = .ok (.getfield 214, 3) := by decide +kernel
theorem d_M_span_57 : decode b_M_span 57 = .ok (.sipush 500, 3) := by decide +kernel
theorem d_M_span_60 : decode b_M_span 60 = .ok (.if_icmp .ne 7, 3) := by decide +kernel
theorem d_M_span_63 : decode b_M_span 63 = .ok (.iconst 1, 1) := by decide +kernel
theorem d_M_span_64 : decode b_M_span 64 = .ok (.goto 4, 3) := by decide +kernel
theorem d_M_span_67 : decode b_M_span 67 = .ok (.iconst 0, 1) := by decide +kernel
theorem d_M_span_68 : decode b_M_span 68 = .ok (.iconst 2, 1) := by decide +kernel
theorem d_M_span_69 : decode b_M_span 69 = .ok (.invokevirtual 62, 3) := by decide +kernel
theorem d_M_span_72 : decode b_M_span 72 = .ok (.ifCond .eq 4, 3) := by decide +kernel
theorem d_M_span_75 : decode b_M_span 75 = .ok (.return_, 1) := by decide +kernel
theorem d_M_span_76 : decode b_M_span 76 = .ok (.aload_n 0, 1) := by decide +kernel
theorem d_M_span_77 : decode b_M_span 77 = .ok (.getfield 32, 3) := by decide +kernel
theorem d_M_span_80 : decode b_M_span 80 = .ok (.aload_n 0, 1) := by decide +kernel
theorem d_M_span_81 : decode b_M_span 81 = .ok (.getfield 214, 3) := by decide +kernel
theorem d_M_span_84 : decode b_M_span 84 = .ok (.lload_n 1, 1) := by decide +kernel
theorem d_M_span_85 : decode b_M_span 85 = .ok (.lastore, 1) := by decide +kernel
theorem d_M_span_86 : decode b_M_span 86 = .ok (.aload_n 0, 1) := by decide +kernel
theorem d_M_span_87 : decode b_M_span 87 = .ok (.getfield 35, 3) := by decide +kernel
theorem d_M_span_90 : decode b_M_span 90 = .ok (.aload_n 0, 1) := by decide +kernel
theorem d_M_span_91 : decode b_M_span 91 = .ok (.getfield 214, 3) := by decide +kernel
theorem d_M_span_94 : decode b_M_span 94 = .ok (.lload_n 3, 1) := by decide +kernel
theorem d_M_span_95 : decode b_M_span 95 = .ok (.lastore, 1) := by decide +kernel
theorem d_M_span_96 : decode b_M_span 96 = .ok (.aload_n 0, 1) := by decide +kernel
theorem d_M_span_97 : decode b_M_span 97 = .ok (.dup, 1) := by decide +kernel
theorem d_M_span_98 : decode b_M_span 98 = .ok (.getfield 214, 3) := by decide +kernel
theorem d_M_span_101 : decode b_M_span 101 = .ok (.iconst 1, 1) := by decide +kernel
theorem d_M_span_102 : decode b_M_span 102 = .ok (.iadd, 1) := by decide +kernel
theorem d_M_span_103 : decode b_M_span 103 = .ok (.putfield 214, 3) := by decide +kernel
theorem d_M_span_106 : decode b_M_span 106 = .ok (.return_, 1) := by decide +kernel
theorem zy_M_suits : zy y_M_suits b_M_suits 5 (some .boolean) 1 := ⟨zmem 1201 (by decide +kernel) (by decide +kernel), zmem 73 (by decide +kernel) (by decide +kernel), by decide +kernel⟩
theorem zv_M_suits : Cond.instanceMethod y_M_suits ∈ ztb ∧ Cond.selects y_M_suits.cls y_M_suits y_M_suits ∈ ztb := ⟨zmem 1200 (by decide +kernel) (by decide +kernel), zmem 47 (by decide +kernel) (by decide +kernel)⟩
theorem d_M_suits_0 : decode b_M_suits 0 = .ok (.iload_n 1, 1) := by decide +kernel
theorem d_M_suits_1 : decode b_M_suits 1 = .ok (.ifCond .ne 17, 3) := by decide +kernel
theorem d_M_suits_4 : decode b_M_suits 4 = .ok (.aload_n 0, 1) := by decide +kernel
theorem d_M_suits_5 : decode b_M_suits 5 = .ok (.getfield 26, 3) := by decide +kernel
theorem d_M_suits_8 : decode b_M_suits 8 = .ok (.iconst 0, 1) := by decide +kernel
theorem d_M_suits_9 : decode b_M_suits 9 = .ok (.laload, 1) := by decide +kernel
theorem d_M_suits_10 : decode b_M_suits 10 = .ok (.lconst 1, 1) := by decide +kernel
theorem d_M_suits_11 : decode b_M_suits 11 = .ok (.ldc2_w 219, 3) := by decide +kernel
theorem d_M_suits_14 : decode b_M_suits 14 = .ok (.invokestatic 53, 3) := by decide +kernel
theorem d_M_suits_17 : decode b_M_suits 17 = .ok (.ireturn, 1) := by decide +kernel
theorem d_M_suits_18 : decode b_M_suits 18 = .ok (.iload_n 1, 1) := by decide +kernel
theorem d_M_suits_19 : decode b_M_suits 19 = .ok (.invokestatic 171, 3) := by decide +kernel
theorem d_M_suits_22 : decode b_M_suits 22 = .ok (.ifCond .eq 84, 3) := by decide +kernel
theorem d_M_suits_25 : decode b_M_suits 25 = .ok (.aload_n 0, 1) := by decide +kernel
theorem d_M_suits_26 : decode b_M_suits 26 = .ok (.getfield 214, 3) := by decide +kernel
theorem d_M_suits_29 : decode b_M_suits 29 = .ok (.ifCond .le 75, 3) := by decide +kernel
theorem d_M_suits_32 : decode b_M_suits 32 = .ok (.aload_n 0, 1) := by decide +kernel
theorem d_M_suits_33 : decode b_M_suits 33 = .ok (.getfield 35, 3) := by decide +kernel
theorem d_M_suits_36 : decode b_M_suits 36 = .ok (.iconst 0, 1) := by decide +kernel
theorem d_M_suits_37 : decode b_M_suits 37 = .ok (.laload, 1) := by decide +kernel
theorem d_M_suits_38 : decode b_M_suits 38 = .ok (.invokestatic 80, 3) := by decide +kernel
theorem d_M_suits_41 : decode b_M_suits 41 = .ok (.ifCond .eq 63, 3) := by decide +kernel
theorem d_M_suits_44 : decode b_M_suits 44 = .ok (.aload_n 0, 1) := by decide +kernel
theorem d_M_suits_45 : decode b_M_suits 45 = .ok (.getfield 26, 3) := by decide +kernel
theorem d_M_suits_48 : decode b_M_suits 48 = .ok (.iconst 1, 1) := by decide +kernel
theorem d_M_suits_49 : decode b_M_suits 49 = .ok (.laload, 1) := by decide +kernel
theorem d_M_suits_50 : decode b_M_suits 50 = .ok (.invokestatic 80, 3) := by decide +kernel
theorem d_M_suits_53 : decode b_M_suits 53 = .ok (.ifCond .eq 51, 3) := by decide +kernel
theorem d_M_suits_56 : decode b_M_suits 56 = .ok (.iload_n 1, 1) := by decide +kernel
theorem d_M_suits_57 : decode b_M_suits 57 = .ok (.iconst 2, 1) := by decide +kernel
theorem d_M_suits_58 : decode b_M_suits 58 = .ok (.if_icmp .eq 42, 3) := by decide +kernel
theorem d_M_suits_61 : decode b_M_suits 61 = .ok (.aload_n 0, 1) := by decide +kernel
theorem d_M_suits_62 : decode b_M_suits 62 = .ok (.getfield 26, 3) := by decide +kernel
theorem d_M_suits_65 : decode b_M_suits 65 = .ok (.bipush 9, 2) := by decide +kernel
theorem d_M_suits_67 : decode b_M_suits 67 = .ok (.laload, 1) := by decide +kernel
theorem d_M_suits_68 : decode b_M_suits 68 = .ok (.invokestatic 80, 3) := by decide +kernel
theorem d_M_suits_71 : decode b_M_suits 71 = .ok (.ifCond .eq 33, 3) := by decide +kernel
theorem d_M_suits_74 : decode b_M_suits 74 = .ok (.aload_n 0, 1) := by decide +kernel
theorem d_M_suits_75 : decode b_M_suits 75 = .ok (.getfield 26, 3) := by decide +kernel
theorem d_M_suits_78 : decode b_M_suits 78 = .ok (.bipush 10, 2) := by decide +kernel
theorem d_M_suits_80 : decode b_M_suits 80 = .ok (.laload, 1) := by decide +kernel
theorem d_M_suits_81 : decode b_M_suits 81 = .ok (.invokestatic 80, 3) := by decide +kernel
theorem d_M_suits_84 : decode b_M_suits 84 = .ok (.ifCond .eq 20, 3) := by decide +kernel
theorem d_M_suits_87 : decode b_M_suits 87 = .ok (.aload_n 0, 1) := by decide +kernel
theorem d_M_suits_88 : decode b_M_suits 88 = .ok (.getfield 26, 3) := by decide +kernel
theorem d_M_suits_91 : decode b_M_suits 91 = .ok (.bipush 11, 2) := by decide +kernel
theorem d_M_suits_93 : decode b_M_suits 93 = .ok (.laload, 1) := by decide +kernel
theorem d_M_suits_94 : decode b_M_suits 94 = .ok (.invokestatic 80, 3) := by decide +kernel
theorem d_M_suits_97 : decode b_M_suits 97 = .ok (.ifCond .eq 7, 3) := by decide +kernel
theorem d_M_suits_100 : decode b_M_suits 100 = .ok (.iconst 1, 1) := by decide +kernel
theorem d_M_suits_101 : decode b_M_suits 101 = .ok (.goto 4, 3) := by decide +kernel
theorem d_M_suits_104 : decode b_M_suits 104 = .ok (.iconst 0, 1) := by decide +kernel
theorem d_M_suits_105 : decode b_M_suits 105 = .ok (.ireturn, 1) := by decide +kernel
theorem d_M_suits_106 : decode b_M_suits 106 = .ok (.iconst 1, 1) := by decide +kernel
theorem d_M_suits_107 : decode b_M_suits 107 = .ok (.istore_n 2, 1) := by decide +kernel
theorem d_M_suits_108 : decode b_M_suits 108 = .ok (.iload_n 1, 1) := by decide +kernel
theorem d_M_suits_109 : decode b_M_suits 109 = .ok (.bipush 8, 2) := by decide +kernel
theorem d_M_suits_111 : decode b_M_suits 111 = .ok (.if_icmp .ne 8, 3) := by decide +kernel
theorem d_M_suits_114 : decode b_M_suits 114 = .ok (.bipush 21, 2) := by decide +kernel
theorem d_M_suits_116 : decode b_M_suits 116 = .ok (.goto 7, 3) := by decide +kernel
theorem d_M_suits_119 : decode b_M_suits 119 = .ok (.iload_n 1, 1) := by decide +kernel
theorem d_M_suits_120 : decode b_M_suits 120 = .ok (.invokestatic 134, 3) := by decide +kernel
theorem d_M_suits_123 : decode b_M_suits 123 = .ok (.istore_n 3, 1) := by decide +kernel
theorem d_M_suits_124 : decode b_M_suits 124 = .ok (.iload_n 3, 1) := by decide +kernel
theorem d_M_suits_125 : decode b_M_suits 125 = .ok (.ifCond .le 48, 3) := by decide +kernel
theorem d_M_suits_128 : decode b_M_suits 128 = .ok (.iload_n 3, 1) := by decide +kernel
theorem d_M_suits_129 : decode b_M_suits 129 = .ok (.bipush 10, 2) := by decide +kernel
theorem d_M_suits_131 : decode b_M_suits 131 = .ok (.irem, 1) := by decide +kernel
theorem d_M_suits_132 : decode b_M_suits 132 = .ok (.istore 4, 2) := by decide +kernel
theorem d_M_suits_134 : decode b_M_suits 134 = .ok (.iload_n 2, 1) := by decide +kernel
theorem d_M_suits_135 : decode b_M_suits 135 = .ok (.ifCond .eq 28, 3) := by decide +kernel
theorem d_M_suits_138 : decode b_M_suits 138 = .ok (.iload 4, 2) := by decide +kernel
theorem d_M_suits_140 : decode b_M_suits 140 = .ok (.iconst 3, 1) := by decide +kernel
theorem d_M_suits_141 : decode b_M_suits 141 = .ok (.if_icmp .gt 18, 3) := by decide +kernel
theorem d_M_suits_144 : decode b_M_suits 144 = .ok (.aload_n 0, 1) := by decide +kernel
theorem d_M_suits_145 : decode b_M_suits 145 = .ok (.getfield 26, 3) := by decide +kernel
theorem d_M_suits_148 : decode b_M_suits 148 = .ok (.iload 4, 2) := by decide +kernel
theorem d_M_suits_150 : decode b_M_suits 150 = .ok (.iconst 1, 1) := by decide +kernel
theorem d_M_suits_151 : decode b_M_suits 151 = .ok (.isub, 1) := by decide +kernel
theorem d_M_suits_152 : decode b_M_suits 152 = .ok (.laload, 1) := by decide +kernel
theorem d_M_suits_153 : decode b_M_suits 153 = .ok (.invokestatic 80, 3) := by decide +kernel
theorem d_M_suits_156 : decode b_M_suits 156 = .ok (.ifCond .eq 7, 3) := by decide +kernel
theorem d_M_suits_159 : decode b_M_suits 159 = .ok (.iconst 1, 1) := by decide +kernel
theorem d_M_suits_160 : decode b_M_suits 160 = .ok (.goto 4, 3) := by decide +kernel
theorem d_M_suits_163 : decode b_M_suits 163 = .ok (.iconst 0, 1) := by decide +kernel
theorem d_M_suits_164 : decode b_M_suits 164 = .ok (.istore_n 2, 1) := by decide +kernel
theorem d_M_suits_165 : decode b_M_suits 165 = .ok (.iload_n 3, 1) := by decide +kernel
theorem d_M_suits_166 : decode b_M_suits 166 = .ok (.bipush 10, 2) := by decide +kernel
theorem d_M_suits_168 : decode b_M_suits 168 = .ok (.idiv, 1) := by decide +kernel
theorem d_M_suits_169 : decode b_M_suits 169 = .ok (.istore_n 3, 1) := by decide +kernel
theorem d_M_suits_170 : decode b_M_suits 170 = .ok (.goto (-46), 3) := by decide +kernel
theorem d_M_suits_173 : decode b_M_suits 173 = .ok (.iload_n 1, 1) := by decide +kernel
theorem d_M_suits_174 : decode b_M_suits 174 = .ok (.bipush 8, 2) := by decide +kernel
theorem d_M_suits_176 : decode b_M_suits 176 = .ok (.if_icmp .ne 41, 3) := by decide +kernel
theorem d_M_suits_179 : decode b_M_suits 179 = .ok (.iload_n 2, 1) := by decide +kernel
theorem d_M_suits_180 : decode b_M_suits 180 = .ok (.ifCond .eq 35, 3) := by decide +kernel
theorem d_M_suits_183 : decode b_M_suits 183 = .ok (.aload_n 0, 1) := by decide +kernel
theorem d_M_suits_184 : decode b_M_suits 184 = .ok (.getfield 26, 3) := by decide +kernel
theorem d_M_suits_187 : decode b_M_suits 187 = .ok (.iconst 2, 1) := by decide +kernel
theorem d_M_suits_188 : decode b_M_suits 188 = .ok (.laload, 1) := by decide +kernel
theorem d_M_suits_189 : decode b_M_suits 189 = .ok (.lconst 0, 1) := by decide +kernel
theorem d_M_suits_190 : decode b_M_suits 190 = .ok (.lconst 1, 1) := by decide +kernel
theorem d_M_suits_191 : decode b_M_suits 191 = .ok (.invokestatic 53, 3) := by decide +kernel
theorem d_M_suits_194 : decode b_M_suits 194 = .ok (.ifCond .eq 21, 3) := by decide +kernel
theorem d_M_suits_197 : decode b_M_suits 197 = .ok (.aload_n 0, 1) := by decide +kernel
theorem d_M_suits_198 : decode b_M_suits 198 = .ok (.getfield 26, 3) := by decide +kernel
theorem d_M_suits_201 : decode b_M_suits 201 = .ok (.iconst 3, 1) := by decide +kernel
theorem d_M_suits_202 : decode b_M_suits 202 = .ok (.laload, 1) := by decide +kernel
theorem d_M_suits_203 : decode b_M_suits 203 = .ok (.lconst 0, 1) := by decide +kernel
theorem d_M_suits_204 : decode b_M_suits 204 = .ok (.lconst 1, 1) := by decide +kernel
theorem d_M_suits_205 : decode b_M_suits 205 = .ok (.invokestatic 53, 3) := by decide +kernel
theorem d_M_suits_208 : decode b_M_suits 208 = .ok (.ifCond .eq 7, 3) := by decide +kernel
theorem d_M_suits_211 : decode b_M_suits 211 = .ok (.iconst 1, 1) := by decide +kernel
theorem d_M_suits_212 : decode b_M_suits 212 = .ok (.goto 4, 3) := by decide +kernel
theorem d_M_suits_215 : decode b_M_suits 215 = .ok (.iconst 0, 1) := by decide +kernel
theorem d_M_suits_216 : decode b_M_suits 216 = .ok (.istore_n 2, 1) := by decide +kernel
theorem d_M_suits_217 : decode b_M_suits 217 = .ok (.iload_n 1, 1) := by decide +kernel
theorem d_M_suits_218 : decode b_M_suits 218 = .ok (.bipush 8, 2) := by decide +kernel
theorem d_M_suits_220 : decode b_M_suits 220 = .ok (.if_icmp .eq 9, 3) := by decide +kernel
theorem d_M_suits_223 : decode b_M_suits 223 = .ok (.iload_n 1, 1) := by decide +kernel
theorem d_M_suits_224 : decode b_M_suits 224 = .ok (.bipush 6, 2) := by decide +kernel
theorem d_M_suits_226 : decode b_M_suits 226 = .ok (.if_icmp .ne 32, 3) := by decide +kernel
theorem d_M_suits_229 : decode b_M_suits 229 = .ok (.iload_n 2, 1) := by decide +kernel
theorem d_M_suits_230 : decode b_M_suits 230 = .ok (.ifCond .eq 26, 3) := by decide +kernel
theorem d_M_suits_233 : decode b_M_suits 233 = .ok (.aload_n 0, 1) := by decide +kernel
theorem d_M_suits_234 : decode b_M_suits 234 = .ok (.getfield 26, 3) := by decide +kernel
theorem d_M_suits_237 : decode b_M_suits 237 = .ok (.iconst 1, 1) := by decide +kernel
theorem d_M_suits_238 : decode b_M_suits 238 = .ok (.laload, 1) := by decide +kernel
theorem d_M_suits_239 : decode b_M_suits 239 = .ok (.aload_n 0, 1) := by decide +kernel
theorem d_M_suits_240 : decode b_M_suits 240 = .ok (.getfield 211, 3) := by decide +kernel
theorem d_M_suits_243 : decode b_M_suits 243 = .ok (.i2l, 1) := by decide +kernel
theorem d_M_suits_244 : decode b_M_suits 244 = .ok (.ladd, 1) := by decide +kernel
theorem d_M_suits_245 : decode b_M_suits 245 = .ok (.ldc2_w 51, 3) := by decide +kernel
theorem d_M_suits_248 : decode b_M_suits 248 = .ok (.lcmp, 1) := by decide +kernel
theorem d_M_suits_249 : decode b_M_suits 249 = .ok (.ifCond .gt 7, 3) := by decide +kernel
theorem d_M_suits_252 : decode b_M_suits 252 = .ok (.iconst 1, 1) := by decide +kernel
theorem d_M_suits_253 : decode b_M_suits 253 = .ok (.goto 4, 3) := by decide +kernel
theorem d_M_suits_256 : decode b_M_suits 256 = .ok (.iconst 0, 1) := by decide +kernel
theorem d_M_suits_257 : decode b_M_suits 257 = .ok (.istore_n 2, 1) := by decide +kernel
theorem d_M_suits_258 : decode b_M_suits 258 = .ok (.iload_n 1, 1) := by decide +kernel
theorem d_M_suits_259 : decode b_M_suits 259 = .ok (.bipush 18, 2) := by decide +kernel
theorem d_M_suits_261 : decode b_M_suits 261 = .ok (.if_icmp .eq 21, 3) := by decide +kernel
theorem d_M_suits_264 : decode b_M_suits 264 = .ok (.iload_n 1, 1) := by decide +kernel
theorem d_M_suits_265 : decode b_M_suits 265 = .ok (.bipush 19, 2) := by decide +kernel
theorem d_M_suits_267 : decode b_M_suits 267 = .ok (.if_icmp .eq 15, 3) := by decide +kernel
theorem d_M_suits_270 : decode b_M_suits 270 = .ok (.iload_n 1, 1) := by decide +kernel
theorem d_M_suits_271 : decode b_M_suits 271 = .ok (.bipush 22, 2) := by decide +kernel
theorem d_M_suits_273 : decode b_M_suits 273 = .ok (.if_icmp .eq 9, 3) := by decide +kernel
theorem d_M_suits_276 : decode b_M_suits 276 = .ok (.iload_n 1, 1) := by decide +kernel
theorem d_M_suits_277 : decode b_M_suits 277 = .ok (.bipush 23, 2) := by decide +kernel
theorem d_M_suits_279 : decode b_M_suits 279 = .ok (.if_icmp .ne 26, 3) := by decide +kernel
theorem d_M_suits_282 : decode b_M_suits 282 = .ok (.iload_n 2, 1) := by decide +kernel
theorem d_M_suits_283 : decode b_M_suits 283 = .ok (.ifCond .eq 20, 3) := by decide +kernel
theorem d_M_suits_286 : decode b_M_suits 286 = .ok (.aload_n 0, 1) := by decide +kernel
theorem d_M_suits_287 : decode b_M_suits 287 = .ok (.getfield 26, 3) := by decide +kernel
theorem d_M_suits_290 : decode b_M_suits 290 = .ok (.iconst 0, 1) := by decide +kernel
theorem d_M_suits_291 : decode b_M_suits 291 = .ok (.laload, 1) := by decide +kernel
theorem d_M_suits_292 : decode b_M_suits 292 = .ok (.ldc2_w 188, 3) := by decide +kernel
theorem d_M_suits_295 : decode b_M_suits 295 = .ok (.lcmp, 1) := by decide +kernel
theorem d_M_suits_296 : decode b_M_suits 296 = .ok (.ifCond .gt 7, 3) := by decide +kernel
theorem d_M_suits_299 : decode b_M_suits 299 = .ok (.iconst 1, 1) := by decide +kernel
theorem d_M_suits_300 : decode b_M_suits 300 = .ok (.goto 4, 3) := by decide +kernel
theorem d_M_suits_303 : decode b_M_suits 303 = .ok (.iconst 0, 1) := by decide +kernel
theorem d_M_suits_304 : decode b_M_suits 304 = .ok (.istore_n 2, 1) := by decide +kernel
theorem d_M_suits_305 : decode b_M_suits 305 = .ok (.iload_n 1, 1) := by decide +kernel
theorem d_M_suits_306 : decode b_M_suits 306 = .ok (.bipush 24, 2) := by decide +kernel
theorem d_M_suits_308 : decode b_M_suits 308 = .ok (.if_icmp .ne 46, 3) := by decide +kernel
theorem d_M_suits_311 : decode b_M_suits 311 = .ok (.iload_n 2, 1) := by decide +kernel
theorem d_M_suits_312 : decode b_M_suits 312 = .ok (.ifCond .eq 40, 3) := by decide +kernel
theorem d_M_suits_315 : decode b_M_suits 315 = .ok (.aload_n 0, 1) := by decide +kernel
theorem d_M_suits_316 : decode b_M_suits 316 = .ok (.getfield 26, 3) := by decide +kernel
theorem d_M_suits_319 : decode b_M_suits 319 = .ok (.iconst 1, 1) := by decide +kernel
theorem d_M_suits_320 : decode b_M_suits 320 = .ok (.laload, 1) := by decide +kernel
theorem d_M_suits_321 : decode b_M_suits 321 = .ok (.aload_n 0, 1) := by decide +kernel
theorem d_M_suits_322 : decode b_M_suits 322 = .ok (.getfield 26, 3) := by decide +kernel
theorem d_M_suits_325 : decode b_M_suits 325 = .ok (.iconst 0, 1) := by decide +kernel
theorem d_M_suits_326 : decode b_M_suits 326 = .ok (.laload, 1) := by decide +kernel
theorem d_M_suits_327 : decode b_M_suits 327 = .ok (.lcmp, 1) := by decide +kernel
theorem d_M_suits_328 : decode b_M_suits 328 = .ok (.ifCond .gt 24, 3) := by decide +kernel
theorem d_M_suits_331 : decode b_M_suits 331 = .ok (.aload_n 0, 1) := by decide +kernel
theorem d_M_suits_332 : decode b_M_suits 332 = .ok (.getfield 211, 3) := by decide +kernel
theorem d_M_suits_335 : decode b_M_suits 335 = .ok (.i2l, 1) := by decide +kernel
theorem d_M_suits_336 : decode b_M_suits 336 = .ok (.ldc2_w 221, 3) := by decide +kernel
theorem d_M_suits_339 : decode b_M_suits 339 = .ok (.ldc2_w 223, 3) := by decide +kernel
theorem d_M_suits_342 : decode b_M_suits 342 = .ok (.invokestatic 53, 3) := by decide +kernel
theorem d_M_suits_345 : decode b_M_suits 345 = .ok (.ifCond .eq 7, 3) := by decide +kernel
theorem d_M_suits_348 : decode b_M_suits 348 = .ok (.iconst 1, 1) := by decide +kernel
theorem d_M_suits_349 : decode b_M_suits 349 = .ok (.goto 4, 3) := by decide +kernel
theorem d_M_suits_352 : decode b_M_suits 352 = .ok (.iconst 0, 1) := by decide +kernel
theorem d_M_suits_353 : decode b_M_suits 353 = .ok (.istore_n 2, 1) := by decide +kernel
theorem d_M_suits_354 : decode b_M_suits 354 = .ok (.iload_n 2, 1) := by decide +kernel
theorem d_M_suits_355 : decode b_M_suits 355 = .ok (.ifCond .eq 20, 3) := by decide +kernel
theorem d_M_suits_358 : decode b_M_suits 358 = .ok (.iload_n 1, 1) := by decide +kernel
theorem d_M_suits_359 : decode b_M_suits 359 = .ok (.bipush 7, 2) := by decide +kernel
theorem d_M_suits_361 : decode b_M_suits 361 = .ok (.if_icmp .ne 10, 3) := by decide +kernel
theorem d_M_suits_364 : decode b_M_suits 364 = .ok (.aload_n 0, 1) := by decide +kernel
theorem d_M_suits_365 : decode b_M_suits 365 = .ok (.getfield 211, 3) := by decide +kernel
theorem d_M_suits_368 : decode b_M_suits 368 = .ok (.ifCond .le 7, 3) := by decide +kernel
theorem d_M_suits_371 : decode b_M_suits 371 = .ok (.iconst 1, 1) := by decide +kernel
theorem d_M_suits_372 : decode b_M_suits 372 = .ok (.goto 4, 3) := by decide +kernel
theorem d_M_suits_375 : decode b_M_suits 375 = .ok (.iconst 0, 1) := by decide +kernel
theorem d_M_suits_376 : decode b_M_suits 376 = .ok (.ireturn, 1) := by decide +kernel
theorem zy_M_writeGiven : zy y_M_writeGiven b_M_writeGiven 3 none 1 := ⟨zmem 1220 (by decide +kernel) (by decide +kernel), zmem 73 (by decide +kernel) (by decide +kernel), by decide +kernel⟩
theorem zv_M_writeGiven : Cond.instanceMethod y_M_writeGiven ∈ ztb ∧ Cond.selects y_M_writeGiven.cls y_M_writeGiven y_M_writeGiven ∈ ztb := ⟨zmem 1219 (by decide +kernel) (by decide +kernel), zmem 51 (by decide +kernel) (by decide +kernel)⟩
theorem d_M_writeGiven_0 : decode b_M_writeGiven 0 = .ok (.iconst 0, 1) := by decide +kernel
theorem d_M_writeGiven_1 : decode b_M_writeGiven 1 = .ok (.istore_n 2, 1) := by decide +kernel
theorem d_M_writeGiven_2 : decode b_M_writeGiven 2 = .ok (.iload_n 2, 1) := by decide +kernel
theorem d_M_writeGiven_3 : decode b_M_writeGiven 3 = .ok (.iload_n 1, 1) := by decide +kernel
theorem d_M_writeGiven_4 : decode b_M_writeGiven 4 = .ok (.if_icmp .ge 21, 3) := by decide +kernel
theorem d_M_writeGiven_7 : decode b_M_writeGiven 7 = .ok (.aload_n 0, 1) := by decide +kernel
theorem d_M_writeGiven_8 : decode b_M_writeGiven 8 = .ok (.aload_n 0, 1) := by decide +kernel
theorem d_M_writeGiven_9 : decode b_M_writeGiven 9 = .ok (.getfield 29, 3) := by decide +kernel
theorem d_M_writeGiven_12 : decode b_M_writeGiven 12 = .ok (.iload_n 2, 1) := by decide +kernel
theorem d_M_writeGiven_13 : decode b_M_writeGiven 13 = .ok (.baload, 1) := by decide +kernel
theorem d_M_writeGiven_14 : decode b_M_writeGiven 14 = .ok (.i2l, 1) := by decide +kernel
theorem d_M_writeGiven_15 : decode b_M_writeGiven 15 = .ok (.iconst 1, 1) := by decide +kernel
theorem d_M_writeGiven_16 : decode b_M_writeGiven 16 = .ok (.invokevirtual 66, 3) := by decide +kernel
theorem d_M_writeGiven_19 : decode b_M_writeGiven 19 = .ok (.iinc 2 1, 3) := by decide +kernel
theorem d_M_writeGiven_22 : decode b_M_writeGiven 22 = .ok (.goto (-20), 3) := by decide +kernel
theorem d_M_writeGiven_25 : decode b_M_writeGiven 25 = .ok (.return_, 1) := by decide +kernel
theorem zy_M_sizeOf : zy y_M_sizeOf b_M_sizeOf 5 (some .int) 1 := ⟨zmem 1208 (by decide +kernel) (by decide +kernel), zmem 73 (by decide +kernel) (by decide +kernel), by decide +kernel⟩
theorem zv_M_sizeOf : Cond.instanceMethod y_M_sizeOf ∈ ztb ∧ Cond.selects y_M_sizeOf.cls y_M_sizeOf y_M_sizeOf ∈ ztb := ⟨zmem 1207 (by decide +kernel) (by decide +kernel), zmem 48 (by decide +kernel) (by decide +kernel)⟩
theorem d_M_sizeOf_0 : decode b_M_sizeOf 0 = .ok (.iload_n 1, 1) := by decide +kernel
theorem d_M_sizeOf_1 : decode b_M_sizeOf 1 = .ok (.ifCond .ne 11, 3) := by decide +kernel
theorem d_M_sizeOf_4 : decode b_M_sizeOf 4 = .ok (.aload_n 0, 1) := by decide +kernel
theorem d_M_sizeOf_5 : decode b_M_sizeOf 5 = .ok (.getfield 26, 3) := by decide +kernel
theorem d_M_sizeOf_8 : decode b_M_sizeOf 8 = .ok (.iconst 0, 1) := by decide +kernel
theorem d_M_sizeOf_9 : decode b_M_sizeOf 9 = .ok (.laload, 1) := by decide +kernel
theorem d_M_sizeOf_10 : decode b_M_sizeOf 10 = .ok (.l2i, 1) := by decide +kernel
theorem d_M_sizeOf_11 : decode b_M_sizeOf 11 = .ok (.ireturn, 1) := by decide +kernel
theorem d_M_sizeOf_12 : decode b_M_sizeOf 12 = .ok (.iload_n 1, 1) := by decide +kernel
theorem d_M_sizeOf_13 : decode b_M_sizeOf 13 = .ok (.invokestatic 171, 3) := by decide +kernel
theorem d_M_sizeOf_16 : decode b_M_sizeOf 16 = .ok (.ifCond .eq 145, 3) := by decide +kernel
theorem d_M_sizeOf_19 : decode b_M_sizeOf 19 = .ok (.iconst 1, 1) := by decide +kernel
theorem d_M_sizeOf_20 : decode b_M_sizeOf 20 = .ok (.aload_n 0, 1) := by decide +kernel
theorem d_M_sizeOf_21 : decode b_M_sizeOf 21 = .ok (.getfield 35, 3) := by decide +kernel
theorem d_M_sizeOf_24 : decode b_M_sizeOf 24 = .ok (.iconst 0, 1) := by decide +kernel
theorem d_M_sizeOf_25 : decode b_M_sizeOf 25 = .ok (.laload, 1) := by decide +kernel
theorem d_M_sizeOf_26 : decode b_M_sizeOf 26 = .ok (.invokestatic 84, 3) := by decide +kernel
theorem d_M_sizeOf_29 : decode b_M_sizeOf 29 = .ok (.iadd, 1) := by decide +kernel
theorem d_M_sizeOf_30 : decode b_M_sizeOf 30 = .ok (.aload_n 0, 1) := by decide +kernel
theorem d_M_sizeOf_31 : decode b_M_sizeOf 31 = .ok (.getfield 26, 3) := by decide +kernel
theorem d_M_sizeOf_34 : decode b_M_sizeOf 34 = .ok (.iconst 1, 1) := by decide +kernel
theorem d_M_sizeOf_35 : decode b_M_sizeOf 35 = .ok (.laload, 1) := by decide +kernel
theorem d_M_sizeOf_36 : decode b_M_sizeOf 36 = .ok (.invokestatic 84, 3) := by decide +kernel
theorem d_M_sizeOf_39 : decode b_M_sizeOf 39 = .ok (.iadd, 1) := by decide +kernel
theorem d_M_sizeOf_40 : decode b_M_sizeOf 40 = .ok (.aload_n 0, 1) := by decide +kernel
theorem d_M_sizeOf_41 : decode b_M_sizeOf 41 = .ok (.getfield 214, 3) := by decide +kernel
theorem d_M_sizeOf_44 : decode b_M_sizeOf 44 = .ok (.i2l, 1) := by decide +kernel
theorem d_M_sizeOf_45 : decode b_M_sizeOf 45 = .ok (.lconst 1, 1) := by decide +kernel
theorem d_M_sizeOf_46 : decode b_M_sizeOf 46 = .ok (.lsub, 1) := by decide +kernel
theorem d_M_sizeOf_47 : decode b_M_sizeOf 47 = .ok (.invokestatic 84, 3) := by decide +kernel
theorem d_M_sizeOf_50 : decode b_M_sizeOf 50 = .ok (.iadd, 1) := by decide +kernel
theorem d_M_sizeOf_51 : decode b_M_sizeOf 51 = .ok (.aload_n 0, 1) := by decide +kernel
theorem d_M_sizeOf_52 : decode b_M_sizeOf 52 = .ok (.getfield 35, 3) := by decide +kernel
theorem d_M_sizeOf_55 : decode b_M_sizeOf 55 = .ok (.iconst 0, 1) := by decide +kernel
theorem d_M_sizeOf_56 : decode b_M_sizeOf 56 = .ok (.laload, 1) := by decide +kernel
theorem d_M_sizeOf_57 : decode b_M_sizeOf 57 = .ok (.aload_n 0, 1) := by decide +kernel
theorem d_M_sizeOf_58 : decode b_M_sizeOf 58 = .ok (.getfield 32, 3) := by decide +kernel
theorem d_M_sizeOf_61 : decode b_M_sizeOf 61 = .ok (.iconst 0, 1) := by decide +kernel
theorem d_M_sizeOf_62 : decode b_M_sizeOf 62 = .ok (.laload, 1) := by decide +kernel
theorem d_M_sizeOf_63 : decode b_M_sizeOf 63 = .ok (.lsub, 1) := by decide +kernel
theorem d_M_sizeOf_64 : decode b_M_sizeOf 64 = .ok (.invokestatic 84, 3) := by decide +kernel
theorem d_M_sizeOf_67 : decode b_M_sizeOf 67 = .ok (.iadd, 1) := by decide +kernel
theorem d_M_sizeOf_68 : decode b_M_sizeOf 68 = .ok (.istore_n 2, 1) := by decide +kernel
theorem d_M_sizeOf_69 : decode b_M_sizeOf 69 = .ok (.iconst 1, 1) := by decide +kernel
theorem d_M_sizeOf_70 : decode b_M_sizeOf 70 = .ok (.istore_n 3, 1) := by decide +kernel
theorem d_M_sizeOf_71 : decode b_M_sizeOf 71 = .ok (.iload_n 3, 1) := by decide +kernel
theorem d_M_sizeOf_72 : decode b_M_sizeOf 72 = .ok (.aload_n 0, 1) := by decide +kernel
theorem d_M_sizeOf_73 : decode b_M_sizeOf 73 = .ok (.getfield 214, 3) := by decide +kernel
theorem d_M_sizeOf_76 : decode b_M_sizeOf 76 = .ok (.if_icmp .ge 51, 3) := by decide +kernel
theorem d_M_sizeOf_79 : decode b_M_sizeOf 79 = .ok (.iload_n 2, 1) := by decide +kernel
theorem d_M_sizeOf_80 : decode b_M_sizeOf 80 = .ok (.aload_n 0, 1) := by decide +kernel
theorem d_M_sizeOf_81 : decode b_M_sizeOf 81 = .ok (.getfield 32, 3) := by decide +kernel
theorem d_M_sizeOf_84 : decode b_M_sizeOf 84 = .ok (.iload_n 3, 1) := by decide +kernel
theorem d_M_sizeOf_85 : decode b_M_sizeOf 85 = .ok (.iconst 1, 1) := by decide +kernel
theorem d_M_sizeOf_86 : decode b_M_sizeOf 86 = .ok (.isub, 1) := by decide +kernel
theorem d_M_sizeOf_87 : decode b_M_sizeOf 87 = .ok (.laload, 1) := by decide +kernel
theorem d_M_sizeOf_88 : decode b_M_sizeOf 88 = .ok (.aload_n 0, 1) := by decide +kernel
theorem d_M_sizeOf_89 : decode b_M_sizeOf 89 = .ok (.getfield 35, 3) := by decide +kernel
theorem d_M_sizeOf_92 : decode b_M_sizeOf 92 = .ok (.iload_n 3, 1) := by decide +kernel
theorem d_M_sizeOf_93 : decode b_M_sizeOf 93 = .ok (.laload, 1) := by decide +kernel
theorem d_M_sizeOf_94 : decode b_M_sizeOf 94 = .ok (.lsub, 1) := by decide +kernel
theorem d_M_sizeOf_95 : decode b_M_sizeOf 95 = .ok (.ldc2_w 76, 3) := by decide +kernel
theorem d_M_sizeOf_98 : decode b_M_sizeOf 98 = .ok (.lsub, 1) := by decide +kernel
theorem d_M_sizeOf_99 : decode b_M_sizeOf 99 = .ok (.invokestatic 84, 3) := by decide +kernel
theorem d_M_sizeOf_102 : decode b_M_sizeOf 102 = .ok (.aload_n 0, 1) := by decide +kernel
theorem d_M_sizeOf_103 : decode b_M_sizeOf 103 = .ok (.getfield 35, 3) := by decide +kernel
theorem d_M_sizeOf_106 : decode b_M_sizeOf 106 = .ok (.iload_n 3, 1) := by decide +kernel
theorem d_M_sizeOf_107 : decode b_M_sizeOf 107 = .ok (.laload, 1) := by decide +kernel
theorem d_M_sizeOf_108 : decode b_M_sizeOf 108 = .ok (.aload_n 0, 1) := by decide +kernel
theorem d_M_sizeOf_109 : decode b_M_sizeOf 109 = .ok (.getfield 32, 3) := by decide +kernel
theorem d_M_sizeOf_112 : decode b_M_sizeOf 112 = .ok (.iload_n 3, 1) := by decide +kernel
theorem d_M_sizeOf_113 : decode b_M_sizeOf 113 = .ok (.laload, 1) := by decide +kernel
theorem d_M_sizeOf_114 : decode b_M_sizeOf 114 = .ok (.lsub, 1) := by decide +kernel
theorem d_M_sizeOf_115 : decode b_M_sizeOf 115 = .ok (.invokestatic 84, 3) := by decide +kernel
theorem d_M_sizeOf_118 : decode b_M_sizeOf 118 = .ok (.iadd, 1) := by decide +kernel
theorem d_M_sizeOf_119 : decode b_M_sizeOf 119 = .ok (.iadd, 1) := by decide +kernel
theorem d_M_sizeOf_120 : decode b_M_sizeOf 120 = .ok (.istore_n 2, 1) := by decide +kernel
theorem d_M_sizeOf_121 : decode b_M_sizeOf 121 = .ok (.iinc 3 1, 3) := by decide +kernel
theorem d_M_sizeOf_124 : decode b_M_sizeOf 124 = .ok (.goto (-53), 3) := by decide +kernel
theorem d_M_sizeOf_127 : decode b_M_sizeOf 127 = .ok (.bipush 9, 2) := by decide +kernel
theorem d_M_sizeOf_129 : decode b_M_sizeOf 129 = .ok (.istore_n 3, 1) := by decide +kernel
theorem d_M_sizeOf_130 : decode b_M_sizeOf 130 = .ok (.iload_n 3, 1) := by decide +kernel
theorem d_M_sizeOf_131 : decode b_M_sizeOf 131 = .ok (.bipush 12, 2) := by decide +kernel
theorem d_M_sizeOf_133 : decode b_M_sizeOf 133 = .ok (.if_icmp .ge 26, 3) := by decide +kernel
theorem d_M_sizeOf_136 : decode b_M_sizeOf 136 = .ok (.iload_n 1, 1) := by decide +kernel
theorem d_M_sizeOf_137 : decode b_M_sizeOf 137 = .ok (.iconst 3, 1) := by decide +kernel
theorem d_M_sizeOf_138 : decode b_M_sizeOf 138 = .ok (.if_icmp .ne 21, 3) := by decide +kernel
theorem d_M_sizeOf_141 : decode b_M_sizeOf 141 = .ok (.iload_n 2, 1) := by decide +kernel
theorem d_M_sizeOf_142 : decode b_M_sizeOf 142 = .ok (.aload_n 0, 1) := by decide +kernel
theorem d_M_sizeOf_143 : decode b_M_sizeOf 143 = .ok (.getfield 26, 3) := by decide +kernel
theorem d_M_sizeOf_146 : decode b_M_sizeOf 146 = .ok (.iload_n 3, 1) := by decide +kernel
theorem d_M_sizeOf_147 : decode b_M_sizeOf 147 = .ok (.laload, 1) := by decide +kernel
theorem d_M_sizeOf_148 : decode b_M_sizeOf 148 = .ok (.invokestatic 84, 3) := by decide +kernel
theorem d_M_sizeOf_151 : decode b_M_sizeOf 151 = .ok (.iadd, 1) := by decide +kernel
theorem d_M_sizeOf_152 : decode b_M_sizeOf 152 = .ok (.istore_n 2, 1) := by decide +kernel
theorem d_M_sizeOf_153 : decode b_M_sizeOf 153 = .ok (.iinc 3 1, 3) := by decide +kernel
theorem d_M_sizeOf_156 : decode b_M_sizeOf 156 = .ok (.goto (-26), 3) := by decide +kernel
theorem d_M_sizeOf_159 : decode b_M_sizeOf 159 = .ok (.iload_n 2, 1) := by decide +kernel
theorem d_M_sizeOf_160 : decode b_M_sizeOf 160 = .ok (.ireturn, 1) := by decide +kernel
theorem d_M_sizeOf_161 : decode b_M_sizeOf 161 = .ok (.iload_n 1, 1) := by decide +kernel
theorem d_M_sizeOf_162 : decode b_M_sizeOf 162 = .ok (.bipush 8, 2) := by decide +kernel
theorem d_M_sizeOf_164 : decode b_M_sizeOf 164 = .ok (.if_icmp .ne 69, 3) := by decide +kernel
theorem d_M_sizeOf_167 : decode b_M_sizeOf 167 = .ok (.iconst 1, 1) := by decide +kernel
theorem d_M_sizeOf_168 : decode b_M_sizeOf 168 = .ok (.aload_n 0, 1) := by decide +kernel
theorem d_M_sizeOf_169 : decode b_M_sizeOf 169 = .ok (.getfield 26, 3) := by decide +kernel
theorem d_M_sizeOf_172 : decode b_M_sizeOf 172 = .ok (.iconst 0, 1) := by decide +kernel
theorem d_M_sizeOf_173 : decode b_M_sizeOf 173 = .ok (.laload, 1) := by decide +kernel
theorem d_M_sizeOf_174 : decode b_M_sizeOf 174 = .ok (.invokestatic 84, 3) := by decide +kernel
theorem d_M_sizeOf_177 : decode b_M_sizeOf 177 = .ok (.iadd, 1) := by decide +kernel
theorem d_M_sizeOf_178 : decode b_M_sizeOf 178 = .ok (.aload_n 0, 1) := by decide +kernel
theorem d_M_sizeOf_179 : decode b_M_sizeOf 179 = .ok (.getfield 26, 3) := by decide +kernel
theorem d_M_sizeOf_182 : decode b_M_sizeOf 182 = .ok (.iconst 1, 1) := by decide +kernel
theorem d_M_sizeOf_183 : decode b_M_sizeOf 183 = .ok (.laload, 1) := by decide +kernel
theorem d_M_sizeOf_184 : decode b_M_sizeOf 184 = .ok (.lconst 0, 1) := by decide +kernel
theorem d_M_sizeOf_185 : decode b_M_sizeOf 185 = .ok (.lcmp, 1) := by decide +kernel
theorem d_M_sizeOf_186 : decode b_M_sizeOf 186 = .ok (.ifCond .ne 7, 3) := by decide +kernel
theorem d_M_sizeOf_189 : decode b_M_sizeOf 189 = .ok (.iconst 0, 1) := by decide +kernel
theorem d_M_sizeOf_190 : decode b_M_sizeOf 190 = .ok (.goto 12, 3) := by decide +kernel
theorem d_M_sizeOf_193 : decode b_M_sizeOf 193 = .ok (.aload_n 0, 1) := by decide +kernel
theorem d_M_sizeOf_194 : decode b_M_sizeOf 194 = .ok (.getfield 26, 3) := by decide +kernel
theorem d_M_sizeOf_197 : decode b_M_sizeOf 197 = .ok (.iconst 1, 1) := by decide +kernel
theorem d_M_sizeOf_198 : decode b_M_sizeOf 198 = .ok (.laload, 1) := by decide +kernel
theorem d_M_sizeOf_199 : decode b_M_sizeOf 199 = .ok (.invokestatic 84, 3) := by decide +kernel
theorem d_M_sizeOf_202 : decode b_M_sizeOf 202 = .ok (.iadd, 1) := by decide +kernel
theorem d_M_sizeOf_203 : decode b_M_sizeOf 203 = .ok (.aload_n 0, 1) := by decide +kernel
theorem d_M_sizeOf_204 : decode b_M_sizeOf 204 = .ok (.getfield 26, 3) := by decide +kernel
theorem d_M_sizeOf_207 : decode b_M_sizeOf 207 = .ok (.iconst 3, 1) := by decide +kernel
theorem d_M_sizeOf_208 : decode b_M_sizeOf 208 = .ok (.laload, 1) := by decide +kernel
theorem d_M_sizeOf_209 : decode b_M_sizeOf 209 = .ok (.lconst 1, 1) := by decide +kernel
theorem d_M_sizeOf_210 : decode b_M_sizeOf 210 = .ok (.lcmp, 1) := by decide +kernel
theorem d_M_sizeOf_211 : decode b_M_sizeOf 211 = .ok (.ifCond .ne 14, 3) := by decide +kernel
theorem d_M_sizeOf_214 : decode b_M_sizeOf 214 = .ok (.aload_n 0, 1) := by decide +kernel
theorem d_M_sizeOf_215 : decode b_M_sizeOf 215 = .ok (.getfield 211, 3) := by decide +kernel
theorem d_M_sizeOf_218 : decode b_M_sizeOf 218 = .ok (.i2l, 1) := by decide +kernel
theorem d_M_sizeOf_219 : decode b_M_sizeOf 219 = .ok (.invokestatic 84, 3) := by decide +kernel
theorem d_M_sizeOf_222 : decode b_M_sizeOf 222 = .ok (.goto 4, 3) := by decide +kernel
theorem d_M_sizeOf_225 : decode b_M_sizeOf 225 = .ok (.iconst 0, 1) := by decide +kernel
theorem d_M_sizeOf_226 : decode b_M_sizeOf 226 = .ok (.iadd, 1) := by decide +kernel
theorem d_M_sizeOf_227 : decode b_M_sizeOf 227 = .ok (.aload_n 0, 1) := by decide +kernel
theorem d_M_sizeOf_228 : decode b_M_sizeOf 228 = .ok (.getfield 211, 3) := by decide +kernel
theorem d_M_sizeOf_231 : decode b_M_sizeOf 231 = .ok (.iadd, 1) := by decide +kernel
theorem d_M_sizeOf_232 : decode b_M_sizeOf 232 = .ok (.ireturn, 1) := by decide +kernel
theorem d_M_sizeOf_233 : decode b_M_sizeOf 233 = .ok (.iconst 1, 1) := by decide +kernel
theorem d_M_sizeOf_234 : decode b_M_sizeOf 234 = .ok (.istore_n 2, 1) := by decide +kernel
theorem d_M_sizeOf_235 : decode b_M_sizeOf 235 = .ok (.iload_n 1, 1) := by decide +kernel
theorem d_M_sizeOf_236 : decode b_M_sizeOf 236 = .ok (.invokestatic 134, 3) := by decide +kernel
theorem d_M_sizeOf_239 : decode b_M_sizeOf 239 = .ok (.istore_n 3, 1) := by decide +kernel
theorem d_M_sizeOf_240 : decode b_M_sizeOf 240 = .ok (.iload_n 3, 1) := by decide +kernel
theorem d_M_sizeOf_241 : decode b_M_sizeOf 241 = .ok (.ifCond .le 65, 3) := by decide +kernel
theorem d_M_sizeOf_244 : decode b_M_sizeOf 244 = .ok (.iload_n 3, 1) := by decide +kernel
theorem d_M_sizeOf_245 : decode b_M_sizeOf 245 = .ok (.bipush 10, 2) := by decide +kernel
theorem d_M_sizeOf_247 : decode b_M_sizeOf 247 = .ok (.irem, 1) := by decide +kernel
theorem d_M_sizeOf_248 : decode b_M_sizeOf 248 = .ok (.istore 4, 2) := by decide +kernel
theorem d_M_sizeOf_250 : decode b_M_sizeOf 250 = .ok (.iload_n 2, 1) := by decide +kernel
theorem d_M_sizeOf_251 : decode b_M_sizeOf 251 = .ok (.iload 4, 2) := by decide +kernel
theorem d_M_sizeOf_253 : decode b_M_sizeOf 253 = .ok (.iconst 5, 1) := by decide +kernel
theorem d_M_sizeOf_254 : decode b_M_sizeOf 254 = .ok (.if_icmp .ne 8, 3) := by decide +kernel
theorem d_M_sizeOf_257 : decode b_M_sizeOf 257 = .ok (.bipush 8, 2) := by decide +kernel
theorem d_M_sizeOf_259 : decode b_M_sizeOf 259 = .ok (.goto 37, 3) := by decide +kernel
theorem d_M_sizeOf_262 : decode b_M_sizeOf 262 = .ok (.iload 4, 2) := by decide +kernel
theorem d_M_sizeOf_264 : decode b_M_sizeOf 264 = .ok (.iconst 4, 1) := by decide +kernel
theorem d_M_sizeOf_265 : decode b_M_sizeOf 265 = .ok (.if_icmp .ne 19, 3) := by decide +kernel
theorem d_M_sizeOf_268 : decode b_M_sizeOf 268 = .ok (.aload_n 0, 1) := by decide +kernel
theorem d_M_sizeOf_269 : decode b_M_sizeOf 269 = .ok (.getfield 211, 3) := by decide +kernel
theorem d_M_sizeOf_272 : decode b_M_sizeOf 272 = .ok (.i2l, 1) := by decide +kernel
theorem d_M_sizeOf_273 : decode b_M_sizeOf 273 = .ok (.invokestatic 84, 3) := by decide +kernel
theorem d_M_sizeOf_276 : decode b_M_sizeOf 276 = .ok (.aload_n 0, 1) := by decide +kernel
theorem d_M_sizeOf_277 : decode b_M_sizeOf 277 = .ok (.getfield 211, 3) := by decide +kernel
theorem d_M_sizeOf_280 : decode b_M_sizeOf 280 = .ok (.iadd, 1) := by decide +kernel
theorem d_M_sizeOf_281 : decode b_M_sizeOf 281 = .ok (.goto 15, 3) := by decide +kernel
theorem d_M_sizeOf_284 : decode b_M_sizeOf 284 = .ok (.aload_n 0, 1) := by decide +kernel
theorem d_M_sizeOf_285 : decode b_M_sizeOf 285 = .ok (.getfield 26, 3) := by decide +kernel
theorem d_M_sizeOf_288 : decode b_M_sizeOf 288 = .ok (.iload 4, 2) := by decide +kernel
theorem d_M_sizeOf_290 : decode b_M_sizeOf 290 = .ok (.iconst 1, 1) := by decide +kernel
theorem d_M_sizeOf_291 : decode b_M_sizeOf 291 = .ok (.isub, 1) := by decide +kernel
theorem d_M_sizeOf_292 : decode b_M_sizeOf 292 = .ok (.laload, 1) := by decide +kernel
theorem d_M_sizeOf_293 : decode b_M_sizeOf 293 = .ok (.invokestatic 84, 3) := by decide +kernel
theorem d_M_sizeOf_296 : decode b_M_sizeOf 296 = .ok (.iadd, 1) := by decide +kernel
theorem d_M_sizeOf_297 : decode b_M_sizeOf 297 = .ok (.istore_n 2, 1) := by decide +kernel
theorem d_M_sizeOf_298 : decode b_M_sizeOf 298 = .ok (.iload_n 3, 1) := by decide +kernel
theorem d_M_sizeOf_299 : decode b_M_sizeOf 299 = .ok (.bipush 10, 2) := by decide +kernel
theorem d_M_sizeOf_301 : decode b_M_sizeOf 301 = .ok (.idiv, 1) := by decide +kernel
theorem d_M_sizeOf_302 : decode b_M_sizeOf 302 = .ok (.istore_n 3, 1) := by decide +kernel
theorem d_M_sizeOf_303 : decode b_M_sizeOf 303 = .ok (.goto (-63), 3) := by decide +kernel
theorem d_M_sizeOf_306 : decode b_M_sizeOf 306 = .ok (.iload_n 1, 1) := by decide +kernel
theorem d_M_sizeOf_307 : decode b_M_sizeOf 307 = .ok (.bipush 24, 2) := by decide +kernel
theorem d_M_sizeOf_309 : decode b_M_sizeOf 309 = .ok (.if_icmp .ne 14, 3) := by decide +kernel
theorem d_M_sizeOf_312 : decode b_M_sizeOf 312 = .ok (.iload_n 2, 1) := by decide +kernel
theorem d_M_sizeOf_313 : decode b_M_sizeOf 313 = .ok (.iconst 1, 1) := by decide +kernel
theorem d_M_sizeOf_314 : decode b_M_sizeOf 314 = .ok (.iadd, 1) := by decide +kernel
theorem d_M_sizeOf_315 : decode b_M_sizeOf 315 = .ok (.aload_n 0, 1) := by decide +kernel
theorem d_M_sizeOf_316 : decode b_M_sizeOf 316 = .ok (.getfield 211, 3) := by decide +kernel
theorem d_M_sizeOf_319 : decode b_M_sizeOf 319 = .ok (.iadd, 1) := by decide +kernel
theorem d_M_sizeOf_320 : decode b_M_sizeOf 320 = .ok (.goto 4, 3) := by decide +kernel
theorem d_M_sizeOf_323 : decode b_M_sizeOf 323 = .ok (.iload_n 2, 1) := by decide +kernel
theorem d_M_sizeOf_324 : decode b_M_sizeOf 324 = .ok (.ireturn, 1) := by decide +kernel
theorem zy_M_writeAck : zy y_M_writeAck b_M_writeAck 7 none 1 := ⟨zmem 1212 (by decide +kernel) (by decide +kernel), zmem 73 (by decide +kernel) (by decide +kernel), by decide +kernel⟩
theorem zv_M_writeAck : Cond.instanceMethod y_M_writeAck ∈ ztb ∧ Cond.selects y_M_writeAck.cls y_M_writeAck y_M_writeAck ∈ ztb := ⟨zmem 1211 (by decide +kernel) (by decide +kernel), zmem 49 (by decide +kernel) (by decide +kernel)⟩
theorem d_M_writeAck_0 : decode b_M_writeAck 0 = .ok (.aload_n 0, 1) := by decide +kernel
theorem d_M_writeAck_1 : decode b_M_writeAck 1 = .ok (.aload_n 0, 1) := by decide +kernel
theorem d_M_writeAck_2 : decode b_M_writeAck 2 = .ok (.getfield 35, 3) := by decide +kernel
theorem d_M_writeAck_5 : decode b_M_writeAck 5 = .ok (.iconst 0, 1) := by decide +kernel
theorem d_M_writeAck_6 : decode b_M_writeAck 6 = .ok (.laload, 1) := by decide +kernel
theorem d_M_writeAck_7 : decode b_M_writeAck 7 = .ok (.aload_n 0, 1) := by decide +kernel
theorem d_M_writeAck_8 : decode b_M_writeAck 8 = .ok (.getfield 35, 3) := by decide +kernel
theorem d_M_writeAck_11 : decode b_M_writeAck 11 = .ok (.iconst 0, 1) := by decide +kernel
theorem d_M_writeAck_12 : decode b_M_writeAck 12 = .ok (.laload, 1) := by decide +kernel
theorem d_M_writeAck_13 : decode b_M_writeAck 13 = .ok (.invokestatic 84, 3) := by decide +kernel
theorem d_M_writeAck_16 : decode b_M_writeAck 16 = .ok (.invokevirtual 88, 3) := by decide +kernel
theorem d_M_writeAck_19 : decode b_M_writeAck 19 = .ok (.aload_n 0, 1) := by decide +kernel
theorem d_M_writeAck_20 : decode b_M_writeAck 20 = .ok (.aload_n 0, 1) := by decide +kernel
theorem d_M_writeAck_21 : decode b_M_writeAck 21 = .ok (.getfield 26, 3) := by decide +kernel
theorem d_M_writeAck_24 : decode b_M_writeAck 24 = .ok (.iconst 1, 1) := by decide +kernel
theorem d_M_writeAck_25 : decode b_M_writeAck 25 = .ok (.laload, 1) := by decide +kernel
theorem d_M_writeAck_26 : decode b_M_writeAck 26 = .ok (.aload_n 0, 1) := by decide +kernel
theorem d_M_writeAck_27 : decode b_M_writeAck 27 = .ok (.getfield 26, 3) := by decide +kernel
theorem d_M_writeAck_30 : decode b_M_writeAck 30 = .ok (.iconst 1, 1) := by decide +kernel
theorem d_M_writeAck_31 : decode b_M_writeAck 31 = .ok (.laload, 1) := by decide +kernel
theorem d_M_writeAck_32 : decode b_M_writeAck 32 = .ok (.invokestatic 84, 3) := by decide +kernel
theorem d_M_writeAck_35 : decode b_M_writeAck 35 = .ok (.invokevirtual 88, 3) := by decide +kernel
theorem d_M_writeAck_38 : decode b_M_writeAck 38 = .ok (.aload_n 0, 1) := by decide +kernel
theorem d_M_writeAck_39 : decode b_M_writeAck 39 = .ok (.aload_n 0, 1) := by decide +kernel
theorem d_M_writeAck_40 : decode b_M_writeAck 40 = .ok (.getfield 214, 3) := by decide +kernel
theorem d_M_writeAck_43 : decode b_M_writeAck 43 = .ok (.i2l, 1) := by decide +kernel
theorem d_M_writeAck_44 : decode b_M_writeAck 44 = .ok (.lconst 1, 1) := by decide +kernel
theorem d_M_writeAck_45 : decode b_M_writeAck 45 = .ok (.lsub, 1) := by decide +kernel
theorem d_M_writeAck_46 : decode b_M_writeAck 46 = .ok (.aload_n 0, 1) := by decide +kernel
theorem d_M_writeAck_47 : decode b_M_writeAck 47 = .ok (.getfield 214, 3) := by decide +kernel
theorem d_M_writeAck_50 : decode b_M_writeAck 50 = .ok (.i2l, 1) := by decide +kernel
theorem d_M_writeAck_51 : decode b_M_writeAck 51 = .ok (.lconst 1, 1) := by decide +kernel
theorem d_M_writeAck_52 : decode b_M_writeAck 52 = .ok (.lsub, 1) := by decide +kernel
theorem d_M_writeAck_53 : decode b_M_writeAck 53 = .ok (.invokestatic 84, 3) := by decide +kernel
theorem d_M_writeAck_56 : decode b_M_writeAck 56 = .ok (.invokevirtual 88, 3) := by decide +kernel
theorem d_M_writeAck_59 : decode b_M_writeAck 59 = .ok (.iconst 0, 1) := by decide +kernel
theorem d_M_writeAck_60 : decode b_M_writeAck 60 = .ok (.istore_n 2, 1) := by decide +kernel
theorem d_M_writeAck_61 : decode b_M_writeAck 61 = .ok (.iload_n 2, 1) := by decide +kernel
theorem d_M_writeAck_62 : decode b_M_writeAck 62 = .ok (.aload_n 0, 1) := by decide +kernel
theorem d_M_writeAck_63 : decode b_M_writeAck 63 = .ok (.getfield 214, 3) := by decide +kernel
theorem d_M_writeAck_66 : decode b_M_writeAck 66 = .ok (.if_icmp .ge 76, 3) := by decide +kernel
theorem d_M_writeAck_69 : decode b_M_writeAck 69 = .ok (.iload_n 2, 1) := by decide +kernel
theorem d_M_writeAck_70 : decode b_M_writeAck 70 = .ok (.ifCond .ne 7, 3) := by decide +kernel
theorem d_M_writeAck_73 : decode b_M_writeAck 73 = .ok (.lconst 0, 1) := by decide +kernel
theorem d_M_writeAck_74 : decode b_M_writeAck 74 = .ok (.goto 22, 3) := by decide +kernel
theorem d_M_writeAck_77 : decode b_M_writeAck 77 = .ok (.aload_n 0, 1) := by decide +kernel
theorem d_M_writeAck_78 : decode b_M_writeAck 78 = .ok (.getfield 32, 3) := by decide +kernel
theorem d_M_writeAck_81 : decode b_M_writeAck 81 = .ok (.iload_n 2, 1) := by decide +kernel
theorem d_M_writeAck_82 : decode b_M_writeAck 82 = .ok (.iconst 1, 1) := by decide +kernel
theorem d_M_writeAck_83 : decode b_M_writeAck 83 = .ok (.isub, 1) := by decide +kernel
theorem d_M_writeAck_84 : decode b_M_writeAck 84 = .ok (.laload, 1) := by decide +kernel
theorem d_M_writeAck_85 : decode b_M_writeAck 85 = .ok (.aload_n 0, 1) := by decide +kernel
theorem d_M_writeAck_86 : decode b_M_writeAck 86 = .ok (.getfield 35, 3) := by decide +kernel
theorem d_M_writeAck_89 : decode b_M_writeAck 89 = .ok (.iload_n 2, 1) := by decide +kernel
theorem d_M_writeAck_90 : decode b_M_writeAck 90 = .ok (.laload, 1) := by decide +kernel
theorem d_M_writeAck_91 : decode b_M_writeAck 91 = .ok (.lsub, 1) := by decide +kernel
theorem d_M_writeAck_92 : decode b_M_writeAck 92 = .ok (.ldc2_w 76, 3) := by decide +kernel
theorem d_M_writeAck_95 : decode b_M_writeAck 95 = .ok (.lsub, 1) := by decide +kernel
theorem d_M_writeAck_96 : decode b_M_writeAck 96 = .ok (.lstore_n 3, 1) := by decide +kernel
theorem d_M_writeAck_97 : decode b_M_writeAck 97 = .ok (.iload_n 2, 1) := by decide +kernel
theorem d_M_writeAck_98 : decode b_M_writeAck 98 = .ok (.ifCond .le 12, 3) := by decide +kernel
theorem d_M_writeAck_101 : decode b_M_writeAck 101 = .ok (.aload_n 0, 1) := by decide +kernel
theorem d_M_writeAck_102 : decode b_M_writeAck 102 = .ok (.lload_n 3, 1) := by decide +kernel
theorem d_M_writeAck_103 : decode b_M_writeAck 103 = .ok (.lload_n 3, 1) := by decide +kernel
theorem d_M_writeAck_104 : decode b_M_writeAck 104 = .ok (.invokestatic 84, 3) := by decide +kernel
theorem d_M_writeAck_107 : decode b_M_writeAck 107 = .ok (.invokevirtual 88, 3) := by decide +kernel
theorem d_M_writeAck_110 : decode b_M_writeAck 110 = .ok (.aload_n 0, 1) := by decide +kernel
theorem d_M_writeAck_111 : decode b_M_writeAck 111 = .ok (.getfield 35, 3) := by decide +kernel
theorem d_M_writeAck_114 : decode b_M_writeAck 114 = .ok (.iload_n 2, 1) := by decide +kernel
theorem d_M_writeAck_115 : decode b_M_writeAck 115 = .ok (.laload, 1) := by decide +kernel
theorem d_M_writeAck_116 : decode b_M_writeAck 116 = .ok (.aload_n 0, 1) := by decide +kernel
theorem d_M_writeAck_117 : decode b_M_writeAck 117 = .ok (.getfield 32, 3) := by decide +kernel
theorem d_M_writeAck_120 : decode b_M_writeAck 120 = .ok (.iload_n 2, 1) := by decide +kernel
theorem d_M_writeAck_121 : decode b_M_writeAck 121 = .ok (.laload, 1) := by decide +kernel
theorem d_M_writeAck_122 : decode b_M_writeAck 122 = .ok (.lsub, 1) := by decide +kernel
theorem d_M_writeAck_123 : decode b_M_writeAck 123 = .ok (.lstore 5, 2) := by decide +kernel
theorem d_M_writeAck_125 : decode b_M_writeAck 125 = .ok (.aload_n 0, 1) := by decide +kernel
theorem d_M_writeAck_126 : decode b_M_writeAck 126 = .ok (.lload 5, 2) := by decide +kernel
theorem d_M_writeAck_128 : decode b_M_writeAck 128 = .ok (.lload 5, 2) := by decide +kernel
theorem d_M_writeAck_130 : decode b_M_writeAck 130 = .ok (.invokestatic 84, 3) := by decide +kernel
theorem d_M_writeAck_133 : decode b_M_writeAck 133 = .ok (.invokevirtual 88, 3) := by decide +kernel
theorem d_M_writeAck_136 : decode b_M_writeAck 136 = .ok (.iinc 2 1, 3) := by decide +kernel
theorem d_M_writeAck_139 : decode b_M_writeAck 139 = .ok (.goto (-78), 3) := by decide +kernel
theorem d_M_writeAck_142 : decode b_M_writeAck 142 = .ok (.bipush 9, 2) := by decide +kernel
theorem d_M_writeAck_144 : decode b_M_writeAck 144 = .ok (.istore_n 2, 1) := by decide +kernel
theorem d_M_writeAck_145 : decode b_M_writeAck 145 = .ok (.iload_n 2, 1) := by decide +kernel
theorem d_M_writeAck_146 : decode b_M_writeAck 146 = .ok (.bipush 12, 2) := by decide +kernel
theorem d_M_writeAck_148 : decode b_M_writeAck 148 = .ok (.if_icmp .ge 33, 3) := by decide +kernel
theorem d_M_writeAck_151 : decode b_M_writeAck 151 = .ok (.iload_n 1, 1) := by decide +kernel
theorem d_M_writeAck_152 : decode b_M_writeAck 152 = .ok (.iconst 3, 1) := by decide +kernel
theorem d_M_writeAck_153 : decode b_M_writeAck 153 = .ok (.if_icmp .ne 28, 3) := by decide +kernel
theorem d_M_writeAck_156 : decode b_M_writeAck 156 = .ok (.aload_n 0, 1) := by decide +kernel
theorem d_M_writeAck_157 : decode b_M_writeAck 157 = .ok (.aload_n 0, 1) := by decide +kernel
theorem d_M_writeAck_158 : decode b_M_writeAck 158 = .ok (.getfield 26, 3) := by decide +kernel
theorem d_M_writeAck_161 : decode b_M_writeAck 161 = .ok (.iload_n 2, 1) := by decide +kernel
theorem d_M_writeAck_162 : decode b_M_writeAck 162 = .ok (.laload, 1) := by decide +kernel
theorem d_M_writeAck_163 : decode b_M_writeAck 163 = .ok (.aload_n 0, 1) := by decide +kernel
theorem d_M_writeAck_164 : decode b_M_writeAck 164 = .ok (.getfield 26, 3) := by decide +kernel
theorem d_M_writeAck_167 : decode b_M_writeAck 167 = .ok (.iload_n 2, 1) := by decide +kernel
theorem d_M_writeAck_168 : decode b_M_writeAck 168 = .ok (.laload, 1) := by decide +kernel
theorem d_M_writeAck_169 : decode b_M_writeAck 169 = .ok (.invokestatic 84, 3) := by decide +kernel
theorem d_M_writeAck_172 : decode b_M_writeAck 172 = .ok (.invokevirtual 88, 3) := by decide +kernel
theorem d_M_writeAck_175 : decode b_M_writeAck 175 = .ok (.iinc 2 1, 3) := by decide +kernel
theorem d_M_writeAck_178 : decode b_M_writeAck 178 = .ok (.goto (-33), 3) := by decide +kernel
theorem d_M_writeAck_181 : decode b_M_writeAck 181 = .ok (.return_, 1) := by decide +kernel
theorem zy_M_writeStream : zy y_M_writeStream b_M_writeStream 1 none 0 := ⟨zmem 1216 (by decide +kernel) (by decide +kernel), zmem 73 (by decide +kernel) (by decide +kernel), by decide +kernel⟩
theorem zv_M_writeStream : Cond.instanceMethod y_M_writeStream ∈ ztb ∧ Cond.selects y_M_writeStream.cls y_M_writeStream y_M_writeStream ∈ ztb := ⟨zmem 1215 (by decide +kernel) (by decide +kernel), zmem 50 (by decide +kernel) (by decide +kernel)⟩
theorem d_M_writeStream_0 : decode b_M_writeStream 0 = .ok (.aload_n 0, 1) := by decide +kernel
theorem d_M_writeStream_1 : decode b_M_writeStream 1 = .ok (.aload_n 0, 1) := by decide +kernel
theorem d_M_writeStream_2 : decode b_M_writeStream 2 = .ok (.getfield 26, 3) := by decide +kernel
theorem d_M_writeStream_5 : decode b_M_writeStream 5 = .ok (.iconst 0, 1) := by decide +kernel
theorem d_M_writeStream_6 : decode b_M_writeStream 6 = .ok (.laload, 1) := by decide +kernel
theorem d_M_writeStream_7 : decode b_M_writeStream 7 = .ok (.aload_n 0, 1) := by decide +kernel
theorem d_M_writeStream_8 : decode b_M_writeStream 8 = .ok (.getfield 26, 3) := by decide +kernel
theorem d_M_writeStream_11 : decode b_M_writeStream 11 = .ok (.iconst 0, 1) := by decide +kernel
theorem d_M_writeStream_12 : decode b_M_writeStream 12 = .ok (.laload, 1) := by decide +kernel
theorem d_M_writeStream_13 : decode b_M_writeStream 13 = .ok (.invokestatic 84, 3) := by decide +kernel
theorem d_M_writeStream_16 : decode b_M_writeStream 16 = .ok (.invokevirtual 88, 3) := by decide +kernel
theorem d_M_writeStream_19 : decode b_M_writeStream 19 = .ok (.aload_n 0, 1) := by decide +kernel
theorem d_M_writeStream_20 : decode b_M_writeStream 20 = .ok (.getfield 26, 3) := by decide +kernel
theorem d_M_writeStream_23 : decode b_M_writeStream 23 = .ok (.iconst 1, 1) := by decide +kernel
theorem d_M_writeStream_24 : decode b_M_writeStream 24 = .ok (.laload, 1) := by decide +kernel
theorem d_M_writeStream_25 : decode b_M_writeStream 25 = .ok (.lconst 0, 1) := by decide +kernel
theorem d_M_writeStream_26 : decode b_M_writeStream 26 = .ok (.lcmp, 1) := by decide +kernel
theorem d_M_writeStream_27 : decode b_M_writeStream 27 = .ok (.ifCond .eq 22, 3) := by decide +kernel
theorem d_M_writeStream_30 : decode b_M_writeStream 30 = .ok (.aload_n 0, 1) := by decide +kernel
theorem d_M_writeStream_31 : decode b_M_writeStream 31 = .ok (.aload_n 0, 1) := by decide +kernel
theorem d_M_writeStream_32 : decode b_M_writeStream 32 = .ok (.getfield 26, 3) := by decide +kernel
theorem d_M_writeStream_35 : decode b_M_writeStream 35 = .ok (.iconst 1, 1) := by decide +kernel
theorem d_M_writeStream_36 : decode b_M_writeStream 36 = .ok (.laload, 1) := by decide +kernel
theorem d_M_writeStream_37 : decode b_M_writeStream 37 = .ok (.aload_n 0, 1) := by decide +kernel
theorem d_M_writeStream_38 : decode b_M_writeStream 38 = .ok (.getfield 26, 3) := by decide +kernel
theorem d_M_writeStream_41 : decode b_M_writeStream 41 = .ok (.iconst 1, 1) := by decide +kernel
theorem d_M_writeStream_42 : decode b_M_writeStream 42 = .ok (.laload, 1) := by decide +kernel
theorem d_M_writeStream_43 : decode b_M_writeStream 43 = .ok (.invokestatic 84, 3) := by decide +kernel
theorem d_M_writeStream_46 : decode b_M_writeStream 46 = .ok (.invokevirtual 88, 3) := by decide +kernel
theorem d_M_writeStream_49 : decode b_M_writeStream 49 = .ok (.aload_n 0, 1) := by decide +kernel
theorem d_M_writeStream_50 : decode b_M_writeStream 50 = .ok (.getfield 26, 3) := by decide +kernel
theorem d_M_writeStream_53 : decode b_M_writeStream 53 = .ok (.iconst 3, 1) := by decide +kernel
theorem d_M_writeStream_54 : decode b_M_writeStream 54 = .ok (.laload, 1) := by decide +kernel
theorem d_M_writeStream_55 : decode b_M_writeStream 55 = .ok (.lconst 1, 1) := by decide +kernel
theorem d_M_writeStream_56 : decode b_M_writeStream 56 = .ok (.lcmp, 1) := by decide +kernel
theorem d_M_writeStream_57 : decode b_M_writeStream 57 = .ok (.ifCond .ne 20, 3) := by decide +kernel
theorem d_M_writeStream_60 : decode b_M_writeStream 60 = .ok (.aload_n 0, 1) := by decide +kernel
theorem d_M_writeStream_61 : decode b_M_writeStream 61 = .ok (.aload_n 0, 1) := by decide +kernel
theorem d_M_writeStream_62 : decode b_M_writeStream 62 = .ok (.getfield 211, 3) := by decide +kernel
theorem d_M_writeStream_65 : decode b_M_writeStream 65 = .ok (.i2l, 1) := by decide +kernel
theorem d_M_writeStream_66 : decode b_M_writeStream 66 = .ok (.aload_n 0, 1) := by decide +kernel
theorem d_M_writeStream_67 : decode b_M_writeStream 67 = .ok (.getfield 211, 3) := by decide +kernel
theorem d_M_writeStream_70 : decode b_M_writeStream 70 = .ok (.i2l, 1) := by decide +kernel
theorem d_M_writeStream_71 : decode b_M_writeStream 71 = .ok (.invokestatic 84, 3) := by decide +kernel
theorem d_M_writeStream_74 : decode b_M_writeStream 74 = .ok (.invokevirtual 88, 3) := by decide +kernel
theorem d_M_writeStream_77 : decode b_M_writeStream 77 = .ok (.aload_n 0, 1) := by decide +kernel
theorem d_M_writeStream_78 : decode b_M_writeStream 78 = .ok (.aload_n 0, 1) := by decide +kernel
theorem d_M_writeStream_79 : decode b_M_writeStream 79 = .ok (.getfield 211, 3) := by decide +kernel
theorem d_M_writeStream_82 : decode b_M_writeStream 82 = .ok (.invokevirtual 225, 3) := by decide +kernel
theorem d_M_writeStream_85 : decode b_M_writeStream 85 = .ok (.return_, 1) := by decide +kernel
theorem zy_M_writeFields : zy y_M_writeFields b_M_writeFields 4 none 1 := ⟨zmem 1224 (by decide +kernel) (by decide +kernel), zmem 73 (by decide +kernel) (by decide +kernel), by decide +kernel⟩
theorem zv_M_writeFields : Cond.instanceMethod y_M_writeFields ∈ ztb ∧ Cond.selects y_M_writeFields.cls y_M_writeFields y_M_writeFields ∈ ztb := ⟨zmem 1223 (by decide +kernel) (by decide +kernel), zmem 52 (by decide +kernel) (by decide +kernel)⟩
theorem d_M_writeFields_0 : decode b_M_writeFields 0 = .ok (.iload_n 1, 1) := by decide +kernel
theorem d_M_writeFields_1 : decode b_M_writeFields 1 = .ok (.invokestatic 134, 3) := by decide +kernel
theorem d_M_writeFields_4 : decode b_M_writeFields 4 = .ok (.istore_n 2, 1) := by decide +kernel
theorem d_M_writeFields_5 : decode b_M_writeFields 5 = .ok (.iload_n 2, 1) := by decide +kernel
theorem d_M_writeFields_6 : decode b_M_writeFields 6 = .ok (.ifCond .le 92, 3) := by decide +kernel
theorem d_M_writeFields_9 : decode b_M_writeFields 9 = .ok (.iload_n 2, 1) := by decide +kernel
theorem d_M_writeFields_10 : decode b_M_writeFields 10 = .ok (.bipush 10, 2) := by decide +kernel
theorem d_M_writeFields_12 : decode b_M_writeFields 12 = .ok (.irem, 1) := by decide +kernel
theorem d_M_writeFields_13 : decode b_M_writeFields 13 = .ok (.istore_n 3, 1) := by decide +kernel
theorem d_M_writeFields_14 : decode b_M_writeFields 14 = .ok (.iload_n 3, 1) := by decide +kernel
theorem d_M_writeFields_15 : decode b_M_writeFields 15 = .ok (.iconst 5, 1) := by decide +kernel
theorem d_M_writeFields_16 : decode b_M_writeFields 16 = .ok (.if_icmp .ne 18, 3) := by decide +kernel
theorem d_M_writeFields_19 : decode b_M_writeFields 19 = .ok (.aload_n 0, 1) := by decide +kernel
theorem d_M_writeFields_20 : decode b_M_writeFields 20 = .ok (.aload_n 0, 1) := by decide +kernel
theorem d_M_writeFields_21 : decode b_M_writeFields 21 = .ok (.getfield 26, 3) := by decide +kernel
theorem d_M_writeFields_24 : decode b_M_writeFields 24 = .ok (.iconst 0, 1) := by decide +kernel
theorem d_M_writeFields_25 : decode b_M_writeFields 25 = .ok (.laload, 1) := by decide +kernel
theorem d_M_writeFields_26 : decode b_M_writeFields 26 = .ok (.bipush 8, 2) := by decide +kernel
theorem d_M_writeFields_28 : decode b_M_writeFields 28 = .ok (.invokevirtual 66, 3) := by decide +kernel
theorem d_M_writeFields_31 : decode b_M_writeFields 31 = .ok (.goto 59, 3) := by decide +kernel
theorem d_M_writeFields_34 : decode b_M_writeFields 34 = .ok (.iload_n 3, 1) := by decide +kernel
theorem d_M_writeFields_35 : decode b_M_writeFields 35 = .ok (.iconst 4, 1) := by decide +kernel
theorem d_M_writeFields_36 : decode b_M_writeFields 36 = .ok (.if_icmp .ne 31, 3) := by decide +kernel
theorem d_M_writeFields_39 : decode b_M_writeFields 39 = .ok (.aload_n 0, 1) := by decide +kernel
theorem d_M_writeFields_40 : decode b_M_writeFields 40 = .ok (.aload_n 0, 1) := by decide +kernel
theorem d_M_writeFields_41 : decode b_M_writeFields 41 = .ok (.getfield 211, 3) := by decide +kernel
theorem d_M_writeFields_44 : decode b_M_writeFields 44 = .ok (.i2l, 1) := by decide +kernel
theorem d_M_writeFields_45 : decode b_M_writeFields 45 = .ok (.aload_n 0, 1) := by decide +kernel
theorem d_M_writeFields_46 : decode b_M_writeFields 46 = .ok (.getfield 211, 3) := by decide +kernel
theorem d_M_writeFields_49 : decode b_M_writeFields 49 = .ok (.i2l, 1) := by decide +kernel
theorem d_M_writeFields_50 : decode b_M_writeFields 50 = .ok (.invokestatic 84, 3) := by decide +kernel
theorem d_M_writeFields_53 : decode b_M_writeFields 53 = .ok (.invokevirtual 88, 3) := by decide +kernel
theorem d_M_writeFields_56 : decode b_M_writeFields 56 = .ok (.aload_n 0, 1) := by decide +kernel
theorem d_M_writeFields_57 : decode b_M_writeFields 57 = .ok (.aload_n 0, 1) := by decide +kernel
theorem d_M_writeFields_58 : decode b_M_writeFields 58 = .ok (.getfield 211, 3) := by decide +kernel
theorem d_M_writeFields_61 : decode b_M_writeFields 61 = .ok (.invokevirtual 225, 3) := by decide +kernel
theorem d_M_writeFields_64 : decode b_M_writeFields 64 = .ok (.goto 26, 3) := by decide +kernel
theorem d_M_writeFields_67 : decode b_M_writeFields 67 = .ok (.aload_n 0, 1) := by decide +kernel
theorem d_M_writeFields_68 : decode b_M_writeFields 68 = .ok (.aload_n 0, 1) := by decide +kernel
theorem d_M_writeFields_69 : decode b_M_writeFields 69 = .ok (.getfield 26, 3) := by decide +kernel
theorem d_M_writeFields_72 : decode b_M_writeFields 72 = .ok (.iload_n 3, 1) := by decide +kernel
theorem d_M_writeFields_73 : decode b_M_writeFields 73 = .ok (.iconst 1, 1) := by decide +kernel
theorem d_M_writeFields_74 : decode b_M_writeFields 74 = .ok (.isub, 1) := by decide +kernel
theorem d_M_writeFields_75 : decode b_M_writeFields 75 = .ok (.laload, 1) := by decide +kernel
theorem d_M_writeFields_76 : decode b_M_writeFields 76 = .ok (.aload_n 0, 1) := by decide +kernel
theorem d_M_writeFields_77 : decode b_M_writeFields 77 = .ok (.getfield 26, 3) := by decide +kernel
theorem d_M_writeFields_80 : decode b_M_writeFields 80 = .ok (.iload_n 3, 1) := by decide +kernel
theorem d_M_writeFields_81 : decode b_M_writeFields 81 = .ok (.iconst 1, 1) := by decide +kernel
theorem d_M_writeFields_82 : decode b_M_writeFields 82 = .ok (.isub, 1) := by decide +kernel
theorem d_M_writeFields_83 : decode b_M_writeFields 83 = .ok (.laload, 1) := by decide +kernel
theorem d_M_writeFields_84 : decode b_M_writeFields 84 = .ok (.invokestatic 84, 3) := by decide +kernel
theorem d_M_writeFields_87 : decode b_M_writeFields 87 = .ok (.invokevirtual 88, 3) := by decide +kernel
theorem d_M_writeFields_90 : decode b_M_writeFields 90 = .ok (.iload_n 2, 1) := by decide +kernel
theorem d_M_writeFields_91 : decode b_M_writeFields 91 = .ok (.bipush 10, 2) := by decide +kernel
theorem d_M_writeFields_93 : decode b_M_writeFields 93 = .ok (.idiv, 1) := by decide +kernel
theorem d_M_writeFields_94 : decode b_M_writeFields 94 = .ok (.istore_n 2, 1) := by decide +kernel
theorem d_M_writeFields_95 : decode b_M_writeFields 95 = .ok (.goto (-90), 3) := by decide +kernel
theorem d_M_writeFields_98 : decode b_M_writeFields 98 = .ok (.iload_n 1, 1) := by decide +kernel
theorem d_M_writeFields_99 : decode b_M_writeFields 99 = .ok (.bipush 24, 2) := by decide +kernel
theorem d_M_writeFields_101 : decode b_M_writeFields 101 = .ok (.if_icmp .eq 4, 3) := by decide +kernel
theorem d_M_writeFields_104 : decode b_M_writeFields 104 = .ok (.return_, 1) := by decide +kernel
theorem d_M_writeFields_105 : decode b_M_writeFields 105 = .ok (.aload_n 0, 1) := by decide +kernel
theorem d_M_writeFields_106 : decode b_M_writeFields 106 = .ok (.aload_n 0, 1) := by decide +kernel
theorem d_M_writeFields_107 : decode b_M_writeFields 107 = .ok (.getfield 211, 3) := by decide +kernel
theorem d_M_writeFields_110 : decode b_M_writeFields 110 = .ok (.bipush 16, 2) := by decide +kernel
theorem d_M_writeFields_112 : decode b_M_writeFields 112 = .ok (.isub, 1) := by decide +kernel
theorem d_M_writeFields_113 : decode b_M_writeFields 113 = .ok (.i2l, 1) := by decide +kernel
theorem d_M_writeFields_114 : decode b_M_writeFields 114 = .ok (.iconst 1, 1) := by decide +kernel
theorem d_M_writeFields_115 : decode b_M_writeFields 115 = .ok (.invokevirtual 66, 3) := by decide +kernel
theorem d_M_writeFields_118 : decode b_M_writeFields 118 = .ok (.aload_n 0, 1) := by decide +kernel
theorem d_M_writeFields_119 : decode b_M_writeFields 119 = .ok (.aload_n 0, 1) := by decide +kernel
theorem d_M_writeFields_120 : decode b_M_writeFields 120 = .ok (.getfield 211, 3) := by decide +kernel
theorem d_M_writeFields_123 : decode b_M_writeFields 123 = .ok (.invokevirtual 225, 3) := by decide +kernel
theorem d_M_writeFields_126 : decode b_M_writeFields 126 = .ok (.return_, 1) := by decide +kernel
theorem zy_M_put : zy y_M_put b_M_put 5 (some .int) 1 := ⟨zmem 1196 (by decide +kernel) (by decide +kernel), zmem 73 (by decide +kernel) (by decide +kernel), by decide +kernel⟩
theorem zv_M_put : Cond.instanceMethod y_M_put ∈ ztb ∧ Cond.selects y_M_put.cls y_M_put y_M_put ∈ ztb := ⟨zmem 1194 (by decide +kernel) (by decide +kernel), zmem 1195 (by decide +kernel) (by decide +kernel)⟩
theorem d_M_put_0 : decode b_M_put 0 = .ok (.iload_n 1, 1) := by decide +kernel
theorem d_M_put_1 : decode b_M_put 1 = .ok (.i2l, 1) := by decide +kernel
theorem d_M_put_2 : decode b_M_put 2 = .ok (.lconst 0, 1) := by decide +kernel
theorem d_M_put_3 : decode b_M_put 3 = .ok (.ldc2_w 60, 3) := by decide +kernel
theorem d_M_put_6 : decode b_M_put 6 = .ok (.invokestatic 53, 3) := by decide +kernel
theorem d_M_put_9 : decode b_M_put 9 = .ok (.ifCond .ne 17, 3) := by decide +kernel
theorem d_M_put_12 : decode b_M_put 12 = .ok (.iload_n 1, 1) := by decide +kernel
theorem d_M_put_13 : decode b_M_put 13 = .ok (.i2l, 1) := by decide +kernel
theorem d_M_put_14 : decode b_M_put 14 = .ok (.ldc2_w 160, 3) := by decide +kernel
theorem d_M_put_17 : decode b_M_put 17 = .ok (.ldc2_w 228, 3) := by decide +kernel
theorem d_M_put_20 : decode b_M_put 20 = .ok (.invokestatic 53, 3) := by decide +kernel
theorem d_M_put_23 : decode b_M_put 23 = .ok (.ifCond .eq 7, 3) := by decide +kernel
theorem d_M_put_26 : decode b_M_put 26 = .ok (.iconst 1, 1) := by decide +kernel
theorem d_M_put_27 : decode b_M_put 27 = .ok (.goto 4, 3) := by decide +kernel
theorem d_M_put_30 : decode b_M_put 30 = .ok (.iconst 0, 1) := by decide +kernel
theorem d_M_put_31 : decode b_M_put 31 = .ok (.istore_n 2, 1) := by decide +kernel
theorem d_M_put_32 : decode b_M_put 32 = .ok (.aload_n 0, 1) := by decide +kernel
theorem d_M_put_33 : decode b_M_put 33 = .ok (.iload_n 2, 1) := by decide +kernel
theorem d_M_put_34 : decode b_M_put 34 = .ok (.ifCond .eq 11, 3) := by decide +kernel
theorem d_M_put_37 : decode b_M_put 37 = .ok (.aload_n 0, 1) := by decide +kernel
theorem d_M_put_38 : decode b_M_put 38 = .ok (.iload_n 1, 1) := by decide +kernel
theorem d_M_put_39 : decode b_M_put 39 = .ok (.invokevirtual 230, 3) := by decide +kernel
theorem d_M_put_42 : decode b_M_put 42 = .ok (.ifCond .ne 7, 3) := by decide +kernel
theorem d_M_put_45 : decode b_M_put 45 = .ok (.iconst 1, 1) := by decide +kernel
theorem d_M_put_46 : decode b_M_put 46 = .ok (.goto 4, 3) := by decide +kernel
theorem d_M_put_49 : decode b_M_put 49 = .ok (.iconst 0, 1) := by decide +kernel
theorem d_M_put_50 : decode b_M_put 50 = .ok (.iconst 1, 1) := by decide +kernel
theorem d_M_put_51 : decode b_M_put 51 = .ok (.invokevirtual 62, 3) := by decide +kernel
theorem d_M_put_54 : decode b_M_put 54 = .ok (.ifCond .ne 31, 3) := by decide +kernel
theorem d_M_put_57 : decode b_M_put 57 = .ok (.aload_n 0, 1) := by decide +kernel
theorem d_M_put_58 : decode b_M_put 58 = .ok (.aload_n 0, 1) := by decide +kernel
theorem d_M_put_59 : decode b_M_put 59 = .ok (.getfield 57, 3) := by decide +kernel
theorem d_M_put_62 : decode b_M_put 62 = .ok (.aload_n 0, 1) := by decide +kernel
theorem d_M_put_63 : decode b_M_put 63 = .ok (.iload_n 1, 1) := by decide +kernel
theorem d_M_put_64 : decode b_M_put 64 = .ok (.invokevirtual 233, 3) := by decide +kernel
theorem d_M_put_67 : decode b_M_put 67 = .ok (.iadd, 1) := by decide +kernel
theorem d_M_put_68 : decode b_M_put 68 = .ok (.ldc 7, 2) := by decide +kernel
theorem d_M_put_70 : decode b_M_put 70 = .ok (.if_icmp .le 7, 3) := by decide +kernel
theorem d_M_put_73 : decode b_M_put 73 = .ok (.iconst 1, 1) := by decide +kernel
theorem d_M_put_74 : decode b_M_put 74 = .ok (.goto 4, 3) := by decide +kernel
theorem d_M_put_77 : decode b_M_put 77 = .ok (.iconst 0, 1) := by decide +kernel
theorem d_M_put_78 : decode b_M_put 78 = .ok (.iconst 2, 1) := by decide +kernel
theorem d_M_put_79 : decode b_M_put 79 = .ok (.invokevirtual 62, 3) := by decide +kernel
theorem d_M_put_82 : decode b_M_put 82 = .ok (.ifCond .eq 5, 3) := by decide +kernel
theorem d_M_put_85 : decode b_M_put 85 = .ok (.iconst 0, 1) := by decide +kernel
theorem d_M_put_86 : decode b_M_put 86 = .ok (.ireturn, 1) := by decide +kernel
theorem d_M_put_87 : decode b_M_put 87 = .ok (.iload_n 1, 1) := by decide +kernel
theorem d_M_put_88 : decode b_M_put 88 = .ok (.ifCond .ne 34, 3) := by decide +kernel
theorem d_M_put_91 : decode b_M_put 91 = .ok (.lconst 0, 1) := by decide +kernel
theorem d_M_put_92 : decode b_M_put 92 = .ok (.lstore_n 3, 1) := by decide +kernel
theorem d_M_put_93 : decode b_M_put 93 = .ok (.lload_n 3, 1) := by decide +kernel
theorem d_M_put_94 : decode b_M_put 94 = .ok (.aload_n 0, 1) := by decide +kernel
theorem d_M_put_95 : decode b_M_put 95 = .ok (.getfield 26, 3) := by decide +kernel
theorem d_M_put_98 : decode b_M_put 98 = .ok (.iconst 0, 1) := by decide +kernel
theorem d_M_put_99 : decode b_M_put 99 = .ok (.laload, 1) := by decide +kernel
theorem d_M_put_100 : decode b_M_put 100 = .ok (.lcmp, 1) := by decide +kernel
theorem d_M_put_101 : decode b_M_put 101 = .ok (.ifCond .ge 16, 3) := by decide +kernel
theorem d_M_put_104 : decode b_M_put 104 = .ok (.aload_n 0, 1) := by decide +kernel
theorem d_M_put_105 : decode b_M_put 105 = .ok (.lconst 0, 1) := by decide +kernel
theorem d_M_put_106 : decode b_M_put 106 = .ok (.iconst 1, 1) := by decide +kernel
theorem d_M_put_107 : decode b_M_put 107 = .ok (.invokevirtual 66, 3) := by decide +kernel
theorem d_M_put_110 : decode b_M_put 110 = .ok (.lload_n 3, 1) := by decide +kernel
theorem d_M_put_111 : decode b_M_put 111 = .ok (.lconst 1, 1) := by decide +kernel
theorem d_M_put_112 : decode b_M_put 112 = .ok (.ladd, 1) := by decide +kernel
theorem d_M_put_113 : decode b_M_put 113 = .ok (.lstore_n 3, 1) := by decide +kernel
theorem d_M_put_114 : decode b_M_put 114 = .ok (.goto (-21), 3) := by decide +kernel
theorem d_M_put_117 : decode b_M_put 117 = .ok (.aload_n 0, 1) := by decide +kernel
theorem d_M_put_118 : decode b_M_put 118 = .ok (.getfield 57, 3) := by decide +kernel
theorem d_M_put_121 : decode b_M_put 121 = .ok (.ireturn, 1) := by decide +kernel
theorem d_M_put_122 : decode b_M_put 122 = .ok (.iload_n 1, 1) := by decide +kernel
theorem d_M_put_123 : decode b_M_put 123 = .ok (.bipush 8, 2) := by decide +kernel
theorem d_M_put_125 : decode b_M_put 125 = .ok (.if_icmp .eq 7, 3) := by decide +kernel
theorem d_M_put_128 : decode b_M_put 128 = .ok (.iconst 0, 1) := by decide +kernel
theorem d_M_put_129 : decode b_M_put 129 = .ok (.goto 38, 3) := by decide +kernel
theorem d_M_put_132 : decode b_M_put 132 = .ok (.aload_n 0, 1) := by decide +kernel
theorem d_M_put_133 : decode b_M_put 133 = .ok (.getfield 26, 3) := by decide +kernel
theorem d_M_put_136 : decode b_M_put 136 = .ok (.iconst 1, 1) := by decide +kernel
theorem d_M_put_137 : decode b_M_put 137 = .ok (.laload, 1) := by decide +kernel
theorem d_M_put_138 : decode b_M_put 138 = .ok (.lconst 0, 1) := by decide +kernel
theorem d_M_put_139 : decode b_M_put 139 = .ok (.lcmp, 1) := by decide +kernel
theorem d_M_put_140 : decode b_M_put 140 = .ok (.ifCond .ne 7, 3) := by decide +kernel
theorem d_M_put_143 : decode b_M_put 143 = .ok (.iconst 0, 1) := by decide +kernel
theorem d_M_put_144 : decode b_M_put 144 = .ok (.goto 4, 3) := by decide +kernel
theorem d_M_put_147 : decode b_M_put 147 = .ok (.iconst 4, 1) := by decide +kernel
theorem d_M_put_148 : decode b_M_put 148 = .ok (.ldc2_w 76, 3) := by decide +kernel
theorem d_M_put_151 : decode b_M_put 151 = .ok (.aload_n 0, 1) := by decide +kernel
theorem d_M_put_152 : decode b_M_put 152 = .ok (.getfield 26, 3) := by decide +kernel
theorem d_M_put_155 : decode b_M_put 155 = .ok (.iconst 3, 1) := by decide +kernel
theorem d_M_put_156 : decode b_M_put 156 = .ok (.laload, 1) := by decide +kernel
theorem d_M_put_157 : decode b_M_put 157 = .ok (.lmul, 1) := by decide +kernel
theorem d_M_put_158 : decode b_M_put 158 = .ok (.aload_n 0, 1) := by decide +kernel
theorem d_M_put_159 : decode b_M_put 159 = .ok (.getfield 26, 3) := by decide +kernel
theorem d_M_put_162 : decode b_M_put 162 = .ok (.iconst 2, 1) := by decide +kernel
theorem d_M_put_163 : decode b_M_put 163 = .ok (.laload, 1) := by decide +kernel
theorem d_M_put_164 : decode b_M_put 164 = .ok (.ladd, 1) := by decide +kernel
theorem d_M_put_165 : decode b_M_put 165 = .ok (.l2i, 1) := by decide +kernel
theorem d_M_put_166 : decode b_M_put 166 = .ok (.iadd, 1) := by decide +kernel
theorem d_M_put_167 : decode b_M_put 167 = .ok (.istore_n 3, 1) := by decide +kernel
theorem d_M_put_168 : decode b_M_put 168 = .ok (.aload_n 0, 1) := by decide +kernel
theorem d_M_put_169 : decode b_M_put 169 = .ok (.iload_n 1, 1) := by decide +kernel
theorem d_M_put_170 : decode b_M_put 170 = .ok (.iload_n 3, 1) := by decide +kernel
theorem d_M_put_171 : decode b_M_put 171 = .ok (.iadd, 1) := by decide +kernel
theorem d_M_put_172 : decode b_M_put 172 = .ok (.i2l, 1) := by decide +kernel
theorem d_M_put_173 : decode b_M_put 173 = .ok (.iconst 1, 1) := by decide +kernel
theorem d_M_put_174 : decode b_M_put 174 = .ok (.invokevirtual 66, 3) := by decide +kernel
theorem d_M_put_177 : decode b_M_put 177 = .ok (.iload_n 1, 1) := by decide +kernel
theorem d_M_put_178 : decode b_M_put 178 = .ok (.invokestatic 171, 3) := by decide +kernel
theorem d_M_put_181 : decode b_M_put 181 = .ok (.ifCond .eq 11, 3) := by decide +kernel
theorem d_M_put_184 : decode b_M_put 184 = .ok (.aload_n 0, 1) := by decide +kernel
theorem d_M_put_185 : decode b_M_put 185 = .ok (.iload_n 1, 1) := by decide +kernel
theorem d_M_put_186 : decode b_M_put 186 = .ok (.invokevirtual 236, 3) := by decide +kernel
theorem d_M_put_189 : decode b_M_put 189 = .ok (.goto 21, 3) := by decide +kernel
theorem d_M_put_192 : decode b_M_put 192 = .ok (.iload_n 1, 1) := by decide +kernel
theorem d_M_put_193 : decode b_M_put 193 = .ok (.bipush 8, 2) := by decide +kernel
theorem d_M_put_195 : decode b_M_put 195 = .ok (.if_icmp .ne 10, 3) := by decide +kernel
theorem d_M_put_198 : decode b_M_put 198 = .ok (.aload_n 0, 1) := by decide +kernel
theorem d_M_put_199 : decode b_M_put 199 = .ok (.invokevirtual 239, 3) := by decide +kernel
theorem d_M_put_202 : decode b_M_put 202 = .ok (.goto 8, 3) := by decide +kernel
theorem d_M_put_205 : decode b_M_put 205 = .ok (.aload_n 0, 1) := by decide +kernel
theorem d_M_put_206 : decode b_M_put 206 = .ok (.iload_n 1, 1) := by decide +kernel
theorem d_M_put_207 : decode b_M_put 207 = .ok (.invokevirtual 242, 3) := by decide +kernel
theorem d_M_put_210 : decode b_M_put 210 = .ok (.aload_n 0, 1) := by decide +kernel
theorem d_M_put_211 : decode b_M_put 211 = .ok (.getfield 57, 3) := by decide +kernel
theorem d_M_put_214 : decode b_M_put 214 = .ok (.ireturn, 1) := by decide +kernel
theorem zy_M_note : zy y_M_note b_M_note 3 none 2 := ⟨zmem 1237 (by decide +kernel) (by decide +kernel), zmem 73 (by decide +kernel) (by decide +kernel), by decide +kernel⟩
theorem zv_M_note : Cond.instanceMethod y_M_note ∈ ztb ∧ Cond.selects y_M_note.cls y_M_note y_M_note ∈ ztb := ⟨zmem 1236 (by decide +kernel) (by decide +kernel), zmem 54 (by decide +kernel) (by decide +kernel)⟩
theorem d_M_note_0 : decode b_M_note 0 = .ok (.aload_n 0, 1) := by decide +kernel
theorem d_M_note_1 : decode b_M_note 1 = .ok (.getfield 39, 3) := by decide +kernel
theorem d_M_note_4 : decode b_M_note 4 = .ok (.bipush 12, 2) := by decide +kernel
theorem d_M_note_6 : decode b_M_note 6 = .ok (.aload_n 0, 1) := by decide +kernel
theorem d_M_note_7 : decode b_M_note 7 = .ok (.getfield 97, 3) := by decide +kernel
theorem d_M_note_10 : decode b_M_note 10 = .ok (.imul, 1) := by decide +kernel
theorem d_M_note_11 : decode b_M_note 11 = .ok (.iload_n 1, 1) := by decide +kernel
theorem d_M_note_12 : decode b_M_note 12 = .ok (.iadd, 1) := by decide +kernel
theorem d_M_note_13 : decode b_M_note 13 = .ok (.iload_n 2, 1) := by decide +kernel
theorem d_M_note_14 : decode b_M_note 14 = .ok (.iastore, 1) := by decide +kernel
theorem d_M_note_15 : decode b_M_note 15 = .ok (.return_, 1) := by decide +kernel
theorem zy_M_takeConnection : zy y_M_takeConnection b_M_takeConnection 3 (some .int) 1 := ⟨zmem 1249 (by decide +kernel) (by decide +kernel), zmem 73 (by decide +kernel) (by decide +kernel), by decide +kernel⟩
theorem zv_M_takeConnection : Cond.instanceMethod y_M_takeConnection ∈ ztb ∧ Cond.selects y_M_takeConnection.cls y_M_takeConnection y_M_takeConnection ∈ ztb := ⟨zmem 1248 (by decide +kernel) (by decide +kernel), zmem 57 (by decide +kernel) (by decide +kernel)⟩
theorem d_M_takeConnection_0 : decode b_M_takeConnection 0 = .ok (.aload_n 0, 1) := by decide +kernel
theorem d_M_takeConnection_1 : decode b_M_takeConnection 1 = .ok (.iconst 1, 1) := by decide +kernel
theorem d_M_takeConnection_2 : decode b_M_takeConnection 2 = .ok (.invokevirtual 120, 3) := by decide +kernel
theorem d_M_takeConnection_5 : decode b_M_takeConnection 5 = .ok (.l2i, 1) := by decide +kernel
theorem d_M_takeConnection_6 : decode b_M_takeConnection 6 = .ok (.istore_n 2, 1) := by decide +kernel
theorem d_M_takeConnection_7 : decode b_M_takeConnection 7 = .ok (.aload_n 0, 1) := by decide +kernel
theorem d_M_takeConnection_8 : decode b_M_takeConnection 8 = .ok (.getfield 116, 3) := by decide +kernel
theorem d_M_takeConnection_11 : decode b_M_takeConnection 11 = .ok (.ifCond .eq 5, 3) := by decide +kernel
theorem d_M_takeConnection_14 : decode b_M_takeConnection 14 = .ok (.iconst 1, 1) := by decide +kernel
theorem d_M_takeConnection_15 : decode b_M_takeConnection 15 = .ok (.ireturn, 1) := by decide +kernel
theorem d_M_takeConnection_16 : decode b_M_takeConnection 16 = .ok (.iload_n 2, 1) := by decide +kernel
theorem d_M_takeConnection_17 : decode b_M_takeConnection 17 = .ok (.bipush 20, 2) := by decide +kernel
theorem d_M_takeConnection_19 : decode b_M_takeConnection 19 = .ok (.if_icmp .le 5, 3) := by decide +kernel
theorem d_M_takeConnection_22 : decode b_M_takeConnection 22 = .ok (.iconst 5, 1) := by decide +kernel
theorem d_M_takeConnection_23 : decode b_M_takeConnection 23 = .ok (.ireturn, 1) := by decide +kernel
theorem d_M_takeConnection_24 : decode b_M_takeConnection 24 = .ok (.aload_n 0, 1) := by decide +kernel
theorem d_M_takeConnection_25 : decode b_M_takeConnection 25 = .ok (.iload_n 1, 1) := by decide +kernel
theorem d_M_takeConnection_26 : decode b_M_takeConnection 26 = .ok (.aload_n 0, 1) := by decide +kernel
theorem d_M_takeConnection_27 : decode b_M_takeConnection 27 = .ok (.iload_n 2, 1) := by decide +kernel
theorem d_M_takeConnection_28 : decode b_M_takeConnection 28 = .ok (.i2l, 1) := by decide +kernel
theorem d_M_takeConnection_29 : decode b_M_takeConnection 29 = .ok (.invokevirtual 141, 3) := by decide +kernel
theorem d_M_takeConnection_32 : decode b_M_takeConnection 32 = .ok (.invokevirtual 245, 3) := by decide +kernel
theorem d_M_takeConnection_35 : decode b_M_takeConnection 35 = .ok (.aload_n 0, 1) := by decide +kernel
theorem d_M_takeConnection_36 : decode b_M_takeConnection 36 = .ok (.iload_n 1, 1) := by decide +kernel
theorem d_M_takeConnection_37 : decode b_M_takeConnection 37 = .ok (.iconst 1, 1) := by decide +kernel
theorem d_M_takeConnection_38 : decode b_M_takeConnection 38 = .ok (.iadd, 1) := by decide +kernel
theorem d_M_takeConnection_39 : decode b_M_takeConnection 39 = .ok (.iload_n 2, 1) := by decide +kernel
theorem d_M_takeConnection_40 : decode b_M_takeConnection 40 = .ok (.invokevirtual 245, 3) := by decide +kernel
theorem d_M_takeConnection_43 : decode b_M_takeConnection 43 = .ok (.aload_n 0, 1) := by decide +kernel
theorem d_M_takeConnection_44 : decode b_M_takeConnection 44 = .ok (.getfield 116, 3) := by decide +kernel
theorem d_M_takeConnection_47 : decode b_M_takeConnection 47 = .ok (.ifCond .eq 7, 3) := by decide +kernel
theorem d_M_takeConnection_50 : decode b_M_takeConnection 50 = .ok (.iconst 1, 1) := by decide +kernel
theorem d_M_takeConnection_51 : decode b_M_takeConnection 51 = .ok (.goto 4, 3) := by decide +kernel
theorem d_M_takeConnection_54 : decode b_M_takeConnection 54 = .ok (.iconst 0, 1) := by decide +kernel
theorem d_M_takeConnection_55 : decode b_M_takeConnection 55 = .ok (.ireturn, 1) := by decide +kernel
theorem zy_M_shortFlaw : zy y_M_shortFlaw b_M_shortFlaw 3 (some .int) 2 := ⟨zmem 1241 (by decide +kernel) (by decide +kernel), zmem 73 (by decide +kernel) (by decide +kernel), by decide +kernel⟩
theorem zv_M_shortFlaw : Cond.instanceMethod y_M_shortFlaw ∈ ztb ∧ Cond.selects y_M_shortFlaw.cls y_M_shortFlaw y_M_shortFlaw ∈ ztb := ⟨zmem 1240 (by decide +kernel) (by decide +kernel), zmem 55 (by decide +kernel) (by decide +kernel)⟩
theorem d_M_shortFlaw_0 : decode b_M_shortFlaw 0 = .ok (.aload_n 0, 1) := by decide +kernel
theorem d_M_shortFlaw_1 : decode b_M_shortFlaw 1 = .ok (.iconst 0, 1) := by decide +kernel
theorem d_M_shortFlaw_2 : decode b_M_shortFlaw 2 = .ok (.iconst 4, 1) := by decide +kernel
theorem d_M_shortFlaw_3 : decode b_M_shortFlaw 3 = .ok (.invokevirtual 245, 3) := by decide +kernel
theorem d_M_shortFlaw_6 : decode b_M_shortFlaw 6 = .ok (.aload_n 0, 1) := by decide +kernel
theorem d_M_shortFlaw_7 : decode b_M_shortFlaw 7 = .ok (.iconst 1, 1) := by decide +kernel
theorem d_M_shortFlaw_8 : decode b_M_shortFlaw 8 = .ok (.iload_n 1, 1) := by decide +kernel
theorem d_M_shortFlaw_9 : decode b_M_shortFlaw 9 = .ok (.bipush 63, 2) := by decide +kernel
theorem d_M_shortFlaw_11 : decode b_M_shortFlaw 11 = .ok (.iand, 1) := by decide +kernel
theorem d_M_shortFlaw_12 : decode b_M_shortFlaw 12 = .ok (.invokevirtual 245, 3) := by decide +kernel
theorem d_M_shortFlaw_15 : decode b_M_shortFlaw 15 = .ok (.aload_n 0, 1) := by decide +kernel
theorem d_M_shortFlaw_16 : decode b_M_shortFlaw 16 = .ok (.bipush 6, 2) := by decide +kernel
theorem d_M_shortFlaw_18 : decode b_M_shortFlaw 18 = .ok (.aload_n 0, 1) := by decide +kernel
theorem d_M_shortFlaw_19 : decode b_M_shortFlaw 19 = .ok (.iload_n 2, 1) := by decide +kernel
theorem d_M_shortFlaw_20 : decode b_M_shortFlaw 20 = .ok (.i2l, 1) := by decide +kernel
theorem d_M_shortFlaw_21 : decode b_M_shortFlaw 21 = .ok (.invokevirtual 141, 3) := by decide +kernel
theorem d_M_shortFlaw_24 : decode b_M_shortFlaw 24 = .ok (.invokevirtual 245, 3) := by decide +kernel
theorem d_M_shortFlaw_27 : decode b_M_shortFlaw 27 = .ok (.aload_n 0, 1) := by decide +kernel
theorem d_M_shortFlaw_28 : decode b_M_shortFlaw 28 = .ok (.bipush 7, 2) := by decide +kernel
theorem d_M_shortFlaw_30 : decode b_M_shortFlaw 30 = .ok (.iload_n 2, 1) := by decide +kernel
theorem d_M_shortFlaw_31 : decode b_M_shortFlaw 31 = .ok (.invokevirtual 245, 3) := by decide +kernel
theorem d_M_shortFlaw_34 : decode b_M_shortFlaw 34 = .ok (.aload_n 0, 1) := by decide +kernel
theorem d_M_shortFlaw_35 : decode b_M_shortFlaw 35 = .ok (.iconst 4, 1) := by decide +kernel
theorem d_M_shortFlaw_36 : decode b_M_shortFlaw 36 = .ok (.aload_n 0, 1) := by decide +kernel
theorem d_M_shortFlaw_37 : decode b_M_shortFlaw 37 = .ok (.getfield 110, 3) := by decide +kernel
theorem d_M_shortFlaw_40 : decode b_M_shortFlaw 40 = .ok (.invokevirtual 245, 3) := by decide +kernel
theorem d_M_shortFlaw_43 : decode b_M_shortFlaw 43 = .ok (.aload_n 0, 1) := by decide +kernel
theorem d_M_shortFlaw_44 : decode b_M_shortFlaw 44 = .ok (.ldc2_w 254, 3) := by decide +kernel
theorem d_M_shortFlaw_47 : decode b_M_shortFlaw 47 = .ok (.invokevirtual 141, 3) := by decide +kernel
theorem d_M_shortFlaw_50 : decode b_M_shortFlaw 50 = .ok (.pop, 1) := by decide +kernel
theorem d_M_shortFlaw_51 : decode b_M_shortFlaw 51 = .ok (.aload_n 0, 1) := by decide +kernel
theorem d_M_shortFlaw_52 : decode b_M_shortFlaw 52 = .ok (.iconst 5, 1) := by decide +kernel
theorem d_M_shortFlaw_53 : decode b_M_shortFlaw 53 = .ok (.aload_n 0, 1) := by decide +kernel
theorem d_M_shortFlaw_54 : decode b_M_shortFlaw 54 = .ok (.getfield 57, 3) := by decide +kernel
theorem d_M_shortFlaw_57 : decode b_M_shortFlaw 57 = .ok (.invokevirtual 245, 3) := by decide +kernel
theorem d_M_shortFlaw_60 : decode b_M_shortFlaw 60 = .ok (.aload_n 0, 1) := by decide +kernel
theorem d_M_shortFlaw_61 : decode b_M_shortFlaw 61 = .ok (.getfield 116, 3) := by decide +kernel
theorem d_M_shortFlaw_64 : decode b_M_shortFlaw 64 = .ok (.ifCond .eq 7, 3) := by decide +kernel
theorem d_M_shortFlaw_67 : decode b_M_shortFlaw 67 = .ok (.iconst 1, 1) := by decide +kernel
theorem d_M_shortFlaw_68 : decode b_M_shortFlaw 68 = .ok (.goto 4, 3) := by decide +kernel
theorem d_M_shortFlaw_71 : decode b_M_shortFlaw 71 = .ok (.iconst 0, 1) := by decide +kernel
theorem d_M_shortFlaw_72 : decode b_M_shortFlaw 72 = .ok (.ireturn, 1) := by decide +kernel
theorem zy_M_longFlaw : zy y_M_longFlaw b_M_longFlaw 8 (some .int) 1 := ⟨zmem 1245 (by decide +kernel) (by decide +kernel), zmem 73 (by decide +kernel) (by decide +kernel), by decide +kernel⟩
theorem zv_M_longFlaw : Cond.instanceMethod y_M_longFlaw ∈ ztb ∧ Cond.selects y_M_longFlaw.cls y_M_longFlaw y_M_longFlaw ∈ ztb := ⟨zmem 1244 (by decide +kernel) (by decide +kernel), zmem 56 (by decide +kernel) (by decide +kernel)⟩
theorem d_M_longFlaw_0 : decode b_M_longFlaw 0 = .ok (.iload_n 1, 1) := by decide +kernel
theorem d_M_longFlaw_1 : decode b_M_longFlaw 1 = .ok (.iconst 4, 1) := by decide +kernel
theorem d_M_longFlaw_2 : decode b_M_longFlaw 2 = .ok (.ishr, 1) := by decide +kernel
theorem d_M_longFlaw_3 : decode b_M_longFlaw 3 = .ok (.iconst 3, 1) := by decide +kernel
theorem d_M_longFlaw_4 : decode b_M_longFlaw 4 = .ok (.iand, 1) := by decide +kernel
theorem d_M_longFlaw_5 : decode b_M_longFlaw 5 = .ok (.istore_n 2, 1) := by decide +kernel
theorem d_M_longFlaw_6 : decode b_M_longFlaw 6 = .ok (.aload_n 0, 1) := by decide +kernel
theorem d_M_longFlaw_7 : decode b_M_longFlaw 7 = .ok (.iconst 0, 1) := by decide +kernel
theorem d_M_longFlaw_8 : decode b_M_longFlaw 8 = .ok (.iload_n 2, 1) := by decide +kernel
theorem d_M_longFlaw_9 : decode b_M_longFlaw 9 = .ok (.invokevirtual 245, 3) := by decide +kernel
theorem d_M_longFlaw_12 : decode b_M_longFlaw 12 = .ok (.aload_n 0, 1) := by decide +kernel
theorem d_M_longFlaw_13 : decode b_M_longFlaw 13 = .ok (.iconst 1, 1) := by decide +kernel
theorem d_M_longFlaw_14 : decode b_M_longFlaw 14 = .ok (.iload_n 1, 1) := by decide +kernel
theorem d_M_longFlaw_15 : decode b_M_longFlaw 15 = .ok (.bipush 15, 2) := by decide +kernel
theorem d_M_longFlaw_17 : decode b_M_longFlaw 17 = .ok (.iand, 1) := by decide +kernel
theorem d_M_longFlaw_18 : decode b_M_longFlaw 18 = .ok (.invokevirtual 245, 3) := by decide +kernel
theorem d_M_longFlaw_21 : decode b_M_longFlaw 21 = .ok (.aload_n 0, 1) := by decide +kernel
theorem d_M_longFlaw_22 : decode b_M_longFlaw 22 = .ok (.iconst 4, 1) := by decide +kernel
theorem d_M_longFlaw_23 : decode b_M_longFlaw 23 = .ok (.invokevirtual 120, 3) := by decide +kernel
theorem d_M_longFlaw_26 : decode b_M_longFlaw 26 = .ok (.lstore_n 3, 1) := by decide +kernel
theorem d_M_longFlaw_27 : decode b_M_longFlaw 27 = .ok (.aload_n 0, 1) := by decide +kernel
theorem d_M_longFlaw_28 : decode b_M_longFlaw 28 = .ok (.getfield 116, 3) := by decide +kernel
theorem d_M_longFlaw_31 : decode b_M_longFlaw 31 = .ok (.ifCond .ne 14, 3) := by decide +kernel
theorem d_M_longFlaw_34 : decode b_M_longFlaw 34 = .ok (.aload_n 0, 1) := by decide +kernel
theorem d_M_longFlaw_35 : decode b_M_longFlaw 35 = .ok (.getfield 110, 3) := by decide +kernel
theorem d_M_longFlaw_38 : decode b_M_longFlaw 38 = .ok (.aload_n 0, 1) := by decide +kernel
theorem d_M_longFlaw_39 : decode b_M_longFlaw 39 = .ok (.getfield 113, 3) := by decide +kernel
theorem d_M_longFlaw_42 : decode b_M_longFlaw 42 = .ok (.if_icmp .ne 5, 3) := by decide +kernel
theorem d_M_longFlaw_45 : decode b_M_longFlaw 45 = .ok (.iconst 1, 1) := by decide +kernel
theorem d_M_longFlaw_46 : decode b_M_longFlaw 46 = .ok (.ireturn, 1) := by decide +kernel
theorem d_M_longFlaw_47 : decode b_M_longFlaw 47 = .ok (.lload_n 3, 1) := by decide +kernel
theorem d_M_longFlaw_48 : decode b_M_longFlaw 48 = .ok (.lconst 1, 1) := by decide +kernel
theorem d_M_longFlaw_49 : decode b_M_longFlaw 49 = .ok (.lcmp, 1) := by decide +kernel
theorem d_M_longFlaw_50 : decode b_M_longFlaw 50 = .ok (.ifCond .eq 5, 3) := by decide +kernel
theorem d_M_longFlaw_53 : decode b_M_longFlaw 53 = .ok (.iconst 3, 1) := by decide +kernel
theorem d_M_longFlaw_54 : decode b_M_longFlaw 54 = .ok (.ireturn, 1) := by decide +kernel
theorem d_M_longFlaw_55 : decode b_M_longFlaw 55 = .ok (.aload_n 0, 1) := by decide +kernel
theorem d_M_longFlaw_56 : decode b_M_longFlaw 56 = .ok (.iconst 2, 1) := by decide +kernel
theorem d_M_longFlaw_57 : decode b_M_longFlaw 57 = .ok (.iconst 1, 1) := by decide +kernel
theorem d_M_longFlaw_58 : decode b_M_longFlaw 58 = .ok (.invokevirtual 245, 3) := by decide +kernel
theorem d_M_longFlaw_61 : decode b_M_longFlaw 61 = .ok (.aload_n 0, 1) := by decide +kernel
theorem d_M_longFlaw_62 : decode b_M_longFlaw 62 = .ok (.bipush 6, 2) := by decide +kernel
theorem d_M_longFlaw_64 : decode b_M_longFlaw 64 = .ok (.invokevirtual 256, 3) := by decide +kernel
theorem d_M_longFlaw_67 : decode b_M_longFlaw 67 = .ok (.istore 5, 2) := by decide +kernel
theorem d_M_longFlaw_69 : decode b_M_longFlaw 69 = .ok (.iload 5, 2) := by decide +kernel
theorem d_M_longFlaw_71 : decode b_M_longFlaw 71 = .ok (.ifCond .ne 11, 3) := by decide +kernel
theorem d_M_longFlaw_74 : decode b_M_longFlaw 74 = .ok (.aload_n 0, 1) := by decide +kernel
theorem d_M_longFlaw_75 : decode b_M_longFlaw 75 = .ok (.bipush 8, 2) := by decide +kernel
theorem d_M_longFlaw_77 : decode b_M_longFlaw 77 = .ok (.invokevirtual 256, 3) := by decide +kernel
theorem d_M_longFlaw_80 : decode b_M_longFlaw 80 = .ok (.istore 5, 2) := by decide +kernel
theorem d_M_longFlaw_82 : decode b_M_longFlaw 82 = .ok (.iload 5, 2) := by decide +kernel
theorem d_M_longFlaw_84 : decode b_M_longFlaw 84 = .ok (.ifCond .le 6, 3) := by decide +kernel
theorem d_M_longFlaw_87 : decode b_M_longFlaw 87 = .ok (.iload 5, 2) := by decide +kernel
theorem d_M_longFlaw_89 : decode b_M_longFlaw 89 = .ok (.ireturn, 1) := by decide +kernel
theorem d_M_longFlaw_90 : decode b_M_longFlaw 90 = .ok (.iload_n 2, 1) := by decide +kernel
theorem d_M_longFlaw_91 : decode b_M_longFlaw 91 = .ok (.iconst 1, 1) := by decide +kernel
theorem d_M_longFlaw_92 : decode b_M_longFlaw 92 = .ok (.if_icmp .eq 8, 3) := by decide +kernel
theorem d_M_longFlaw_95 : decode b_M_longFlaw 95 = .ok (.iload_n 2, 1) := by decide +kernel
theorem d_M_longFlaw_96 : decode b_M_longFlaw 96 = .ok (.iconst 3, 1) := by decide +kernel
theorem d_M_longFlaw_97 : decode b_M_longFlaw 97 = .ok (.if_icmp .ne 5, 3) := by decide +kernel
theorem d_M_longFlaw_100 : decode b_M_longFlaw 100 = .ok (.iconst 4, 1) := by decide +kernel
theorem d_M_longFlaw_101 : decode b_M_longFlaw 101 = .ok (.ireturn, 1) := by decide +kernel
theorem d_M_longFlaw_102 : decode b_M_longFlaw 102 = .ok (.iload_n 2, 1) := by decide +kernel
theorem d_M_longFlaw_103 : decode b_M_longFlaw 103 = .ok (.ifCond .ne 41, 3) := by decide +kernel
theorem d_M_longFlaw_106 : decode b_M_longFlaw 106 = .ok (.aload_n 0, 1) := by decide +kernel
theorem d_M_longFlaw_107 : decode b_M_longFlaw 107 = .ok (.invokevirtual 128, 3) := by decide +kernel
theorem d_M_longFlaw_110 : decode b_M_longFlaw 110 = .ok (.lstore 6, 2) := by decide +kernel
theorem d_M_longFlaw_112 : decode b_M_longFlaw 112 = .ok (.aload_n 0, 1) := by decide +kernel
theorem d_M_longFlaw_113 : decode b_M_longFlaw 113 = .ok (.bipush 10, 2) := by decide +kernel
theorem d_M_longFlaw_115 : decode b_M_longFlaw 115 = .ok (.aload_n 0, 1) := by decide +kernel
theorem d_M_longFlaw_116 : decode b_M_longFlaw 116 = .ok (.lload 6, 2) := by decide +kernel
theorem d_M_longFlaw_118 : decode b_M_longFlaw 118 = .ok (.invokevirtual 141, 3) := by decide +kernel
theorem d_M_longFlaw_121 : decode b_M_longFlaw 121 = .ok (.invokevirtual 245, 3) := by decide +kernel
theorem d_M_longFlaw_124 : decode b_M_longFlaw 124 = .ok (.aload_n 0, 1) := by decide +kernel
theorem d_M_longFlaw_125 : decode b_M_longFlaw 125 = .ok (.bipush 11, 2) := by decide +kernel
theorem d_M_longFlaw_127 : decode b_M_longFlaw 127 = .ok (.aload_n 0, 1) := by decide +kernel
theorem d_M_longFlaw_128 : decode b_M_longFlaw 128 = .ok (.getfield 116, 3) := by decide +kernel
theorem d_M_longFlaw_131 : decode b_M_longFlaw 131 = .ok (.ifCond .eq 7, 3) := by decide +kernel
theorem d_M_longFlaw_134 : decode b_M_longFlaw 134 = .ok (.iconst 0, 1) := by decide +kernel
theorem d_M_longFlaw_135 : decode b_M_longFlaw 135 = .ok (.goto 6, 3) := by decide +kernel
theorem d_M_longFlaw_138 : decode b_M_longFlaw 138 = .ok (.lload 6, 2) := by decide +kernel
theorem d_M_longFlaw_140 : decode b_M_longFlaw 140 = .ok (.l2i, 1) := by decide +kernel
theorem d_M_longFlaw_141 : decode b_M_longFlaw 141 = .ok (.invokevirtual 245, 3) := by decide +kernel
theorem d_M_longFlaw_144 : decode b_M_longFlaw 144 = .ok (.aload_n 0, 1) := by decide +kernel
theorem d_M_longFlaw_145 : decode b_M_longFlaw 145 = .ok (.invokevirtual 128, 3) := by decide +kernel
theorem d_M_longFlaw_148 : decode b_M_longFlaw 148 = .ok (.lstore 6, 2) := by decide +kernel
theorem d_M_longFlaw_150 : decode b_M_longFlaw 150 = .ok (.aload_n 0, 1) := by decide +kernel
theorem d_M_longFlaw_151 : decode b_M_longFlaw 151 = .ok (.getfield 116, 3) := by decide +kernel
theorem d_M_longFlaw_154 : decode b_M_longFlaw 154 = .ok (.ifCond .ne 28, 3) := by decide +kernel
theorem d_M_longFlaw_157 : decode b_M_longFlaw 157 = .ok (.lload 6, 2) := by decide +kernel
theorem d_M_longFlaw_159 : decode b_M_longFlaw 159 = .ok (.ldc2_w 254, 3) := by decide +kernel
theorem d_M_longFlaw_162 : decode b_M_longFlaw 162 = .ok (.lcmp, 1) := by decide +kernel
theorem d_M_longFlaw_163 : decode b_M_longFlaw 163 = .ok (.ifCond .lt 19, 3) := by decide +kernel
theorem d_M_longFlaw_166 : decode b_M_longFlaw 166 = .ok (.aload_n 0, 1) := by decide +kernel
theorem d_M_longFlaw_167 : decode b_M_longFlaw 167 = .ok (.getfield 113, 3) := by decide +kernel
theorem d_M_longFlaw_170 : decode b_M_longFlaw 170 = .ok (.aload_n 0, 1) := by decide +kernel
theorem d_M_longFlaw_171 : decode b_M_longFlaw 171 = .ok (.getfield 110, 3) := by decide +kernel
theorem d_M_longFlaw_174 : decode b_M_longFlaw 174 = .ok (.isub, 1) := by decide +kernel
theorem d_M_longFlaw_175 : decode b_M_longFlaw 175 = .ok (.i2l, 1) := by decide +kernel
theorem d_M_longFlaw_176 : decode b_M_longFlaw 176 = .ok (.lload 6, 2) := by decide +kernel
theorem d_M_longFlaw_178 : decode b_M_longFlaw 178 = .ok (.lcmp, 1) := by decide +kernel
theorem d_M_longFlaw_179 : decode b_M_longFlaw 179 = .ok (.ifCond .ge 5, 3) := by decide +kernel
theorem d_M_longFlaw_182 : decode b_M_longFlaw 182 = .ok (.iconst 1, 1) := by decide +kernel
theorem d_M_longFlaw_183 : decode b_M_longFlaw 183 = .ok (.ireturn, 1) := by decide +kernel
theorem d_M_longFlaw_184 : decode b_M_longFlaw 184 = .ok (.aload_n 0, 1) := by decide +kernel
theorem d_M_longFlaw_185 : decode b_M_longFlaw 185 = .ok (.iconst 4, 1) := by decide +kernel
theorem d_M_longFlaw_186 : decode b_M_longFlaw 186 = .ok (.aload_n 0, 1) := by decide +kernel
theorem d_M_longFlaw_187 : decode b_M_longFlaw 187 = .ok (.getfield 110, 3) := by decide +kernel
theorem d_M_longFlaw_190 : decode b_M_longFlaw 190 = .ok (.invokevirtual 245, 3) := by decide +kernel
theorem d_M_longFlaw_193 : decode b_M_longFlaw 193 = .ok (.aload_n 0, 1) := by decide +kernel
theorem d_M_longFlaw_194 : decode b_M_longFlaw 194 = .ok (.iconst 5, 1) := by decide +kernel
theorem d_M_longFlaw_195 : decode b_M_longFlaw 195 = .ok (.aload_n 0, 1) := by decide +kernel
theorem d_M_longFlaw_196 : decode b_M_longFlaw 196 = .ok (.getfield 110, 3) := by decide +kernel
theorem d_M_longFlaw_199 : decode b_M_longFlaw 199 = .ok (.lload 6, 2) := by decide +kernel
theorem d_M_longFlaw_201 : decode b_M_longFlaw 201 = .ok (.l2i, 1) := by decide +kernel
theorem d_M_longFlaw_202 : decode b_M_longFlaw 202 = .ok (.iadd, 1) := by decide +kernel
theorem d_M_longFlaw_203 : decode b_M_longFlaw 203 = .ok (.invokevirtual 245, 3) := by decide +kernel
theorem d_M_longFlaw_206 : decode b_M_longFlaw 206 = .ok (.iconst 0, 1) := by decide +kernel
theorem d_M_longFlaw_207 : decode b_M_longFlaw 207 = .ok (.ireturn, 1) := by decide +kernel
theorem zy_M_isSame : zy y_M_isSame b_M_isSame 4 (some .boolean) 0 := ⟨zmem 1257 (by decide +kernel) (by decide +kernel), zmem 73 (by decide +kernel) (by decide +kernel), by decide +kernel⟩
theorem zv_M_isSame : Cond.instanceMethod y_M_isSame ∈ ztb ∧ Cond.selects y_M_isSame.cls y_M_isSame y_M_isSame ∈ ztb := ⟨zmem 1256 (by decide +kernel) (by decide +kernel), zmem 58 (by decide +kernel) (by decide +kernel)⟩
theorem d_M_isSame_0 : decode b_M_isSame 0 = .ok (.bipush 12, 2) := by decide +kernel
theorem d_M_isSame_2 : decode b_M_isSame 2 = .ok (.aload_n 0, 1) := by decide +kernel
theorem d_M_isSame_3 : decode b_M_isSame 3 = .ok (.getfield 97, 3) := by decide +kernel
theorem d_M_isSame_6 : decode b_M_isSame 6 = .ok (.imul, 1) := by decide +kernel
theorem d_M_isSame_7 : decode b_M_isSame 7 = .ok (.istore_n 1, 1) := by decide +kernel
theorem d_M_isSame_8 : decode b_M_isSame 8 = .ok (.aload_n 0, 1) := by decide +kernel
theorem d_M_isSame_9 : decode b_M_isSame 9 = .ok (.getfield 39, 3) := by decide +kernel
theorem d_M_isSame_12 : decode b_M_isSame 12 = .ok (.iload_n 1, 1) := by decide +kernel
theorem d_M_isSame_13 : decode b_M_isSame 13 = .ok (.bipush 7, 2) := by decide +kernel
theorem d_M_isSame_15 : decode b_M_isSame 15 = .ok (.iadd, 1) := by decide +kernel
theorem d_M_isSame_16 : decode b_M_isSame 16 = .ok (.iaload, 1) := by decide +kernel
theorem d_M_isSame_17 : decode b_M_isSame 17 = .ok (.aload_n 0, 1) := by decide +kernel
theorem d_M_isSame_18 : decode b_M_isSame 18 = .ok (.getfield 39, 3) := by decide +kernel
theorem d_M_isSame_21 : decode b_M_isSame 21 = .ok (.bipush 7, 2) := by decide +kernel
theorem d_M_isSame_23 : decode b_M_isSame 23 = .ok (.iaload, 1) := by decide +kernel
theorem d_M_isSame_24 : decode b_M_isSame 24 = .ok (.if_icmp .ne 7, 3) := by decide +kernel
theorem d_M_isSame_27 : decode b_M_isSame 27 = .ok (.iconst 1, 1) := by decide +kernel
theorem d_M_isSame_28 : decode b_M_isSame 28 = .ok (.goto 4, 3) := by decide +kernel
theorem d_M_isSame_31 : decode b_M_isSame 31 = .ok (.iconst 0, 1) := by decide +kernel
theorem d_M_isSame_32 : decode b_M_isSame 32 = .ok (.istore_n 2, 1) := by decide +kernel
theorem d_M_isSame_33 : decode b_M_isSame 33 = .ok (.iconst 0, 1) := by decide +kernel
theorem d_M_isSame_34 : decode b_M_isSame 34 = .ok (.istore_n 3, 1) := by decide +kernel
theorem d_M_isSame_35 : decode b_M_isSame 35 = .ok (.iload_n 3, 1) := by decide +kernel
theorem d_M_isSame_36 : decode b_M_isSame 36 = .ok (.aload_n 0, 1) := by decide +kernel
theorem d_M_isSame_37 : decode b_M_isSame 37 = .ok (.getfield 39, 3) := by decide +kernel
theorem d_M_isSame_40 : decode b_M_isSame 40 = .ok (.bipush 7, 2) := by decide +kernel
theorem d_M_isSame_42 : decode b_M_isSame 42 = .ok (.iaload, 1) := by decide +kernel
theorem d_M_isSame_43 : decode b_M_isSame 43 = .ok (.if_icmp .ge 52, 3) := by decide +kernel
theorem d_M_isSame_46 : decode b_M_isSame 46 = .ok (.iload_n 2, 1) := by decide +kernel
theorem d_M_isSame_47 : decode b_M_isSame 47 = .ok (.ifCond .eq 48, 3) := by decide +kernel
theorem d_M_isSame_50 : decode b_M_isSame 50 = .ok (.aload_n 0, 1) := by decide +kernel
theorem d_M_isSame_51 : decode b_M_isSame 51 = .ok (.getfield 8, 3) := by decide +kernel
theorem d_M_isSame_54 : decode b_M_isSame 54 = .ok (.aload_n 0, 1) := by decide +kernel
theorem d_M_isSame_55 : decode b_M_isSame 55 = .ok (.getfield 39, 3) := by decide +kernel
theorem d_M_isSame_58 : decode b_M_isSame 58 = .ok (.iload_n 1, 1) := by decide +kernel
theorem d_M_isSame_59 : decode b_M_isSame 59 = .ok (.bipush 6, 2) := by decide +kernel
theorem d_M_isSame_61 : decode b_M_isSame 61 = .ok (.iadd, 1) := by decide +kernel
theorem d_M_isSame_62 : decode b_M_isSame 62 = .ok (.iaload, 1) := by decide +kernel
theorem d_M_isSame_63 : decode b_M_isSame 63 = .ok (.iload_n 3, 1) := by decide +kernel
theorem d_M_isSame_64 : decode b_M_isSame 64 = .ok (.iadd, 1) := by decide +kernel
theorem d_M_isSame_65 : decode b_M_isSame 65 = .ok (.baload, 1) := by decide +kernel
theorem d_M_isSame_66 : decode b_M_isSame 66 = .ok (.aload_n 0, 1) := by decide +kernel
theorem d_M_isSame_67 : decode b_M_isSame 67 = .ok (.getfield 8, 3) := by decide +kernel
theorem d_M_isSame_70 : decode b_M_isSame 70 = .ok (.aload_n 0, 1) := by decide +kernel
theorem d_M_isSame_71 : decode b_M_isSame 71 = .ok (.getfield 39, 3) := by decide +kernel
theorem d_M_isSame_74 : decode b_M_isSame 74 = .ok (.bipush 6, 2) := by decide +kernel
theorem d_M_isSame_76 : decode b_M_isSame 76 = .ok (.iaload, 1) := by decide +kernel
theorem d_M_isSame_77 : decode b_M_isSame 77 = .ok (.iload_n 3, 1) := by decide +kernel
theorem d_M_isSame_78 : decode b_M_isSame 78 = .ok (.iadd, 1) := by decide +kernel
theorem d_M_isSame_79 : decode b_M_isSame 79 = .ok (.baload, 1) := by decide +kernel
theorem d_M_isSame_80 : decode b_M_isSame 80 = .ok (.if_icmp .ne 7, 3) := by decide +kernel
theorem d_M_isSame_83 : decode b_M_isSame 83 = .ok (.iconst 1, 1) := by decide +kernel
theorem d_M_isSame_84 : decode b_M_isSame 84 = .ok (.goto 4, 3) := by decide +kernel
theorem d_M_isSame_87 : decode b_M_isSame 87 = .ok (.iconst 0, 1) := by decide +kernel
theorem d_M_isSame_88 : decode b_M_isSame 88 = .ok (.istore_n 2, 1) := by decide +kernel
theorem d_M_isSame_89 : decode b_M_isSame 89 = .ok (.iinc 3 1, 3) := by decide +kernel
theorem d_M_isSame_92 : decode b_M_isSame 92 = .ok (.goto (-57), 3) := by decide +kernel
theorem d_M_isSame_95 : decode b_M_isSame 95 = .ok (.iload_n 2, 1) := by decide +kernel
theorem d_M_isSame_96 : decode b_M_isSame 96 = .ok (.ireturn, 1) := by decide +kernel
theorem zin_M_217 : Cond.constantLong R_M 217 (9 : Int64) ∈ ztb := zmem 1184 (by decide +kernel) (by decide +kernel)
theorem zin_M_206 : Cond.constantLong R_M 206 (11 : Int64) ∈ ztb := zmem 1163 (by decide +kernel) (by decide +kernel)
theorem zin_M_29 : Cond.fieldLink R_M 29 "WireCodecModel" "given" "[B" ∈ ztb := zmem 960 (by decide +kernel) (by decide +kernel)
theorem zin_M_32 : Cond.fieldLink R_M 32 "WireCodecModel" "low" "[J" ∈ ztb := zmem 962 (by decide +kernel) (by decide +kernel)
theorem zin_M_35 : Cond.fieldLink R_M 35 "WireCodecModel" "high" "[J" ∈ ztb := zmem 963 (by decide +kernel) (by decide +kernel)
theorem zin_M_134 : Cond.methodLink R_M 134 y_M_fields ∈ ztb := zmem 1138 (by decide +kernel) (by decide +kernel)
theorem zin_M_221 : Cond.constantLong R_M 221 (17 : Int64) ∈ ztb := zmem 1203 (by decide +kernel) (by decide +kernel)
theorem zin_M_223 : Cond.constantLong R_M 223 (36 : Int64) ∈ ztb := zmem 1204 (by decide +kernel) (by decide +kernel)
theorem zin_M_219 : Cond.constantLong R_M 219 (2000 : Int64) ∈ ztb := zmem 1202 (by decide +kernel) (by decide +kernel)
theorem zin_M_225 : Cond.methodLink R_M 225 y_M_writeGiven ∈ ztb := zmem 1217 (by decide +kernel) (by decide +kernel)
theorem zin_M_233 : Cond.methodLink R_M 233 y_M_sizeOf ∈ ztb := zmem 1205 (by decide +kernel) (by decide +kernel)
theorem zin_M_242 : Cond.methodLink R_M 242 y_M_writeFields ∈ ztb := zmem 1221 (by decide +kernel) (by decide +kernel)
theorem zin_M_239 : Cond.methodLink R_M 239 y_M_writeStream ∈ ztb := zmem 1213 (by decide +kernel) (by decide +kernel)
theorem zin_M_236 : Cond.methodLink R_M 236 y_M_writeAck ∈ ztb := zmem 1209 (by decide +kernel) (by decide +kernel)
theorem zin_M_230 : Cond.methodLink R_M 230 y_M_suits ∈ ztb := zmem 1198 (by decide +kernel) (by decide +kernel)
theorem zin_M_160 : Cond.constantLong R_M 160 (16 : Int64) ∈ ztb := zmem 1141 (by decide +kernel) (by decide +kernel)
theorem zin_M_228 : Cond.constantLong R_M 228 (30 : Int64) ∈ ztb := zmem 1197 (by decide +kernel) (by decide +kernel)
theorem zin_M_39 : Cond.fieldLink R_M 39 "WireCodecModel" "packet" "[I" ∈ ztb := zmem 966 (by decide +kernel) (by decide +kernel)
theorem zin_M_245 : Cond.methodLink R_M 245 y_M_note ∈ ztb := zmem 1234 (by decide +kernel) (by decide +kernel)
theorem zin_M_254 : Cond.constantLong R_M 254 (20 : Int64) ∈ ztb := zmem 1229 (by decide +kernel) (by decide +kernel)
theorem zin_M_256 : Cond.methodLink R_M 256 y_M_takeConnection ∈ ztb := zmem 1246 (by decide +kernel) (by decide +kernel)
noncomputable def g_M_set_w46 (sM_46 : zM) : Option (zM) := some (sM_46)
noncomputable def g_M_set_c33 (v1 : Int32) (v2 : Int64) (sM_33 : zM) (r_33 : Int32) : Option (zM) := if r_33 = (0 : Int32) then (zg (vp_in v1 12) (g_M_set_w46 (zM_draft' sM_33 (vp_updL (zM_draft sM_33) v1.toNatClampNeg v2)))) else (some (sM_33))
noncomputable def g_M_set_32 (sM : zM) (v1 : Int32) (v2 : Int64) (s0 : Int32) : Option (zM) := (g_M_fails sM s0 (1 : Int32)).bind (fun a => g_M_set_c33 v1 v2 a.2 a.1)
noncomputable def g_M_set_31 (sM : zM) (v1 : Int32) (v2 : Int64) : Option (zM) := g_M_set_32 sM v1 v2 (0 : Int32)
noncomputable def g_M_set_c21 (sM : zM) (v1 : Int32) (v2 : Int64) (r_21 : Int32) : Option (zM) := if r_21 = (0 : Int32) then (g_M_set_32 sM v1 v2 (1 : Int32)) else (g_M_set_31 sM v1 v2)
noncomputable def g_M_set_c7 (sM : zM) (v1 : Int32) (v2 : Int64) (r_7 : Int32) : Option (zM) := if r_7 = (0 : Int32) then ((g_M_within v1.toInt64 (9 : Int64) (11 : Int64)).bind (fun a => g_M_set_c21 sM v1 v2 a)) else (g_M_set_31 sM v1 v2)
noncomputable def g_M_set (sM : zM) (v1 : Int32) (v2 : Int64) : Option (zM) := (g_M_within v1.toInt64 (0 : Int64) (3 : Int64)).bind (fun a => g_M_set_c7 sM v1 v2 a)
def q_M_set (dC : Nat → ClassId) (dI : Nat → Nat → Nat) (cB cI cL : ClassId) (A : Nat → Prop) (adM : Nat) (adM_tape : Nat) (adM_frameAt : Nat) (adM_field : Nat) (adM_draft : Nat) (adM_given : Nat) (adM_low : Nat) (adM_high : Nat) (adM_packet : Nat) (adM_known : Nat) (a : zM) : Array Value → State → Outcome → State → Prop := va_Qv (fun (u : zM) => (u) = a) (fun u U => va_P (dC, dI) zcl (zwM adM adM_tape adM_frameAt adM_field adM_draft adM_given adM_low adM_high adM_packet adM_known cB cI cL u) U.heap ∧ va_D A (zwM adM adM_tape adM_frameAt adM_field adM_draft adM_given adM_low adM_high adM_packet adM_known cB cI cL u)) A
set_option maxRecDepth 100000 in
set_option maxHeartbeats 4000000 in
theorem k_M_set_32 {p : Program} {l : Launch} {e : Env} {R : Room} {s : State} {m : MethodId} {args : Array Value} {below : List Frame} {meth : Method} {c : Code} {dC : Nat → ClassId} {dI : Nat → Nat → Nat} {cB cI cL : ClassId} {A : Nat → Prop} (X : zx p s m args meth c R R_M b_M_set none 4 1 25) (hA : ∀ q, s.heap.size ≤ q → A q) (zz : zk dC dI cB cI cL A s)  (sM : zM) (v1 : Int32) (v2 : Int64) (s0 : Int32) (a : zM) (hG : g_M_set_32 sM v1 v2 s0 = some a) (adM adM_tape adM_frameAt adM_field adM_draft adM_given adM_low adM_high adM_packet adM_known : Nat) (H : Heap) (locs : List Loc) (hP : va_P (dC, dI) zcl (zwM adM adM_tape adM_frameAt adM_field adM_draft adM_given adM_low adM_high adM_packet adM_known cB cI cL sM) H) (hD : va_D A (zwM adM adM_tape adM_frameAt adM_field adM_draft adM_given adM_low adM_high adM_packet adM_known cB cI cL sM)) (hS : va_S A s.heap H locs) (ls : Array Slot) (hl : lv_has ls 4 [(0, .ref adM), (1, .int v1), (2, .long v2)]) : W p l e R s m args below meth c H locs 0 0 (MQ below (q_M_set dC dI cB cI cL A adM adM_tape adM_frameAt adM_field adM_draft adM_given adM_low adM_high adM_packet adM_known a) args s 0 0 A) (F0 m 32 ls [.int s0, .ref adM]) := by
  obtain ⟨hx, hb, hr, hml, hown, hts, hlocks, hRf, hRl⟩ := id X
  unfold g_M_set_32 at hG
  refine lv_iconst (v := (1 : Int32)) hx hb d_M_set_32 (by decide) ?_
  obtain ⟨a_33, hx_33, hG⟩ := zb hG
  have hr_33 := zrunV (p := p) (e := e) (below := below) (meth := meth) (As := [.int s0, .int (1 : Int32)]) (rest := []) (st0 := [.int (1 : Int32), .int s0, .ref adM]) (cells := 0) (slots := 0) X zz hP hD hS hA [0, 1, 2, 3, 4, 5, 6, 7, 8, 9] (by decide) rfl (c_M_fails l dC dI cB cI cL H.size adM adM_tape adM_frameAt adM_field adM_draft adM_given adM_low adM_high adM_packet adM_known sM s0 (1 : Int32) _ hx_33) zy_M_fails zv_M_fails (hts (.methodLink R_M 62 y_M_fails) zin_M_62) hl rfl rfl d_M_set_33 (lv_room (Nat.le_of_ble_eq_true rfl)) rfl rfl ⟨Nat.le_trans (Nat.le_of_ble_eq_true rfl) hRf, Nat.le_trans (Nat.le_of_ble_eq_true rfl) hRl⟩ ⟨Nat.zero_le _, Nat.zero_le _⟩ 0 8 rfl rfl
  refine zcalli (wr := ([] : va_W)) hr_33 hP hD hS hA [0, 1, 2, 3, 4, 5, 6, 7, 8, 9] [] rfl rfl (by decide) (by decide) (fun r_33 u_33 H locs hw_33 hP hD hS => ?_)
  obtain ⟨sM_33, rfl⟩ : ∃ z, z = u_33 := ⟨_, rfl⟩
  subst hw_33
  have hP : va_P (dC, dI) zcl (zwM adM adM_tape adM_frameAt adM_field adM_draft adM_given adM_low adM_high adM_packet adM_known cB cI cL sM_33) H := hP
  have hD : va_D A (zwM adM adM_tape adM_frameAt adM_field adM_draft adM_given adM_low adM_high adM_packet adM_known cB cI cL sM_33) := hD
  have hG : g_M_set_c33 v1 v2 sM_33 r_33 = some a := hG
  unfold g_M_set_c33 at hG
  refine lv_if_eq (tgt := 40) hx hb d_M_set_36 (by decide) (fun hc => ?_) (fun hc => ?_)
  · have hG := zt hG hc
    refine lv_aload_n hx hb d_M_set_40 rfl (lv_at hl 0 rfl) ?_
    refine va_get (D := (dC, dI)) (ci := 8) (v := .ref adM_draft) (C := R_M) (T := F_M) (N := 26) hx hb hts zi_M hown zz.1 hP 0 rfl rfl 17 (by decide) (hts (.fieldLink R_M 26 "WireCodecModel" "draft" "[J") zin_M_26) (fun _ h9 => h9) rfl d_M_set_41 ?_
    refine lv_iload_n hx hb d_M_set_44 rfl (lv_at hl 1 rfl) ?_
    refine lv_lload_n hx hb d_M_set_45 rfl (lv_at hl 2 rfl) ?_
    obtain ⟨hin, hG⟩ := zgd hG
    refine va_last hx hb zz.1 hP hD hS 4 2 rfl rfl hin d_M_set_46 (fun H locs hP hD hS => ?_)
    have hP := zp_M_draft hP
    have hD := zd_M_draft hD
    have hG : g_M_set_w46 (zM_draft' sM_33 (vp_updL (zM_draft sM_33) v1.toNatClampNeg v2)) = some a := hG
    generalize zM_draft' sM_33 (vp_updL (zM_draft sM_33) v1.toNatClampNeg v2) = sM_46 at hP hD hG
    unfold g_M_set_w46 at hG
    exact W.vret hx hb hr (fun t9 ht9 hW9 => ⟨⟨(sM_46), rfl, Option.some.inj hG, by rw [ht9]; exact hP, hD⟩, hS.F ht9⟩) hS.2.2 d_M_set_47
  · have hG := zf hG hc
    exact W.vret hx hb hr (fun t9 ht9 hW9 => ⟨⟨(sM_33), rfl, Option.some.inj hG, by rw [ht9]; exact hP, hD⟩, hS.F ht9⟩) hS.2.2 d_M_set_39
set_option maxRecDepth 100000 in
set_option maxHeartbeats 4000000 in
theorem k_M_set_31 {p : Program} {l : Launch} {e : Env} {R : Room} {s : State} {m : MethodId} {args : Array Value} {below : List Frame} {meth : Method} {c : Code} {dC : Nat → ClassId} {dI : Nat → Nat → Nat} {cB cI cL : ClassId} {A : Nat → Prop} (X : zx p s m args meth c R R_M b_M_set none 4 1 25) (hA : ∀ q, s.heap.size ≤ q → A q) (zz : zk dC dI cB cI cL A s)  (sM : zM) (v1 : Int32) (v2 : Int64) (a : zM) (hG : g_M_set_31 sM v1 v2 = some a) (adM adM_tape adM_frameAt adM_field adM_draft adM_given adM_low adM_high adM_packet adM_known : Nat) (H : Heap) (locs : List Loc) (hP : va_P (dC, dI) zcl (zwM adM adM_tape adM_frameAt adM_field adM_draft adM_given adM_low adM_high adM_packet adM_known cB cI cL sM) H) (hD : va_D A (zwM adM adM_tape adM_frameAt adM_field adM_draft adM_given adM_low adM_high adM_packet adM_known cB cI cL sM)) (hS : va_S A s.heap H locs) (ls : Array Slot) (hl : lv_has ls 4 [(0, .ref adM), (1, .int v1), (2, .long v2)]) : W p l e R s m args below meth c H locs 0 0 (MQ below (q_M_set dC dI cB cI cL A adM adM_tape adM_frameAt adM_field adM_draft adM_given adM_low adM_high adM_packet adM_known a) args s 0 0 A) (F0 m 31 ls [.ref adM]) := by
  obtain ⟨hx, hb, hr, hml, hown, hts, hlocks, hRf, hRl⟩ := id X
  unfold g_M_set_31 at hG
  refine lv_iconst (v := (0 : Int32)) hx hb d_M_set_31 (by decide) ?_
  exact k_M_set_32 X hA zz sM v1 v2 (0 : Int32) _ hG adM adM_tape adM_frameAt adM_field adM_draft adM_given adM_low adM_high adM_packet adM_known _ _ hP hD hS _ (lv_sub hl [0, 1, 2] rfl)
set_option maxRecDepth 100000 in
set_option maxHeartbeats 4000000 in
theorem k_M_set_0 {p : Program} {l : Launch} {e : Env} {R : Room} {s : State} {m : MethodId} {args : Array Value} {below : List Frame} {meth : Method} {c : Code} {dC : Nat → ClassId} {dI : Nat → Nat → Nat} {cB cI cL : ClassId} {A : Nat → Prop} (X : zx p s m args meth c R R_M b_M_set none 4 1 25) (hA : ∀ q, s.heap.size ≤ q → A q) (zz : zk dC dI cB cI cL A s)  (sM : zM) (v1 : Int32) (v2 : Int64) (a : zM) (hG : g_M_set sM v1 v2 = some a) (adM adM_tape adM_frameAt adM_field adM_draft adM_given adM_low adM_high adM_packet adM_known : Nat) (H : Heap) (locs : List Loc) (hP : va_P (dC, dI) zcl (zwM adM adM_tape adM_frameAt adM_field adM_draft adM_given adM_low adM_high adM_packet adM_known cB cI cL sM) H) (hD : va_D A (zwM adM adM_tape adM_frameAt adM_field adM_draft adM_given adM_low adM_high adM_packet adM_known cB cI cL sM)) (hS : va_S A s.heap H locs) (ls : Array Slot) (hl : lv_has ls 4 [(0, .ref adM), (1, .int v1), (2, .long v2)]) : W p l e R s m args below meth c H locs 0 0 (MQ below (q_M_set dC dI cB cI cL A adM adM_tape adM_frameAt adM_field adM_draft adM_given adM_low adM_high adM_packet adM_known a) args s 0 0 A) (F0 m 0 ls []) := by
  obtain ⟨hx, hb, hr, hml, hown, hts, hlocks, hRf, hRl⟩ := id X
  unfold g_M_set at hG
  refine lv_aload_n hx hb d_M_set_0 rfl (lv_at hl 0 rfl) ?_
  refine lv_iload_n hx hb d_M_set_1 rfl (lv_at hl 1 rfl) ?_
  refine lv_i2l hx hb d_M_set_2 rfl ?_
  refine lv_lconst (v := (0 : Int64)) hx hb d_M_set_3 (by decide) ?_
  refine lv_ldc2 (v := (3 : Int64)) hx hb hown (hts (.constantLong R_M 78 (3 : Int64)) zin_M_78) d_M_set_4 ?_
  obtain ⟨a_7, hx_7, hG⟩ := zb hG
  have hr_7 := zrunS (p := p) (e := e) (below := below) (meth := meth) (As := [.long v1.toInt64, .long (0 : Int64), .long (3 : Int64)]) (rest := [.ref adM]) (st0 := [.long (3 : Int64), .long (0 : Int64), .long v1.toInt64, .ref adM]) (cells := 0) (slots := 0) X zz hP hD hS hA [] (by decide) rfl (c_M_within l dC dI cB cI cL H.size v1.toInt64 (0 : Int64) (3 : Int64) _ hx_7) zy_M_within zv_M_within (hts (.methodLink R_M 53 y_M_within) zin_M_53) hl rfl rfl d_M_set_7 (lv_room (Nat.le_of_ble_eq_true rfl)) rfl rfl ⟨Nat.le_trans (Nat.le_of_ble_eq_true rfl) hRf, Nat.le_trans (Nat.le_of_ble_eq_true rfl) hRl⟩ ⟨Nat.zero_le _, Nat.zero_le _⟩
  refine zcalli (wr := (zwM adM adM_tape adM_frameAt adM_field adM_draft adM_given adM_low adM_high adM_packet adM_known cB cI cL sM)) hr_7 hP hD hS hA [] [0, 1, 2, 3, 4, 5, 6, 7, 8, 9] rfl rfl (by decide) (by decide) (fun r_7 u_7 H locs hw_7 hP hD hS => ?_)
  subst hw_7
  have hP : va_P (dC, dI) zcl (zwM adM adM_tape adM_frameAt adM_field adM_draft adM_given adM_low adM_high adM_packet adM_known cB cI cL sM) H := hP
  have hD : va_D A (zwM adM adM_tape adM_frameAt adM_field adM_draft adM_given adM_low adM_high adM_packet adM_known cB cI cL sM) := hD
  have hG : g_M_set_c7 sM v1 v2 r_7 = some a := hG
  unfold g_M_set_c7 at hG
  refine lv_if_ne (tgt := 31) hx hb d_M_set_10 (by decide) (fun hc => ?_) (fun hc => ?_)
  · have hG := zf hG hc
    exact k_M_set_31 X hA zz sM v1 v2 _ hG adM adM_tape adM_frameAt adM_field adM_draft adM_given adM_low adM_high adM_packet adM_known _ _ hP hD hS _ (lv_sub hl [0, 1, 2] rfl)
  · have hG := zt hG hc
    refine lv_iload_n hx hb d_M_set_13 rfl (lv_at hl 1 rfl) ?_
    refine lv_i2l hx hb d_M_set_14 rfl ?_
    refine lv_ldc2 (v := (9 : Int64)) hx hb hown (hts (.constantLong R_M 217 (9 : Int64)) zin_M_217) d_M_set_15 ?_
    refine lv_ldc2 (v := (11 : Int64)) hx hb hown (hts (.constantLong R_M 206 (11 : Int64)) zin_M_206) d_M_set_18 ?_
    obtain ⟨a_21, hx_21, hG⟩ := zb hG
    have hr_21 := zrunS (p := p) (e := e) (below := below) (meth := meth) (As := [.long v1.toInt64, .long (9 : Int64), .long (11 : Int64)]) (rest := [.ref adM]) (st0 := [.long (11 : Int64), .long (9 : Int64), .long v1.toInt64, .ref adM]) (cells := 0) (slots := 0) X zz hP hD hS hA [] (by decide) rfl (c_M_within l dC dI cB cI cL H.size v1.toInt64 (9 : Int64) (11 : Int64) _ hx_21) zy_M_within zv_M_within (hts (.methodLink R_M 53 y_M_within) zin_M_53) hl rfl rfl d_M_set_21 (lv_room (Nat.le_of_ble_eq_true rfl)) rfl rfl ⟨Nat.le_trans (Nat.le_of_ble_eq_true rfl) hRf, Nat.le_trans (Nat.le_of_ble_eq_true rfl) hRl⟩ ⟨Nat.zero_le _, Nat.zero_le _⟩
    refine zcalli (wr := (zwM adM adM_tape adM_frameAt adM_field adM_draft adM_given adM_low adM_high adM_packet adM_known cB cI cL sM)) hr_21 hP hD hS hA [] [0, 1, 2, 3, 4, 5, 6, 7, 8, 9] rfl rfl (by decide) (by decide) (fun r_21 u_21 H locs hw_21 hP hD hS => ?_)
    subst hw_21
    have hP : va_P (dC, dI) zcl (zwM adM adM_tape adM_frameAt adM_field adM_draft adM_given adM_low adM_high adM_packet adM_known cB cI cL sM) H := hP
    have hD : va_D A (zwM adM adM_tape adM_frameAt adM_field adM_draft adM_given adM_low adM_high adM_packet adM_known cB cI cL sM) := hD
    have hG : g_M_set_c21 sM v1 v2 r_21 = some a := hG
    unfold g_M_set_c21 at hG
    refine lv_if_ne (tgt := 31) hx hb d_M_set_24 (by decide) (fun hc => ?_) (fun hc => ?_)
    · have hG := zf hG hc
      exact k_M_set_31 X hA zz sM v1 v2 _ hG adM adM_tape adM_frameAt adM_field adM_draft adM_given adM_low adM_high adM_packet adM_known _ _ hP hD hS _ (lv_sub hl [0, 1, 2] rfl)
    · have hG := zt hG hc
      refine lv_iconst (v := (1 : Int32)) hx hb d_M_set_27 (by decide) ?_
      refine lv_goto (tgt := 32) hx hb d_M_set_28 (by decide) ?_
      exact k_M_set_32 X hA zz sM v1 v2 (1 : Int32) _ hG adM adM_tape adM_frameAt adM_field adM_draft adM_given adM_low adM_high adM_packet adM_known _ _ hP hD hS _ (lv_sub hl [0, 1, 2] rfl)
set_option maxRecDepth 100000 in
set_option maxHeartbeats 4000000 in
theorem c_M_set (l : Launch) (dC : Nat → ClassId) (dI : Nat → Nat → Nat) (cB cI cL : ClassId) (sz : Nat) (adM adM_tape adM_frameAt adM_field adM_draft adM_given adM_low adM_high adM_packet adM_known : Nat) (sM : zM) (v1 : Int32) (v2 : Int64) (a : zM) (hG : g_M_set sM v1 v2 = some a) : Met l y_M_set (zw y_M_set b_M_set 4 none) ({ frames := 1, cells := 0, slots := 0, locals := 25 }) (va_Pc [.ref adM, .int v1, .long v2] (zpre dC dI cB cI cL sz (zwM adM adM_tape adM_frameAt adM_field adM_draft adM_given adM_low adM_high adM_packet adM_known cB cI cL sM))) (q_M_set dC dI cB cI cL (va_A (zwM adM adM_tape adM_frameAt adM_field adM_draft adM_given adM_low adM_high adM_packet adM_known cB cI cL sM) sz) adM adM_tape adM_frameAt adM_field adM_draft adM_given adM_low adM_high adM_packet adM_known a) 0 0 (va_A (zwM adM adM_tape adM_frameAt adM_field adM_draft adM_given adM_low adM_high adM_packet adM_known cB cI cL sM) sz) := by
  refine Met.ofW (cc := b_M_set) (maxL := 4) (ret := none) (by decide) rfl ?_
  intro p e s m args below meth c s₁ B hml hv
  obtain ⟨rfl, hsz, hP, zz, hD0⟩ := hv
  subst hsz
  have X := zx_of (F := 1) (L := 25) B hml (Nat.le_refl _) (Nat.le_refl _)
  have hD := hD0.self (sz := s.heap.size)
  have hA : ∀ q : Nat, s.heap.size ≤ q → va_A (zwM adM adM_tape adM_frameAt adM_field adM_draft adM_given adM_low adM_high adM_packet adM_known cB cI cL sM) s.heap.size q := fun q h => Or.inr h
  have hl := lv_entry ([.ref adM, .int v1, .long v2]) (n := 4) (Nat.le_of_ble_eq_true rfl)
  rw [lg_entry_eq]
  generalize (lg_sl ([.ref adM, .int v1, .long v2]) ++ List.replicate (4 - (lg_sl ([.ref adM, .int v1, .long v2])).length) Slot.unset).toArray = ls at hl ⊢
  exact k_M_set_0 X hA zz sM v1 v2 a hG adM adM_tape adM_frameAt adM_field adM_draft adM_given adM_low adM_high adM_packet adM_known _ _ hP hD va_S.rf ls hl
noncomputable def g_M_add_50 (N : Nat) (sM : zM) : Option (Int32 × zM) := some ((0 : Int32), sM)
noncomputable def g_M_add_w87 (kr : zM → Int64 → Int32 → Option (Int32 × zM)) (v1 : Int64) (v4 : Int32) (sM_87 : zM) : Option (Int32 × zM) := kr sM_87 v1 (v4 + (-1))
noncomputable def g_M_add_w79 (kr : zM → Int64 → Int32 → Option (Int32 × zM)) (v1 : Int64) (v4 : Int32) (sM_79 : zM) : Option (Int32 × zM) := g_M_add_w87 kr v1 v4 (zM_gives' sM_79 ((zM_gives sM_79) + (1 : Int32)))
noncomputable def g_M_add_57_b (N : Nat) (kr : zM → Int64 → Int32 → Option (Int32 × zM)) (sM : zM) (v1 : Int64) (v4 : Int32) : Option (Int32 × zM) := if v4 < (0 : Int32) then (some (zM_gives sM, sM)) else (zg (vp_in (zM_gives sM) 2000) (g_M_add_w79 kr v1 v4 (zM_given' sM (upd (zM_given sM) ((zM_gives sM).toNatClampNeg) (vp_nar .byte (((v1 >>> (((8 : Int32) * v4).toInt64 &&& 63)).toInt32).toInt8.toInt32))))))
noncomputable def g_M_add_57 (N : Nat) : Nat → zM → Int64 → Int32 → Option (Int32 × zM)
  | 0 => fun _ _ _ => none
  | k + 1 => fun sM v1 v4 => g_M_add_57_b N (g_M_add_57 N k) sM v1 v4
noncomputable def g_M_add_c44 (N : Nat) (v1 : Int64) (v3 : Int32) (sM_44 : zM) (r_44 : Int32) : Option (Int32 × zM) := if r_44 = (0 : Int32) then (g_M_add_57 N N sM_44 v1 (v3 - (1 : Int32))) else (g_M_add_50 N sM_44)
noncomputable def g_M_add_43 (N : Nat) (sM : zM) (v1 : Int64) (v3 : Int32) (s0 : Int32) : Option (Int32 × zM) := (g_M_fails sM s0 (2 : Int32)).bind (fun a => g_M_add_c44 N v1 v3 a.2 a.1)
noncomputable def g_M_add_c19 (N : Nat) (v1 : Int64) (v3 : Int32) (sM_19 : zM) (r_19 : Int32) : Option (Int32 × zM) := if r_19 = (0 : Int32) then (if ((zM_gives sM_19) + v3) ≤ (2000 : Int32) then (g_M_add_43 N sM_19 v1 v3 (0 : Int32)) else (g_M_add_43 N sM_19 v1 v3 (1 : Int32))) else (g_M_add_50 N sM_19)
noncomputable def g_M_add_18 (N : Nat) (sM : zM) (v1 : Int64) (v3 : Int32) (s0 : Int32) : Option (Int32 × zM) := (g_M_fails sM s0 (1 : Int32)).bind (fun a => g_M_add_c19 N v1 v3 a.2 a.1)
noncomputable def g_M_add_c7 (N : Nat) (sM : zM) (v1 : Int64) (v3 : Int32) (r_7 : Int32) : Option (Int32 × zM) := if r_7 = (0 : Int32) then (g_M_add_18 N sM v1 v3 (1 : Int32)) else (g_M_add_18 N sM v1 v3 (0 : Int32))
noncomputable def g_M_add (N : Nat) (sM : zM) (v1 : Int64) (v3 : Int32) : Option (Int32 × zM) := (g_M_within v3.toInt64 (1 : Int64) (8 : Int64)).bind (fun a => g_M_add_c7 N sM v1 v3 a)
def q_M_add (dC : Nat → ClassId) (dI : Nat → Nat → Nat) (cB cI cL : ClassId) (A : Nat → Prop) (adM : Nat) (adM_tape : Nat) (adM_frameAt : Nat) (adM_field : Nat) (adM_draft : Nat) (adM_given : Nat) (adM_low : Nat) (adM_high : Nat) (adM_packet : Nat) (adM_known : Nat) (a : Int32 × zM) : Array Value → State → Outcome → State → Prop := va_Qi (fun (r : Int32) (u : zM) => (r, u) = a) (fun u U => va_P (dC, dI) zcl (zwM adM adM_tape adM_frameAt adM_field adM_draft adM_given adM_low adM_high adM_packet adM_known cB cI cL u) U.heap ∧ va_D A (zwM adM adM_tape adM_frameAt adM_field adM_draft adM_given adM_low adM_high adM_packet adM_known cB cI cL u)) A
set_option maxRecDepth 100000 in
set_option maxHeartbeats 4000000 in
theorem k_M_add_50 {p : Program} {l : Launch} {e : Env} {R : Room} {s : State} {m : MethodId} {args : Array Value} {below : List Frame} {meth : Method} {c : Code} {dC : Nat → ClassId} {dI : Nat → Nat → Nat} {cB cI cL : ClassId} {A : Nat → Prop} (X : zx p s m args meth c R R_M b_M_add (some .int) 5 1 25) (hA : ∀ q, s.heap.size ≤ q → A q) (zz : zk dC dI cB cI cL A s)  (N : Nat) (sM : zM) (a : Int32 × zM) (hG : g_M_add_50 N sM = some a) (adM adM_tape adM_frameAt adM_field adM_draft adM_given adM_low adM_high adM_packet adM_known : Nat) (H : Heap) (locs : List Loc) (hP : va_P (dC, dI) zcl (zwM adM adM_tape adM_frameAt adM_field adM_draft adM_given adM_low adM_high adM_packet adM_known cB cI cL sM) H) (hD : va_D A (zwM adM adM_tape adM_frameAt adM_field adM_draft adM_given adM_low adM_high adM_packet adM_known cB cI cL sM)) (hS : va_S A s.heap H locs) (ls : Array Slot) (hl : lv_has ls 5 []) : W p l e R s m args below meth c H locs 0 0 (MQ below (q_M_add dC dI cB cI cL A adM adM_tape adM_frameAt adM_field adM_draft adM_given adM_low adM_high adM_packet adM_known a) args s 0 0 A) (F0 m 50 ls []) := by
  obtain ⟨hx, hb, hr, hml, hown, hts, hlocks, hRf, hRl⟩ := id X
  unfold g_M_add_50 at hG
  refine lv_iconst (v := (0 : Int32)) hx hb d_M_add_50 (by decide) ?_
  exact W.iret (v := (0 : Int32)) hx hb hr (fun t9 ht9 hW9 => ⟨⟨(0 : Int32), (sM), rfl, Option.some.inj hG, by rw [ht9]; exact hP, hD⟩, hS.F ht9⟩) hS.2.2 d_M_add_51
set_option maxRecDepth 100000 in
set_option maxHeartbeats 4000000 in
theorem k_M_add_57_b {p : Program} {l : Launch} {e : Env} {R : Room} {s : State} {m : MethodId} {args : Array Value} {below : List Frame} {meth : Method} {c : Code} {dC : Nat → ClassId} {dI : Nat → Nat → Nat} {cB cI cL : ClassId} {A : Nat → Prop} (kr : zM → Int64 → Int32 → Option (Int32 × zM)) (hrec : ∀ (sM : zM) (v1 : Int64) (v4 : Int32) (a : Int32 × zM), kr sM v1 v4 = some a → ∀ (adM adM_tape adM_frameAt adM_field adM_draft adM_given adM_low adM_high adM_packet adM_known : Nat) (H : Heap) (locs : List Loc), va_P (dC, dI) zcl (zwM adM adM_tape adM_frameAt adM_field adM_draft adM_given adM_low adM_high adM_packet adM_known cB cI cL sM) H → va_D A (zwM adM adM_tape adM_frameAt adM_field adM_draft adM_given adM_low adM_high adM_packet adM_known cB cI cL sM) → va_S A s.heap H locs → ∀ ls : Array Slot, lv_has ls 5 [(0, .ref adM), (1, .long v1), (4, .int v4)] → W p l e R s m args below meth c H locs 0 0 (MQ below (q_M_add dC dI cB cI cL A adM adM_tape adM_frameAt adM_field adM_draft adM_given adM_low adM_high adM_packet adM_known a) args s 0 0 A) (F0 m 57 ls [])) (X : zx p s m args meth c R R_M b_M_add (some .int) 5 1 25) (hA : ∀ q, s.heap.size ≤ q → A q) (zz : zk dC dI cB cI cL A s)  (N : Nat) (sM : zM) (v1 : Int64) (v4 : Int32) (a : Int32 × zM) (hG : g_M_add_57_b N kr sM v1 v4 = some a) (adM adM_tape adM_frameAt adM_field adM_draft adM_given adM_low adM_high adM_packet adM_known : Nat) (H : Heap) (locs : List Loc) (hP : va_P (dC, dI) zcl (zwM adM adM_tape adM_frameAt adM_field adM_draft adM_given adM_low adM_high adM_packet adM_known cB cI cL sM) H) (hD : va_D A (zwM adM adM_tape adM_frameAt adM_field adM_draft adM_given adM_low adM_high adM_packet adM_known cB cI cL sM)) (hS : va_S A s.heap H locs) (ls : Array Slot) (hl : lv_has ls 5 [(0, .ref adM), (1, .long v1), (4, .int v4)]) : W p l e R s m args below meth c H locs 0 0 (MQ below (q_M_add dC dI cB cI cL A adM adM_tape adM_frameAt adM_field adM_draft adM_given adM_low adM_high adM_packet adM_known a) args s 0 0 A) (F0 m 57 ls []) := by
  obtain ⟨hx, hb, hr, hml, hown, hts, hlocks, hRf, hRl⟩ := id X
  unfold g_M_add_57_b at hG
  refine lv_iload hx hb d_M_add_57 (lv_at hl 2 rfl) ?_
  refine lv_if_lt (tgt := 96) hx hb d_M_add_59 (by decide) (fun hc => ?_) (fun hc => ?_)
  · have hG := zt hG hc
    refine lv_aload_n hx hb d_M_add_96 rfl (lv_at hl 0 rfl) ?_
    refine va_get (D := (dC, dI)) (ci := 8) (v := .int (zM_gives sM)) (C := R_M) (T := F_M) (N := 26) hx hb hts zi_M hown zz.1 hP 0 rfl rfl 19 (by decide) (hts (.fieldLink R_M 211 "WireCodecModel" "gives" "I") zin_M_211) (fun _ h9 => h9) rfl d_M_add_97 ?_
    exact W.iret (v := zM_gives sM) hx hb hr (fun t9 ht9 hW9 => ⟨⟨zM_gives sM, (sM), rfl, Option.some.inj hG, by rw [ht9]; exact hP, hD⟩, hS.F ht9⟩) hS.2.2 d_M_add_100
  · have hG := zf hG hc
    refine lv_aload_n hx hb d_M_add_62 rfl (lv_at hl 0 rfl) ?_
    refine va_get (D := (dC, dI)) (ci := 8) (v := .ref adM_given) (C := R_M) (T := F_M) (N := 26) hx hb hts zi_M hown zz.1 hP 0 rfl rfl 18 (by decide) (hts (.fieldLink R_M 29 "WireCodecModel" "given" "[B") zin_M_29) (fun _ h9 => h9) rfl d_M_add_63 ?_
    refine lv_aload_n hx hb d_M_add_66 rfl (lv_at hl 0 rfl) ?_
    refine va_get (D := (dC, dI)) (ci := 8) (v := .int (zM_gives sM)) (C := R_M) (T := F_M) (N := 26) hx hb hts zi_M hown zz.1 hP 0 rfl rfl 19 (by decide) (hts (.fieldLink R_M 211 "WireCodecModel" "gives" "I") zin_M_211) (fun _ h9 => h9) rfl d_M_add_67 ?_
    refine lv_lload_n hx hb d_M_add_70 rfl (lv_at hl 1 rfl) ?_
    refine lv_bipush (v := (8 : Int32)) hx hb d_M_add_71 (by decide) ?_
    refine lv_iload hx hb d_M_add_73 (lv_at hl 2 rfl) ?_
    refine lv_imul hx hb d_M_add_75 ?_
    refine lv_lshr hx hb d_M_add_76 rfl ?_
    refine lv_l2i hx hb d_M_add_77 rfl ?_
    refine lv_i2b hx hb d_M_add_78 rfl ?_
    obtain ⟨hin, hG⟩ := zgd hG
    refine va_bast hx hb zz.1 hP hD hS 5 0 rfl rfl hin d_M_add_79 (fun H locs hP hD hS => ?_)
    have hP := zp_M_given hP
    have hD := zd_M_given hD
    have hG : g_M_add_w79 kr v1 v4 (zM_given' sM (upd (zM_given sM) ((zM_gives sM).toNatClampNeg) (vp_nar .byte (((v1 >>> (((8 : Int32) * v4).toInt64 &&& 63)).toInt32).toInt8.toInt32)))) = some a := hG
    generalize zM_given' sM (upd (zM_given sM) ((zM_gives sM).toNatClampNeg) (vp_nar .byte (((v1 >>> (((8 : Int32) * v4).toInt64 &&& 63)).toInt32).toInt8.toInt32))) = sM_79 at hP hD hG
    unfold g_M_add_w79 at hG
    refine lv_aload_n hx hb d_M_add_80 rfl (lv_at hl 0 rfl) ?_
    refine lv_dup hx hb d_M_add_81 rfl ?_
    refine va_get (D := (dC, dI)) (ci := 8) (v := .int (zM_gives sM_79)) (C := R_M) (T := F_M) (N := 26) hx hb hts zi_M hown zz.1 hP 0 rfl rfl 19 (by decide) (hts (.fieldLink R_M 211 "WireCodecModel" "gives" "I") zin_M_211) (fun _ h9 => h9) rfl d_M_add_82 ?_
    refine lv_iconst (v := (1 : Int32)) hx hb d_M_add_85 (by decide) ?_
    refine lv_iadd hx hb d_M_add_86 ?_
    refine va_put (D := (dC, dI)) (ci := 8) (v := .int ((zM_gives sM_79) + (1 : Int32))) (ty := .int) (C := R_M) (T := F_M) (N := 26) hx hb hts zi_M zty_M zty_M_ok znm_M hown zz.1 hP hD hS 0 rfl rfl 19 (by decide) (hts (.fieldLink R_M 211 "WireCodecModel" "gives" "I") zin_M_211) (fun _ h9 => h9) rfl (by decide +kernel) rfl rfl (Nat.le_of_ble_eq_true rfl) d_M_add_87 (fun H locs hP hD hS => ?_)
    have hP := zp_M_gives hP
    have hD := zd_M_gives hD
    have hG : g_M_add_w87 kr v1 v4 (zM_gives' sM_79 ((zM_gives sM_79) + (1 : Int32))) = some a := hG
    generalize zM_gives' sM_79 ((zM_gives sM_79) + (1 : Int32)) = sM_87 at hP hD hG
    unfold g_M_add_w87 at hG
    refine lv_iinc (v := v4 + (-1)) (lv' := [(4, .int (v4 + (-1))), (0, .ref adM), (1, .long v1)]) hx hb d_M_add_90 hl (k := 2) rfl rfl (by decide) rfl (fun ls hl => ?_)
    refine lv_goto (tgt := 57) hx hb d_M_add_93 (by decide) ?_
    exact hrec sM_87 v1 (v4 + (-1)) _ hG adM adM_tape adM_frameAt adM_field adM_draft adM_given adM_low adM_high adM_packet adM_known _ _ hP hD hS _ (lv_sub hl [1, 2, 0] rfl)
theorem k_M_add_57 {p : Program} {l : Launch} {e : Env} {R : Room} {s : State} {m : MethodId} {args : Array Value} {below : List Frame} {meth : Method} {c : Code} {dC : Nat → ClassId} {dI : Nat → Nat → Nat} {cB cI cL : ClassId} {A : Nat → Prop} (X : zx p s m args meth c R R_M b_M_add (some .int) 5 1 25) (hA : ∀ q, s.heap.size ≤ q → A q) (zz : zk dC dI cB cI cL A s)  (N : Nat) : ∀ (k : Nat) (sM : zM) (v1 : Int64) (v4 : Int32) (a : Int32 × zM) (hG : g_M_add_57 N k sM v1 v4 = some a) (adM adM_tape adM_frameAt adM_field adM_draft adM_given adM_low adM_high adM_packet adM_known : Nat) (H : Heap) (locs : List Loc) (hP : va_P (dC, dI) zcl (zwM adM adM_tape adM_frameAt adM_field adM_draft adM_given adM_low adM_high adM_packet adM_known cB cI cL sM) H) (hD : va_D A (zwM adM adM_tape adM_frameAt adM_field adM_draft adM_given adM_low adM_high adM_packet adM_known cB cI cL sM)) (hS : va_S A s.heap H locs) (ls : Array Slot) (hl : lv_has ls 5 [(0, .ref adM), (1, .long v1), (4, .int v4)]), W p l e R s m args below meth c H locs 0 0 (MQ below (q_M_add dC dI cB cI cL A adM adM_tape adM_frameAt adM_field adM_draft adM_given adM_low adM_high adM_packet adM_known a) args s 0 0 A) (F0 m 57 ls []) := by
  intro k
  induction k with
  | zero => intro sM v1 v4 a hG; exact absurd hG (by unfold g_M_add_57; simp)
  | succ k ih => intro sM v1 v4 a hG adM adM_tape adM_frameAt adM_field adM_draft adM_given adM_low adM_high adM_packet adM_known H locs hP hD hS ls hl; exact k_M_add_57_b _ ih X hA zz N sM v1 v4 a hG adM adM_tape adM_frameAt adM_field adM_draft adM_given adM_low adM_high adM_packet adM_known H locs hP hD hS ls hl
set_option maxRecDepth 100000 in
set_option maxHeartbeats 4000000 in
theorem k_M_add_43 {p : Program} {l : Launch} {e : Env} {R : Room} {s : State} {m : MethodId} {args : Array Value} {below : List Frame} {meth : Method} {c : Code} {dC : Nat → ClassId} {dI : Nat → Nat → Nat} {cB cI cL : ClassId} {A : Nat → Prop} (X : zx p s m args meth c R R_M b_M_add (some .int) 5 1 25) (hA : ∀ q, s.heap.size ≤ q → A q) (zz : zk dC dI cB cI cL A s)  (N : Nat) (sM : zM) (v1 : Int64) (v3 : Int32) (s0 : Int32) (a : Int32 × zM) (hG : g_M_add_43 N sM v1 v3 s0 = some a) (adM adM_tape adM_frameAt adM_field adM_draft adM_given adM_low adM_high adM_packet adM_known : Nat) (H : Heap) (locs : List Loc) (hP : va_P (dC, dI) zcl (zwM adM adM_tape adM_frameAt adM_field adM_draft adM_given adM_low adM_high adM_packet adM_known cB cI cL sM) H) (hD : va_D A (zwM adM adM_tape adM_frameAt adM_field adM_draft adM_given adM_low adM_high adM_packet adM_known cB cI cL sM)) (hS : va_S A s.heap H locs) (ls : Array Slot) (hl : lv_has ls 5 [(0, .ref adM), (1, .long v1), (3, .int v3)]) : W p l e R s m args below meth c H locs 0 0 (MQ below (q_M_add dC dI cB cI cL A adM adM_tape adM_frameAt adM_field adM_draft adM_given adM_low adM_high adM_packet adM_known a) args s 0 0 A) (F0 m 43 ls [.int s0, .ref adM]) := by
  obtain ⟨hx, hb, hr, hml, hown, hts, hlocks, hRf, hRl⟩ := id X
  unfold g_M_add_43 at hG
  refine lv_iconst (v := (2 : Int32)) hx hb d_M_add_43 (by decide) ?_
  obtain ⟨a_44, hx_44, hG⟩ := zb hG
  have hr_44 := zrunV (p := p) (e := e) (below := below) (meth := meth) (As := [.int s0, .int (2 : Int32)]) (rest := []) (st0 := [.int (2 : Int32), .int s0, .ref adM]) (cells := 0) (slots := 0) X zz hP hD hS hA [0, 1, 2, 3, 4, 5, 6, 7, 8, 9] (by decide) rfl (c_M_fails l dC dI cB cI cL H.size adM adM_tape adM_frameAt adM_field adM_draft adM_given adM_low adM_high adM_packet adM_known sM s0 (2 : Int32) _ hx_44) zy_M_fails zv_M_fails (hts (.methodLink R_M 62 y_M_fails) zin_M_62) hl rfl rfl d_M_add_44 (lv_room (Nat.le_of_ble_eq_true rfl)) rfl rfl ⟨Nat.le_trans (Nat.le_of_ble_eq_true rfl) hRf, Nat.le_trans (Nat.le_of_ble_eq_true rfl) hRl⟩ ⟨Nat.zero_le _, Nat.zero_le _⟩ 0 8 rfl rfl
  refine zcalli (wr := ([] : va_W)) hr_44 hP hD hS hA [0, 1, 2, 3, 4, 5, 6, 7, 8, 9] [] rfl rfl (by decide) (by decide) (fun r_44 u_44 H locs hw_44 hP hD hS => ?_)
  obtain ⟨sM_44, rfl⟩ : ∃ z, z = u_44 := ⟨_, rfl⟩
  subst hw_44
  have hP : va_P (dC, dI) zcl (zwM adM adM_tape adM_frameAt adM_field adM_draft adM_given adM_low adM_high adM_packet adM_known cB cI cL sM_44) H := hP
  have hD : va_D A (zwM adM adM_tape adM_frameAt adM_field adM_draft adM_given adM_low adM_high adM_packet adM_known cB cI cL sM_44) := hD
  have hG : g_M_add_c44 N v1 v3 sM_44 r_44 = some a := hG
  unfold g_M_add_c44 at hG
  refine lv_if_eq (tgt := 52) hx hb d_M_add_47 (by decide) (fun hc => ?_) (fun hc => ?_)
  · have hG := zt hG hc
    refine lv_iload_n hx hb d_M_add_52 rfl (lv_at hl 2 rfl) ?_
    refine lv_iconst (v := (1 : Int32)) hx hb d_M_add_53 (by decide) ?_
    refine lv_isub hx hb d_M_add_54 ?_
    refine lv_istore (lv' := [(4, .int (v3 - (1 : Int32))), (0, .ref adM), (1, .long v1), (3, .int v3)]) hx hb d_M_add_55 hl (by decide) rfl (fun ls hl => ?_)
    exact k_M_add_57 X hA zz N N sM_44 v1 (v3 - (1 : Int32)) _ hG adM adM_tape adM_frameAt adM_field adM_draft adM_given adM_low adM_high adM_packet adM_known _ _ hP hD hS _ (lv_sub hl [1, 2, 0] rfl)
  · have hG := zf hG hc
    exact k_M_add_50 X hA zz N sM_44 _ hG adM adM_tape adM_frameAt adM_field adM_draft adM_given adM_low adM_high adM_packet adM_known _ _ hP hD hS _ (lv_sub hl [] rfl)
set_option maxRecDepth 100000 in
set_option maxHeartbeats 4000000 in
theorem k_M_add_18 {p : Program} {l : Launch} {e : Env} {R : Room} {s : State} {m : MethodId} {args : Array Value} {below : List Frame} {meth : Method} {c : Code} {dC : Nat → ClassId} {dI : Nat → Nat → Nat} {cB cI cL : ClassId} {A : Nat → Prop} (X : zx p s m args meth c R R_M b_M_add (some .int) 5 1 25) (hA : ∀ q, s.heap.size ≤ q → A q) (zz : zk dC dI cB cI cL A s)  (N : Nat) (sM : zM) (v1 : Int64) (v3 : Int32) (s0 : Int32) (a : Int32 × zM) (hG : g_M_add_18 N sM v1 v3 s0 = some a) (adM adM_tape adM_frameAt adM_field adM_draft adM_given adM_low adM_high adM_packet adM_known : Nat) (H : Heap) (locs : List Loc) (hP : va_P (dC, dI) zcl (zwM adM adM_tape adM_frameAt adM_field adM_draft adM_given adM_low adM_high adM_packet adM_known cB cI cL sM) H) (hD : va_D A (zwM adM adM_tape adM_frameAt adM_field adM_draft adM_given adM_low adM_high adM_packet adM_known cB cI cL sM)) (hS : va_S A s.heap H locs) (ls : Array Slot) (hl : lv_has ls 5 [(0, .ref adM), (1, .long v1), (3, .int v3)]) : W p l e R s m args below meth c H locs 0 0 (MQ below (q_M_add dC dI cB cI cL A adM adM_tape adM_frameAt adM_field adM_draft adM_given adM_low adM_high adM_packet adM_known a) args s 0 0 A) (F0 m 18 ls [.int s0, .ref adM]) := by
  obtain ⟨hx, hb, hr, hml, hown, hts, hlocks, hRf, hRl⟩ := id X
  unfold g_M_add_18 at hG
  refine lv_iconst (v := (1 : Int32)) hx hb d_M_add_18 (by decide) ?_
  obtain ⟨a_19, hx_19, hG⟩ := zb hG
  have hr_19 := zrunV (p := p) (e := e) (below := below) (meth := meth) (As := [.int s0, .int (1 : Int32)]) (rest := []) (st0 := [.int (1 : Int32), .int s0, .ref adM]) (cells := 0) (slots := 0) X zz hP hD hS hA [0, 1, 2, 3, 4, 5, 6, 7, 8, 9] (by decide) rfl (c_M_fails l dC dI cB cI cL H.size adM adM_tape adM_frameAt adM_field adM_draft adM_given adM_low adM_high adM_packet adM_known sM s0 (1 : Int32) _ hx_19) zy_M_fails zv_M_fails (hts (.methodLink R_M 62 y_M_fails) zin_M_62) hl rfl rfl d_M_add_19 (lv_room (Nat.le_of_ble_eq_true rfl)) rfl rfl ⟨Nat.le_trans (Nat.le_of_ble_eq_true rfl) hRf, Nat.le_trans (Nat.le_of_ble_eq_true rfl) hRl⟩ ⟨Nat.zero_le _, Nat.zero_le _⟩ 0 8 rfl rfl
  refine zcalli (wr := ([] : va_W)) hr_19 hP hD hS hA [0, 1, 2, 3, 4, 5, 6, 7, 8, 9] [] rfl rfl (by decide) (by decide) (fun r_19 u_19 H locs hw_19 hP hD hS => ?_)
  obtain ⟨sM_19, rfl⟩ : ∃ z, z = u_19 := ⟨_, rfl⟩
  subst hw_19
  have hP : va_P (dC, dI) zcl (zwM adM adM_tape adM_frameAt adM_field adM_draft adM_given adM_low adM_high adM_packet adM_known cB cI cL sM_19) H := hP
  have hD : va_D A (zwM adM adM_tape adM_frameAt adM_field adM_draft adM_given adM_low adM_high adM_packet adM_known cB cI cL sM_19) := hD
  have hG : g_M_add_c19 N v1 v3 sM_19 r_19 = some a := hG
  unfold g_M_add_c19 at hG
  refine lv_if_ne (tgt := 50) hx hb d_M_add_22 (by decide) (fun hc => ?_) (fun hc => ?_)
  · have hG := zf hG hc
    exact k_M_add_50 X hA zz N sM_19 _ hG adM adM_tape adM_frameAt adM_field adM_draft adM_given adM_low adM_high adM_packet adM_known _ _ hP hD hS _ (lv_sub hl [] rfl)
  · have hG := zt hG hc
    refine lv_aload_n hx hb d_M_add_25 rfl (lv_at hl 0 rfl) ?_
    refine lv_aload_n hx hb d_M_add_26 rfl (lv_at hl 0 rfl) ?_
    refine va_get (D := (dC, dI)) (ci := 8) (v := .int (zM_gives sM_19)) (C := R_M) (T := F_M) (N := 26) hx hb hts zi_M hown zz.1 hP 0 rfl rfl 19 (by decide) (hts (.fieldLink R_M 211 "WireCodecModel" "gives" "I") zin_M_211) (fun _ h9 => h9) rfl d_M_add_27 ?_
    refine lv_iload_n hx hb d_M_add_30 rfl (lv_at hl 2 rfl) ?_
    refine lv_iadd hx hb d_M_add_31 ?_
    refine lv_sipush (v := (2000 : Int32)) hx hb d_M_add_32 (by decide) ?_
    refine lv_icmp_le (tgt := 42) hx hb d_M_add_35 (by decide) (fun hc => ?_) (fun hc => ?_)
    · have hG := zt hG hc
      refine lv_iconst (v := (0 : Int32)) hx hb d_M_add_42 (by decide) ?_
      exact k_M_add_43 X hA zz N sM_19 v1 v3 (0 : Int32) _ hG adM adM_tape adM_frameAt adM_field adM_draft adM_given adM_low adM_high adM_packet adM_known _ _ hP hD hS _ (lv_sub hl [0, 1, 2] rfl)
    · have hG := zf hG hc
      refine lv_iconst (v := (1 : Int32)) hx hb d_M_add_38 (by decide) ?_
      refine lv_goto (tgt := 43) hx hb d_M_add_39 (by decide) ?_
      exact k_M_add_43 X hA zz N sM_19 v1 v3 (1 : Int32) _ hG adM adM_tape adM_frameAt adM_field adM_draft adM_given adM_low adM_high adM_packet adM_known _ _ hP hD hS _ (lv_sub hl [0, 1, 2] rfl)
set_option maxRecDepth 100000 in
set_option maxHeartbeats 4000000 in
theorem k_M_add_0 {p : Program} {l : Launch} {e : Env} {R : Room} {s : State} {m : MethodId} {args : Array Value} {below : List Frame} {meth : Method} {c : Code} {dC : Nat → ClassId} {dI : Nat → Nat → Nat} {cB cI cL : ClassId} {A : Nat → Prop} (X : zx p s m args meth c R R_M b_M_add (some .int) 5 1 25) (hA : ∀ q, s.heap.size ≤ q → A q) (zz : zk dC dI cB cI cL A s)  (N : Nat) (sM : zM) (v1 : Int64) (v3 : Int32) (a : Int32 × zM) (hG : g_M_add N sM v1 v3 = some a) (adM adM_tape adM_frameAt adM_field adM_draft adM_given adM_low adM_high adM_packet adM_known : Nat) (H : Heap) (locs : List Loc) (hP : va_P (dC, dI) zcl (zwM adM adM_tape adM_frameAt adM_field adM_draft adM_given adM_low adM_high adM_packet adM_known cB cI cL sM) H) (hD : va_D A (zwM adM adM_tape adM_frameAt adM_field adM_draft adM_given adM_low adM_high adM_packet adM_known cB cI cL sM)) (hS : va_S A s.heap H locs) (ls : Array Slot) (hl : lv_has ls 5 [(0, .ref adM), (1, .long v1), (3, .int v3)]) : W p l e R s m args below meth c H locs 0 0 (MQ below (q_M_add dC dI cB cI cL A adM adM_tape adM_frameAt adM_field adM_draft adM_given adM_low adM_high adM_packet adM_known a) args s 0 0 A) (F0 m 0 ls []) := by
  obtain ⟨hx, hb, hr, hml, hown, hts, hlocks, hRf, hRl⟩ := id X
  unfold g_M_add at hG
  refine lv_aload_n hx hb d_M_add_0 rfl (lv_at hl 0 rfl) ?_
  refine lv_iload_n hx hb d_M_add_1 rfl (lv_at hl 2 rfl) ?_
  refine lv_i2l hx hb d_M_add_2 rfl ?_
  refine lv_lconst (v := (1 : Int64)) hx hb d_M_add_3 (by decide) ?_
  refine lv_ldc2 (v := (8 : Int64)) hx hb hown (hts (.constantLong R_M 60 (8 : Int64)) zin_M_60) d_M_add_4 ?_
  obtain ⟨a_7, hx_7, hG⟩ := zb hG
  have hr_7 := zrunS (p := p) (e := e) (below := below) (meth := meth) (As := [.long v3.toInt64, .long (1 : Int64), .long (8 : Int64)]) (rest := [.ref adM]) (st0 := [.long (8 : Int64), .long (1 : Int64), .long v3.toInt64, .ref adM]) (cells := 0) (slots := 0) X zz hP hD hS hA [] (by decide) rfl (c_M_within l dC dI cB cI cL H.size v3.toInt64 (1 : Int64) (8 : Int64) _ hx_7) zy_M_within zv_M_within (hts (.methodLink R_M 53 y_M_within) zin_M_53) hl rfl rfl d_M_add_7 (lv_room (Nat.le_of_ble_eq_true rfl)) rfl rfl ⟨Nat.le_trans (Nat.le_of_ble_eq_true rfl) hRf, Nat.le_trans (Nat.le_of_ble_eq_true rfl) hRl⟩ ⟨Nat.zero_le _, Nat.zero_le _⟩
  refine zcalli (wr := (zwM adM adM_tape adM_frameAt adM_field adM_draft adM_given adM_low adM_high adM_packet adM_known cB cI cL sM)) hr_7 hP hD hS hA [] [0, 1, 2, 3, 4, 5, 6, 7, 8, 9] rfl rfl (by decide) (by decide) (fun r_7 u_7 H locs hw_7 hP hD hS => ?_)
  subst hw_7
  have hP : va_P (dC, dI) zcl (zwM adM adM_tape adM_frameAt adM_field adM_draft adM_given adM_low adM_high adM_packet adM_known cB cI cL sM) H := hP
  have hD : va_D A (zwM adM adM_tape adM_frameAt adM_field adM_draft adM_given adM_low adM_high adM_packet adM_known cB cI cL sM) := hD
  have hG : g_M_add_c7 N sM v1 v3 r_7 = some a := hG
  unfold g_M_add_c7 at hG
  refine lv_if_ne (tgt := 17) hx hb d_M_add_10 (by decide) (fun hc => ?_) (fun hc => ?_)
  · have hG := zf hG hc
    refine lv_iconst (v := (0 : Int32)) hx hb d_M_add_17 (by decide) ?_
    exact k_M_add_18 X hA zz N sM v1 v3 (0 : Int32) _ hG adM adM_tape adM_frameAt adM_field adM_draft adM_given adM_low adM_high adM_packet adM_known _ _ hP hD hS _ (lv_sub hl [0, 1, 2] rfl)
  · have hG := zt hG hc
    refine lv_iconst (v := (1 : Int32)) hx hb d_M_add_13 (by decide) ?_
    refine lv_goto (tgt := 18) hx hb d_M_add_14 (by decide) ?_
    exact k_M_add_18 X hA zz N sM v1 v3 (1 : Int32) _ hG adM adM_tape adM_frameAt adM_field adM_draft adM_given adM_low adM_high adM_packet adM_known _ _ hP hD hS _ (lv_sub hl [0, 1, 2] rfl)
set_option maxRecDepth 100000 in
set_option maxHeartbeats 4000000 in
theorem c_M_add (l : Launch) (dC : Nat → ClassId) (dI : Nat → Nat → Nat) (cB cI cL : ClassId) (sz : Nat) (adM adM_tape adM_frameAt adM_field adM_draft adM_given adM_low adM_high adM_packet adM_known : Nat) (N : Nat) (sM : zM) (v1 : Int64) (v3 : Int32) (a : Int32 × zM) (hG : g_M_add N sM v1 v3 = some a) : Met l y_M_add (zw y_M_add b_M_add 5 (some .int)) ({ frames := 1, cells := 0, slots := 0, locals := 25 }) (va_Pc [.ref adM, .long v1, .int v3] (zpre dC dI cB cI cL sz (zwM adM adM_tape adM_frameAt adM_field adM_draft adM_given adM_low adM_high adM_packet adM_known cB cI cL sM))) (q_M_add dC dI cB cI cL (va_A (zwM adM adM_tape adM_frameAt adM_field adM_draft adM_given adM_low adM_high adM_packet adM_known cB cI cL sM) sz) adM adM_tape adM_frameAt adM_field adM_draft adM_given adM_low adM_high adM_packet adM_known a) 0 0 (va_A (zwM adM adM_tape adM_frameAt adM_field adM_draft adM_given adM_low adM_high adM_packet adM_known cB cI cL sM) sz) := by
  refine Met.ofW (cc := b_M_add) (maxL := 5) (ret := (some .int)) (by decide) rfl ?_
  intro p e s m args below meth c s₁ B hml hv
  obtain ⟨rfl, hsz, hP, zz, hD0⟩ := hv
  subst hsz
  have X := zx_of (F := 1) (L := 25) B hml (Nat.le_refl _) (Nat.le_refl _)
  have hD := hD0.self (sz := s.heap.size)
  have hA : ∀ q : Nat, s.heap.size ≤ q → va_A (zwM adM adM_tape adM_frameAt adM_field adM_draft adM_given adM_low adM_high adM_packet adM_known cB cI cL sM) s.heap.size q := fun q h => Or.inr h
  have hl := lv_entry ([.ref adM, .long v1, .int v3]) (n := 5) (Nat.le_of_ble_eq_true rfl)
  rw [lg_entry_eq]
  generalize (lg_sl ([.ref adM, .long v1, .int v3]) ++ List.replicate (5 - (lg_sl ([.ref adM, .long v1, .int v3])).length) Slot.unset).toArray = ls at hl ⊢
  exact k_M_add_0 X hA zz N sM v1 v3 a hG adM adM_tape adM_frameAt adM_field adM_draft adM_given adM_low adM_high adM_packet adM_known _ _ hP hD va_S.rf ls hl
noncomputable def g_M_span_75 (sM : zM) : Option (zM) := some (sM)
noncomputable def g_M_span_w103 (sM_103 : zM) : Option (zM) := some (sM_103)
noncomputable def g_M_span_w95 (sM_95 : zM) : Option (zM) := g_M_span_w103 (zM_spans' sM_95 ((zM_spans sM_95) + (1 : Int32)))
noncomputable def g_M_span_w85 (v3 : Int64) (sM_85 : zM) : Option (zM) := zg (vp_in (zM_spans sM_85) 500) (g_M_span_w95 (zM_high' sM_85 (vp_updL (zM_high sM_85) ((zM_spans sM_85).toNatClampNeg) v3)))
noncomputable def g_M_span_c69 (v1 : Int64) (v3 : Int64) (sM_69 : zM) (r_69 : Int32) : Option (zM) := if r_69 = (0 : Int32) then (zg (vp_in (zM_spans sM_69) 500) (g_M_span_w85 v3 (zM_low' sM_69 (vp_updL (zM_low sM_69) ((zM_spans sM_69).toNatClampNeg) v1)))) else (g_M_span_75 sM_69)
noncomputable def g_M_span_68 (sM : zM) (v1 : Int64) (v3 : Int64) (s0 : Int32) : Option (zM) := (g_M_fails sM s0 (2 : Int32)).bind (fun a => g_M_span_c69 v1 v3 a.2 a.1)
noncomputable def g_M_span_c46 (v1 : Int64) (v3 : Int64) (sM_46 : zM) (r_46 : Int32) : Option (zM) := if r_46 = (0 : Int32) then (if (zM_spans sM_46) = (500 : Int32) then (g_M_span_68 sM_46 v1 v3 (1 : Int32)) else (g_M_span_68 sM_46 v1 v3 (0 : Int32))) else (g_M_span_75 sM_46)
noncomputable def g_M_span_45 (sM : zM) (v1 : Int64) (v3 : Int64) (s0 : Int32) : Option (zM) := (g_M_fails sM s0 (1 : Int32)).bind (fun a => g_M_span_c46 v1 v3 a.2 a.1)
noncomputable def g_M_span_40 (sM : zM) (v1 : Int64) (v3 : Int64) : Option (zM) := g_M_span_45 sM v1 v3 (1 : Int32)
noncomputable def g_M_span_44 (sM : zM) (v1 : Int64) (v3 : Int64) : Option (zM) := g_M_span_45 sM v1 v3 (0 : Int32)
noncomputable def g_M_span (sM : zM) (v1 : Int64) (v3 : Int64) : Option (zM) := if (lg_cmp v1 (0 : Int64)) < (0 : Int32) then (g_M_span_40 sM v1 v3) else (if (lg_cmp v3 v1) < (0 : Int32) then (g_M_span_40 sM v1 v3) else (if (zM_spans sM) ≤ (0 : Int32) then (g_M_span_44 sM v1 v3) else (zg (vp_in ((zM_spans sM) - (1 : Int32)) 500) (if (lg_cmp v3 (((zM_low sM) ((zM_spans sM) - (1 : Int32)).toNatClampNeg) - (2 : Int64))) ≤ (0 : Int32) then (g_M_span_44 sM v1 v3) else (g_M_span_40 sM v1 v3)))))
def q_M_span (dC : Nat → ClassId) (dI : Nat → Nat → Nat) (cB cI cL : ClassId) (A : Nat → Prop) (adM : Nat) (adM_tape : Nat) (adM_frameAt : Nat) (adM_field : Nat) (adM_draft : Nat) (adM_given : Nat) (adM_low : Nat) (adM_high : Nat) (adM_packet : Nat) (adM_known : Nat) (a : zM) : Array Value → State → Outcome → State → Prop := va_Qv (fun (u : zM) => (u) = a) (fun u U => va_P (dC, dI) zcl (zwM adM adM_tape adM_frameAt adM_field adM_draft adM_given adM_low adM_high adM_packet adM_known cB cI cL u) U.heap ∧ va_D A (zwM adM adM_tape adM_frameAt adM_field adM_draft adM_given adM_low adM_high adM_packet adM_known cB cI cL u)) A
set_option maxRecDepth 100000 in
set_option maxHeartbeats 4000000 in
theorem k_M_span_75 {p : Program} {l : Launch} {e : Env} {R : Room} {s : State} {m : MethodId} {args : Array Value} {below : List Frame} {meth : Method} {c : Code} {dC : Nat → ClassId} {dI : Nat → Nat → Nat} {cB cI cL : ClassId} {A : Nat → Prop} (X : zx p s m args meth c R R_M b_M_span none 5 1 22) (hA : ∀ q, s.heap.size ≤ q → A q) (zz : zk dC dI cB cI cL A s)  (sM : zM) (a : zM) (hG : g_M_span_75 sM = some a) (adM adM_tape adM_frameAt adM_field adM_draft adM_given adM_low adM_high adM_packet adM_known : Nat) (H : Heap) (locs : List Loc) (hP : va_P (dC, dI) zcl (zwM adM adM_tape adM_frameAt adM_field adM_draft adM_given adM_low adM_high adM_packet adM_known cB cI cL sM) H) (hD : va_D A (zwM adM adM_tape adM_frameAt adM_field adM_draft adM_given adM_low adM_high adM_packet adM_known cB cI cL sM)) (hS : va_S A s.heap H locs) (ls : Array Slot) (hl : lv_has ls 5 []) : W p l e R s m args below meth c H locs 0 0 (MQ below (q_M_span dC dI cB cI cL A adM adM_tape adM_frameAt adM_field adM_draft adM_given adM_low adM_high adM_packet adM_known a) args s 0 0 A) (F0 m 75 ls []) := by
  obtain ⟨hx, hb, hr, hml, hown, hts, hlocks, hRf, hRl⟩ := id X
  unfold g_M_span_75 at hG
  exact W.vret hx hb hr (fun t9 ht9 hW9 => ⟨⟨(sM), rfl, Option.some.inj hG, by rw [ht9]; exact hP, hD⟩, hS.F ht9⟩) hS.2.2 d_M_span_75
set_option maxRecDepth 100000 in
set_option maxHeartbeats 4000000 in
theorem k_M_span_68 {p : Program} {l : Launch} {e : Env} {R : Room} {s : State} {m : MethodId} {args : Array Value} {below : List Frame} {meth : Method} {c : Code} {dC : Nat → ClassId} {dI : Nat → Nat → Nat} {cB cI cL : ClassId} {A : Nat → Prop} (X : zx p s m args meth c R R_M b_M_span none 5 1 22) (hA : ∀ q, s.heap.size ≤ q → A q) (zz : zk dC dI cB cI cL A s)  (sM : zM) (v1 : Int64) (v3 : Int64) (s0 : Int32) (a : zM) (hG : g_M_span_68 sM v1 v3 s0 = some a) (adM adM_tape adM_frameAt adM_field adM_draft adM_given adM_low adM_high adM_packet adM_known : Nat) (H : Heap) (locs : List Loc) (hP : va_P (dC, dI) zcl (zwM adM adM_tape adM_frameAt adM_field adM_draft adM_given adM_low adM_high adM_packet adM_known cB cI cL sM) H) (hD : va_D A (zwM adM adM_tape adM_frameAt adM_field adM_draft adM_given adM_low adM_high adM_packet adM_known cB cI cL sM)) (hS : va_S A s.heap H locs) (ls : Array Slot) (hl : lv_has ls 5 [(0, .ref adM), (1, .long v1), (3, .long v3)]) : W p l e R s m args below meth c H locs 0 0 (MQ below (q_M_span dC dI cB cI cL A adM adM_tape adM_frameAt adM_field adM_draft adM_given adM_low adM_high adM_packet adM_known a) args s 0 0 A) (F0 m 68 ls [.int s0, .ref adM]) := by
  obtain ⟨hx, hb, hr, hml, hown, hts, hlocks, hRf, hRl⟩ := id X
  unfold g_M_span_68 at hG
  refine lv_iconst (v := (2 : Int32)) hx hb d_M_span_68 (by decide) ?_
  obtain ⟨a_69, hx_69, hG⟩ := zb hG
  have hr_69 := zrunV (p := p) (e := e) (below := below) (meth := meth) (As := [.int s0, .int (2 : Int32)]) (rest := []) (st0 := [.int (2 : Int32), .int s0, .ref adM]) (cells := 0) (slots := 0) X zz hP hD hS hA [0, 1, 2, 3, 4, 5, 6, 7, 8, 9] (by decide) rfl (c_M_fails l dC dI cB cI cL H.size adM adM_tape adM_frameAt adM_field adM_draft adM_given adM_low adM_high adM_packet adM_known sM s0 (2 : Int32) _ hx_69) zy_M_fails zv_M_fails (hts (.methodLink R_M 62 y_M_fails) zin_M_62) hl rfl rfl d_M_span_69 (lv_room (Nat.le_of_ble_eq_true rfl)) rfl rfl ⟨Nat.le_trans (Nat.le_of_ble_eq_true rfl) hRf, Nat.le_trans (Nat.le_of_ble_eq_true rfl) hRl⟩ ⟨Nat.zero_le _, Nat.zero_le _⟩ 0 8 rfl rfl
  refine zcalli (wr := ([] : va_W)) hr_69 hP hD hS hA [0, 1, 2, 3, 4, 5, 6, 7, 8, 9] [] rfl rfl (by decide) (by decide) (fun r_69 u_69 H locs hw_69 hP hD hS => ?_)
  obtain ⟨sM_69, rfl⟩ : ∃ z, z = u_69 := ⟨_, rfl⟩
  subst hw_69
  have hP : va_P (dC, dI) zcl (zwM adM adM_tape adM_frameAt adM_field adM_draft adM_given adM_low adM_high adM_packet adM_known cB cI cL sM_69) H := hP
  have hD : va_D A (zwM adM adM_tape adM_frameAt adM_field adM_draft adM_given adM_low adM_high adM_packet adM_known cB cI cL sM_69) := hD
  have hG : g_M_span_c69 v1 v3 sM_69 r_69 = some a := hG
  unfold g_M_span_c69 at hG
  refine lv_if_eq (tgt := 76) hx hb d_M_span_72 (by decide) (fun hc => ?_) (fun hc => ?_)
  · have hG := zt hG hc
    refine lv_aload_n hx hb d_M_span_76 rfl (lv_at hl 0 rfl) ?_
    refine va_get (D := (dC, dI)) (ci := 8) (v := .ref adM_low) (C := R_M) (T := F_M) (N := 26) hx hb hts zi_M hown zz.1 hP 0 rfl rfl 20 (by decide) (hts (.fieldLink R_M 32 "WireCodecModel" "low" "[J") zin_M_32) (fun _ h9 => h9) rfl d_M_span_77 ?_
    refine lv_aload_n hx hb d_M_span_80 rfl (lv_at hl 0 rfl) ?_
    refine va_get (D := (dC, dI)) (ci := 8) (v := .int (zM_spans sM_69)) (C := R_M) (T := F_M) (N := 26) hx hb hts zi_M hown zz.1 hP 0 rfl rfl 22 (by decide) (hts (.fieldLink R_M 214 "WireCodecModel" "spans" "I") zin_M_214) (fun _ h9 => h9) rfl d_M_span_81 ?_
    refine lv_lload_n hx hb d_M_span_84 rfl (lv_at hl 1 rfl) ?_
    obtain ⟨hin, hG⟩ := zgd hG
    refine va_last hx hb zz.1 hP hD hS 6 2 rfl rfl hin d_M_span_85 (fun H locs hP hD hS => ?_)
    have hP := zp_M_low hP
    have hD := zd_M_low hD
    have hG : g_M_span_w85 v3 (zM_low' sM_69 (vp_updL (zM_low sM_69) ((zM_spans sM_69).toNatClampNeg) v1)) = some a := hG
    generalize zM_low' sM_69 (vp_updL (zM_low sM_69) ((zM_spans sM_69).toNatClampNeg) v1) = sM_85 at hP hD hG
    unfold g_M_span_w85 at hG
    refine lv_aload_n hx hb d_M_span_86 rfl (lv_at hl 0 rfl) ?_
    refine va_get (D := (dC, dI)) (ci := 8) (v := .ref adM_high) (C := R_M) (T := F_M) (N := 26) hx hb hts zi_M hown zz.1 hP 0 rfl rfl 21 (by decide) (hts (.fieldLink R_M 35 "WireCodecModel" "high" "[J") zin_M_35) (fun _ h9 => h9) rfl d_M_span_87 ?_
    refine lv_aload_n hx hb d_M_span_90 rfl (lv_at hl 0 rfl) ?_
    refine va_get (D := (dC, dI)) (ci := 8) (v := .int (zM_spans sM_85)) (C := R_M) (T := F_M) (N := 26) hx hb hts zi_M hown zz.1 hP 0 rfl rfl 22 (by decide) (hts (.fieldLink R_M 214 "WireCodecModel" "spans" "I") zin_M_214) (fun _ h9 => h9) rfl d_M_span_91 ?_
    refine lv_lload_n hx hb d_M_span_94 rfl (lv_at hl 2 rfl) ?_
    obtain ⟨hin, hG⟩ := zgd hG
    refine va_last hx hb zz.1 hP hD hS 7 2 rfl rfl hin d_M_span_95 (fun H locs hP hD hS => ?_)
    have hP := zp_M_high hP
    have hD := zd_M_high hD
    have hG : g_M_span_w95 (zM_high' sM_85 (vp_updL (zM_high sM_85) ((zM_spans sM_85).toNatClampNeg) v3)) = some a := hG
    generalize zM_high' sM_85 (vp_updL (zM_high sM_85) ((zM_spans sM_85).toNatClampNeg) v3) = sM_95 at hP hD hG
    unfold g_M_span_w95 at hG
    refine lv_aload_n hx hb d_M_span_96 rfl (lv_at hl 0 rfl) ?_
    refine lv_dup hx hb d_M_span_97 rfl ?_
    refine va_get (D := (dC, dI)) (ci := 8) (v := .int (zM_spans sM_95)) (C := R_M) (T := F_M) (N := 26) hx hb hts zi_M hown zz.1 hP 0 rfl rfl 22 (by decide) (hts (.fieldLink R_M 214 "WireCodecModel" "spans" "I") zin_M_214) (fun _ h9 => h9) rfl d_M_span_98 ?_
    refine lv_iconst (v := (1 : Int32)) hx hb d_M_span_101 (by decide) ?_
    refine lv_iadd hx hb d_M_span_102 ?_
    refine va_put (D := (dC, dI)) (ci := 8) (v := .int ((zM_spans sM_95) + (1 : Int32))) (ty := .int) (C := R_M) (T := F_M) (N := 26) hx hb hts zi_M zty_M zty_M_ok znm_M hown zz.1 hP hD hS 0 rfl rfl 22 (by decide) (hts (.fieldLink R_M 214 "WireCodecModel" "spans" "I") zin_M_214) (fun _ h9 => h9) rfl (by decide +kernel) rfl rfl (Nat.le_of_ble_eq_true rfl) d_M_span_103 (fun H locs hP hD hS => ?_)
    have hP := zp_M_spans hP
    have hD := zd_M_spans hD
    have hG : g_M_span_w103 (zM_spans' sM_95 ((zM_spans sM_95) + (1 : Int32))) = some a := hG
    generalize zM_spans' sM_95 ((zM_spans sM_95) + (1 : Int32)) = sM_103 at hP hD hG
    unfold g_M_span_w103 at hG
    exact W.vret hx hb hr (fun t9 ht9 hW9 => ⟨⟨(sM_103), rfl, Option.some.inj hG, by rw [ht9]; exact hP, hD⟩, hS.F ht9⟩) hS.2.2 d_M_span_106
  · have hG := zf hG hc
    exact k_M_span_75 X hA zz sM_69 _ hG adM adM_tape adM_frameAt adM_field adM_draft adM_given adM_low adM_high adM_packet adM_known _ _ hP hD hS _ (lv_sub hl [] rfl)
set_option maxRecDepth 100000 in
set_option maxHeartbeats 4000000 in
theorem k_M_span_45 {p : Program} {l : Launch} {e : Env} {R : Room} {s : State} {m : MethodId} {args : Array Value} {below : List Frame} {meth : Method} {c : Code} {dC : Nat → ClassId} {dI : Nat → Nat → Nat} {cB cI cL : ClassId} {A : Nat → Prop} (X : zx p s m args meth c R R_M b_M_span none 5 1 22) (hA : ∀ q, s.heap.size ≤ q → A q) (zz : zk dC dI cB cI cL A s)  (sM : zM) (v1 : Int64) (v3 : Int64) (s0 : Int32) (a : zM) (hG : g_M_span_45 sM v1 v3 s0 = some a) (adM adM_tape adM_frameAt adM_field adM_draft adM_given adM_low adM_high adM_packet adM_known : Nat) (H : Heap) (locs : List Loc) (hP : va_P (dC, dI) zcl (zwM adM adM_tape adM_frameAt adM_field adM_draft adM_given adM_low adM_high adM_packet adM_known cB cI cL sM) H) (hD : va_D A (zwM adM adM_tape adM_frameAt adM_field adM_draft adM_given adM_low adM_high adM_packet adM_known cB cI cL sM)) (hS : va_S A s.heap H locs) (ls : Array Slot) (hl : lv_has ls 5 [(0, .ref adM), (1, .long v1), (3, .long v3)]) : W p l e R s m args below meth c H locs 0 0 (MQ below (q_M_span dC dI cB cI cL A adM adM_tape adM_frameAt adM_field adM_draft adM_given adM_low adM_high adM_packet adM_known a) args s 0 0 A) (F0 m 45 ls [.int s0, .ref adM]) := by
  obtain ⟨hx, hb, hr, hml, hown, hts, hlocks, hRf, hRl⟩ := id X
  unfold g_M_span_45 at hG
  refine lv_iconst (v := (1 : Int32)) hx hb d_M_span_45 (by decide) ?_
  obtain ⟨a_46, hx_46, hG⟩ := zb hG
  have hr_46 := zrunV (p := p) (e := e) (below := below) (meth := meth) (As := [.int s0, .int (1 : Int32)]) (rest := []) (st0 := [.int (1 : Int32), .int s0, .ref adM]) (cells := 0) (slots := 0) X zz hP hD hS hA [0, 1, 2, 3, 4, 5, 6, 7, 8, 9] (by decide) rfl (c_M_fails l dC dI cB cI cL H.size adM adM_tape adM_frameAt adM_field adM_draft adM_given adM_low adM_high adM_packet adM_known sM s0 (1 : Int32) _ hx_46) zy_M_fails zv_M_fails (hts (.methodLink R_M 62 y_M_fails) zin_M_62) hl rfl rfl d_M_span_46 (lv_room (Nat.le_of_ble_eq_true rfl)) rfl rfl ⟨Nat.le_trans (Nat.le_of_ble_eq_true rfl) hRf, Nat.le_trans (Nat.le_of_ble_eq_true rfl) hRl⟩ ⟨Nat.zero_le _, Nat.zero_le _⟩ 0 8 rfl rfl
  refine zcalli (wr := ([] : va_W)) hr_46 hP hD hS hA [0, 1, 2, 3, 4, 5, 6, 7, 8, 9] [] rfl rfl (by decide) (by decide) (fun r_46 u_46 H locs hw_46 hP hD hS => ?_)
  obtain ⟨sM_46, rfl⟩ : ∃ z, z = u_46 := ⟨_, rfl⟩
  subst hw_46
  have hP : va_P (dC, dI) zcl (zwM adM adM_tape adM_frameAt adM_field adM_draft adM_given adM_low adM_high adM_packet adM_known cB cI cL sM_46) H := hP
  have hD : va_D A (zwM adM adM_tape adM_frameAt adM_field adM_draft adM_given adM_low adM_high adM_packet adM_known cB cI cL sM_46) := hD
  have hG : g_M_span_c46 v1 v3 sM_46 r_46 = some a := hG
  unfold g_M_span_c46 at hG
  refine lv_if_ne (tgt := 75) hx hb d_M_span_49 (by decide) (fun hc => ?_) (fun hc => ?_)
  · have hG := zf hG hc
    exact k_M_span_75 X hA zz sM_46 _ hG adM adM_tape adM_frameAt adM_field adM_draft adM_given adM_low adM_high adM_packet adM_known _ _ hP hD hS _ (lv_sub hl [] rfl)
  · have hG := zt hG hc
    refine lv_aload_n hx hb d_M_span_52 rfl (lv_at hl 0 rfl) ?_
    refine lv_aload_n hx hb d_M_span_53 rfl (lv_at hl 0 rfl) ?_
    refine va_get (D := (dC, dI)) (ci := 8) (v := .int (zM_spans sM_46)) (C := R_M) (T := F_M) (N := 26) hx hb hts zi_M hown zz.1 hP 0 rfl rfl 22 (by decide) (hts (.fieldLink R_M 214 "WireCodecModel" "spans" "I") zin_M_214) (fun _ h9 => h9) rfl d_M_span_54 ?_
    refine lv_sipush (v := (500 : Int32)) hx hb d_M_span_57 (by decide) ?_
    refine lv_icmp_ne (tgt := 67) hx hb d_M_span_60 (by decide) (fun hc => ?_) (fun hc => ?_)
    · have hG := zf hG hc
      refine lv_iconst (v := (0 : Int32)) hx hb d_M_span_67 (by decide) ?_
      exact k_M_span_68 X hA zz sM_46 v1 v3 (0 : Int32) _ hG adM adM_tape adM_frameAt adM_field adM_draft adM_given adM_low adM_high adM_packet adM_known _ _ hP hD hS _ (lv_sub hl [0, 1, 2] rfl)
    · have hG := zt hG hc
      refine lv_iconst (v := (1 : Int32)) hx hb d_M_span_63 (by decide) ?_
      refine lv_goto (tgt := 68) hx hb d_M_span_64 (by decide) ?_
      exact k_M_span_68 X hA zz sM_46 v1 v3 (1 : Int32) _ hG adM adM_tape adM_frameAt adM_field adM_draft adM_given adM_low adM_high adM_packet adM_known _ _ hP hD hS _ (lv_sub hl [0, 1, 2] rfl)
set_option maxRecDepth 100000 in
set_option maxHeartbeats 4000000 in
theorem k_M_span_40 {p : Program} {l : Launch} {e : Env} {R : Room} {s : State} {m : MethodId} {args : Array Value} {below : List Frame} {meth : Method} {c : Code} {dC : Nat → ClassId} {dI : Nat → Nat → Nat} {cB cI cL : ClassId} {A : Nat → Prop} (X : zx p s m args meth c R R_M b_M_span none 5 1 22) (hA : ∀ q, s.heap.size ≤ q → A q) (zz : zk dC dI cB cI cL A s)  (sM : zM) (v1 : Int64) (v3 : Int64) (a : zM) (hG : g_M_span_40 sM v1 v3 = some a) (adM adM_tape adM_frameAt adM_field adM_draft adM_given adM_low adM_high adM_packet adM_known : Nat) (H : Heap) (locs : List Loc) (hP : va_P (dC, dI) zcl (zwM adM adM_tape adM_frameAt adM_field adM_draft adM_given adM_low adM_high adM_packet adM_known cB cI cL sM) H) (hD : va_D A (zwM adM adM_tape adM_frameAt adM_field adM_draft adM_given adM_low adM_high adM_packet adM_known cB cI cL sM)) (hS : va_S A s.heap H locs) (ls : Array Slot) (hl : lv_has ls 5 [(0, .ref adM), (1, .long v1), (3, .long v3)]) : W p l e R s m args below meth c H locs 0 0 (MQ below (q_M_span dC dI cB cI cL A adM adM_tape adM_frameAt adM_field adM_draft adM_given adM_low adM_high adM_packet adM_known a) args s 0 0 A) (F0 m 40 ls [.ref adM]) := by
  obtain ⟨hx, hb, hr, hml, hown, hts, hlocks, hRf, hRl⟩ := id X
  unfold g_M_span_40 at hG
  refine lv_iconst (v := (1 : Int32)) hx hb d_M_span_40 (by decide) ?_
  refine lv_goto (tgt := 45) hx hb d_M_span_41 (by decide) ?_
  exact k_M_span_45 X hA zz sM v1 v3 (1 : Int32) _ hG adM adM_tape adM_frameAt adM_field adM_draft adM_given adM_low adM_high adM_packet adM_known _ _ hP hD hS _ (lv_sub hl [0, 1, 2] rfl)
set_option maxRecDepth 100000 in
set_option maxHeartbeats 4000000 in
theorem k_M_span_44 {p : Program} {l : Launch} {e : Env} {R : Room} {s : State} {m : MethodId} {args : Array Value} {below : List Frame} {meth : Method} {c : Code} {dC : Nat → ClassId} {dI : Nat → Nat → Nat} {cB cI cL : ClassId} {A : Nat → Prop} (X : zx p s m args meth c R R_M b_M_span none 5 1 22) (hA : ∀ q, s.heap.size ≤ q → A q) (zz : zk dC dI cB cI cL A s)  (sM : zM) (v1 : Int64) (v3 : Int64) (a : zM) (hG : g_M_span_44 sM v1 v3 = some a) (adM adM_tape adM_frameAt adM_field adM_draft adM_given adM_low adM_high adM_packet adM_known : Nat) (H : Heap) (locs : List Loc) (hP : va_P (dC, dI) zcl (zwM adM adM_tape adM_frameAt adM_field adM_draft adM_given adM_low adM_high adM_packet adM_known cB cI cL sM) H) (hD : va_D A (zwM adM adM_tape adM_frameAt adM_field adM_draft adM_given adM_low adM_high adM_packet adM_known cB cI cL sM)) (hS : va_S A s.heap H locs) (ls : Array Slot) (hl : lv_has ls 5 [(0, .ref adM), (1, .long v1), (3, .long v3)]) : W p l e R s m args below meth c H locs 0 0 (MQ below (q_M_span dC dI cB cI cL A adM adM_tape adM_frameAt adM_field adM_draft adM_given adM_low adM_high adM_packet adM_known a) args s 0 0 A) (F0 m 44 ls [.ref adM]) := by
  obtain ⟨hx, hb, hr, hml, hown, hts, hlocks, hRf, hRl⟩ := id X
  unfold g_M_span_44 at hG
  refine lv_iconst (v := (0 : Int32)) hx hb d_M_span_44 (by decide) ?_
  exact k_M_span_45 X hA zz sM v1 v3 (0 : Int32) _ hG adM adM_tape adM_frameAt adM_field adM_draft adM_given adM_low adM_high adM_packet adM_known _ _ hP hD hS _ (lv_sub hl [0, 1, 2] rfl)
set_option maxRecDepth 100000 in
set_option maxHeartbeats 4000000 in
theorem k_M_span_0 {p : Program} {l : Launch} {e : Env} {R : Room} {s : State} {m : MethodId} {args : Array Value} {below : List Frame} {meth : Method} {c : Code} {dC : Nat → ClassId} {dI : Nat → Nat → Nat} {cB cI cL : ClassId} {A : Nat → Prop} (X : zx p s m args meth c R R_M b_M_span none 5 1 22) (hA : ∀ q, s.heap.size ≤ q → A q) (zz : zk dC dI cB cI cL A s)  (sM : zM) (v1 : Int64) (v3 : Int64) (a : zM) (hG : g_M_span sM v1 v3 = some a) (adM adM_tape adM_frameAt adM_field adM_draft adM_given adM_low adM_high adM_packet adM_known : Nat) (H : Heap) (locs : List Loc) (hP : va_P (dC, dI) zcl (zwM adM adM_tape adM_frameAt adM_field adM_draft adM_given adM_low adM_high adM_packet adM_known cB cI cL sM) H) (hD : va_D A (zwM adM adM_tape adM_frameAt adM_field adM_draft adM_given adM_low adM_high adM_packet adM_known cB cI cL sM)) (hS : va_S A s.heap H locs) (ls : Array Slot) (hl : lv_has ls 5 [(0, .ref adM), (1, .long v1), (3, .long v3)]) : W p l e R s m args below meth c H locs 0 0 (MQ below (q_M_span dC dI cB cI cL A adM adM_tape adM_frameAt adM_field adM_draft adM_given adM_low adM_high adM_packet adM_known a) args s 0 0 A) (F0 m 0 ls []) := by
  obtain ⟨hx, hb, hr, hml, hown, hts, hlocks, hRf, hRl⟩ := id X
  unfold g_M_span at hG
  refine lv_aload_n hx hb d_M_span_0 rfl (lv_at hl 0 rfl) ?_
  refine lv_lload_n hx hb d_M_span_1 rfl (lv_at hl 1 rfl) ?_
  refine lv_lconst (v := (0 : Int64)) hx hb d_M_span_2 (by decide) ?_
  refine W.lcmp hx hb d_M_span_3 ?_
  refine lv_if_lt (tgt := 40) hx hb d_M_span_4 (by decide) (fun hc => ?_) (fun hc => ?_)
  · have hG := zt hG hc
    exact k_M_span_40 X hA zz sM v1 v3 _ hG adM adM_tape adM_frameAt adM_field adM_draft adM_given adM_low adM_high adM_packet adM_known _ _ hP hD hS _ (lv_sub hl [0, 1, 2] rfl)
  · have hG := zf hG hc
    refine lv_lload_n hx hb d_M_span_7 rfl (lv_at hl 2 rfl) ?_
    refine lv_lload_n hx hb d_M_span_8 rfl (lv_at hl 1 rfl) ?_
    refine W.lcmp hx hb d_M_span_9 ?_
    refine lv_if_lt (tgt := 40) hx hb d_M_span_10 (by decide) (fun hc => ?_) (fun hc => ?_)
    · have hG := zt hG hc
      exact k_M_span_40 X hA zz sM v1 v3 _ hG adM adM_tape adM_frameAt adM_field adM_draft adM_given adM_low adM_high adM_packet adM_known _ _ hP hD hS _ (lv_sub hl [0, 1, 2] rfl)
    · have hG := zf hG hc
      refine lv_aload_n hx hb d_M_span_13 rfl (lv_at hl 0 rfl) ?_
      refine va_get (D := (dC, dI)) (ci := 8) (v := .int (zM_spans sM)) (C := R_M) (T := F_M) (N := 26) hx hb hts zi_M hown zz.1 hP 0 rfl rfl 22 (by decide) (hts (.fieldLink R_M 214 "WireCodecModel" "spans" "I") zin_M_214) (fun _ h9 => h9) rfl d_M_span_14 ?_
      refine lv_if_le (tgt := 44) hx hb d_M_span_17 (by decide) (fun hc => ?_) (fun hc => ?_)
      · have hG := zt hG hc
        exact k_M_span_44 X hA zz sM v1 v3 _ hG adM adM_tape adM_frameAt adM_field adM_draft adM_given adM_low adM_high adM_packet adM_known _ _ hP hD hS _ (lv_sub hl [0, 1, 2] rfl)
      · have hG := zf hG hc
        refine lv_lload_n hx hb d_M_span_20 rfl (lv_at hl 2 rfl) ?_
        refine lv_aload_n hx hb d_M_span_21 rfl (lv_at hl 0 rfl) ?_
        refine va_get (D := (dC, dI)) (ci := 8) (v := .ref adM_low) (C := R_M) (T := F_M) (N := 26) hx hb hts zi_M hown zz.1 hP 0 rfl rfl 20 (by decide) (hts (.fieldLink R_M 32 "WireCodecModel" "low" "[J") zin_M_32) (fun _ h9 => h9) rfl d_M_span_22 ?_
        refine lv_aload_n hx hb d_M_span_25 rfl (lv_at hl 0 rfl) ?_
        refine va_get (D := (dC, dI)) (ci := 8) (v := .int (zM_spans sM)) (C := R_M) (T := F_M) (N := 26) hx hb hts zi_M hown zz.1 hP 0 rfl rfl 22 (by decide) (hts (.fieldLink R_M 214 "WireCodecModel" "spans" "I") zin_M_214) (fun _ h9 => h9) rfl d_M_span_26 ?_
        refine lv_iconst (v := (1 : Int32)) hx hb d_M_span_29 (by decide) ?_
        refine lv_isub hx hb d_M_span_30 ?_
        obtain ⟨hin, hG⟩ := zgd hG
        refine va_lald hx hb zz.1 hP 6 2 rfl rfl hin d_M_span_31 ?_
        refine lv_ldc2 (v := (2 : Int64)) hx hb hown (hts (.constantLong R_M 76 (2 : Int64)) zin_M_76) d_M_span_32 ?_
        refine lv_lsub hx hb d_M_span_35 ?_
        refine W.lcmp hx hb d_M_span_36 ?_
        refine lv_if_le (tgt := 44) hx hb d_M_span_37 (by decide) (fun hc => ?_) (fun hc => ?_)
        · have hG := zt hG hc
          exact k_M_span_44 X hA zz sM v1 v3 _ hG adM adM_tape adM_frameAt adM_field adM_draft adM_given adM_low adM_high adM_packet adM_known _ _ hP hD hS _ (lv_sub hl [0, 1, 2] rfl)
        · have hG := zf hG hc
          exact k_M_span_40 X hA zz sM v1 v3 _ hG adM adM_tape adM_frameAt adM_field adM_draft adM_given adM_low adM_high adM_packet adM_known _ _ hP hD hS _ (lv_sub hl [0, 1, 2] rfl)
set_option maxRecDepth 100000 in
set_option maxHeartbeats 4000000 in
theorem c_M_span (l : Launch) (dC : Nat → ClassId) (dI : Nat → Nat → Nat) (cB cI cL : ClassId) (sz : Nat) (adM adM_tape adM_frameAt adM_field adM_draft adM_given adM_low adM_high adM_packet adM_known : Nat) (sM : zM) (v1 : Int64) (v3 : Int64) (a : zM) (hG : g_M_span sM v1 v3 = some a) : Met l y_M_span (zw y_M_span b_M_span 5 none) ({ frames := 1, cells := 0, slots := 0, locals := 22 }) (va_Pc [.ref adM, .long v1, .long v3] (zpre dC dI cB cI cL sz (zwM adM adM_tape adM_frameAt adM_field adM_draft adM_given adM_low adM_high adM_packet adM_known cB cI cL sM))) (q_M_span dC dI cB cI cL (va_A (zwM adM adM_tape adM_frameAt adM_field adM_draft adM_given adM_low adM_high adM_packet adM_known cB cI cL sM) sz) adM adM_tape adM_frameAt adM_field adM_draft adM_given adM_low adM_high adM_packet adM_known a) 0 0 (va_A (zwM adM adM_tape adM_frameAt adM_field adM_draft adM_given adM_low adM_high adM_packet adM_known cB cI cL sM) sz) := by
  refine Met.ofW (cc := b_M_span) (maxL := 5) (ret := none) (by decide) rfl ?_
  intro p e s m args below meth c s₁ B hml hv
  obtain ⟨rfl, hsz, hP, zz, hD0⟩ := hv
  subst hsz
  have X := zx_of (F := 1) (L := 22) B hml (Nat.le_refl _) (Nat.le_refl _)
  have hD := hD0.self (sz := s.heap.size)
  have hA : ∀ q : Nat, s.heap.size ≤ q → va_A (zwM adM adM_tape adM_frameAt adM_field adM_draft adM_given adM_low adM_high adM_packet adM_known cB cI cL sM) s.heap.size q := fun q h => Or.inr h
  have hl := lv_entry ([.ref adM, .long v1, .long v3]) (n := 5) (Nat.le_of_ble_eq_true rfl)
  rw [lg_entry_eq]
  generalize (lg_sl ([.ref adM, .long v1, .long v3]) ++ List.replicate (5 - (lg_sl ([.ref adM, .long v1, .long v3])).length) Slot.unset).toArray = ls at hl ⊢
  exact k_M_span_0 X hA zz sM v1 v3 a hG adM adM_tape adM_frameAt adM_field adM_draft adM_given adM_low adM_high adM_packet adM_known _ _ hP hD va_S.rf ls hl
noncomputable def g_M_suits_376 (N : Nat) (sM : zM) (s0 : Int32) : Option (Int32) := zg (narrow .boolean (.int s0) = .int s0) (some (s0))
noncomputable def g_M_suits_375 (N : Nat) (sM : zM) : Option (Int32) := g_M_suits_376 N sM (0 : Int32)
noncomputable def g_M_suits_371 (N : Nat) (sM : zM) : Option (Int32) := g_M_suits_376 N sM (1 : Int32)
noncomputable def g_M_suits_354 (N : Nat) (sM : zM) (v1 : Int32) (v2 : Int32) : Option (Int32) := if v2 = (0 : Int32) then (g_M_suits_375 N sM) else (if v1 = (7 : Int32) then (if (zM_gives sM) ≤ (0 : Int32) then (g_M_suits_375 N sM) else (g_M_suits_371 N sM)) else (g_M_suits_371 N sM))
noncomputable def g_M_suits_353 (N : Nat) (sM : zM) (v1 : Int32) (s0 : Int32) : Option (Int32) := g_M_suits_354 N sM v1 s0
noncomputable def g_M_suits_352 (N : Nat) (sM : zM) (v1 : Int32) : Option (Int32) := g_M_suits_353 N sM v1 (0 : Int32)
noncomputable def g_M_suits_c342 (N : Nat) (sM : zM) (v1 : Int32) (r_342 : Int32) : Option (Int32) := if r_342 = (0 : Int32) then (g_M_suits_352 N sM v1) else (g_M_suits_353 N sM v1 (1 : Int32))
noncomputable def g_M_suits_305 (N : Nat) (sM : zM) (v1 : Int32) (v2 : Int32) : Option (Int32) := if v1 = (24 : Int32) then (if v2 = (0 : Int32) then (g_M_suits_352 N sM v1) else (zg (vp_in (1 : Int32) 12) (zg (vp_in (0 : Int32) 12) (if (0 : Int32) < (lg_cmp ((zM_draft sM) (1 : Int32).toNatClampNeg) ((zM_draft sM) (0 : Int32).toNatClampNeg)) then (g_M_suits_352 N sM v1) else ((g_M_within ((zM_gives sM).toInt64) (17 : Int64) (36 : Int64)).bind (fun a => g_M_suits_c342 N sM v1 a)))))) else (g_M_suits_354 N sM v1 v2)
noncomputable def g_M_suits_304 (N : Nat) (sM : zM) (v1 : Int32) (s0 : Int32) : Option (Int32) := g_M_suits_305 N sM v1 s0
noncomputable def g_M_suits_303 (N : Nat) (sM : zM) (v1 : Int32) : Option (Int32) := g_M_suits_304 N sM v1 (0 : Int32)
noncomputable def g_M_suits_282 (N : Nat) (sM : zM) (v1 : Int32) (v2 : Int32) : Option (Int32) := if v2 = (0 : Int32) then (g_M_suits_303 N sM v1) else (zg (vp_in (0 : Int32) 12) (if (0 : Int32) < (lg_cmp ((zM_draft sM) (0 : Int32).toNatClampNeg) (1152921504606846976 : Int64)) then (g_M_suits_303 N sM v1) else (g_M_suits_304 N sM v1 (1 : Int32))))
noncomputable def g_M_suits_258 (N : Nat) (sM : zM) (v1 : Int32) (v2 : Int32) : Option (Int32) := if v1 = (18 : Int32) then (g_M_suits_282 N sM v1 v2) else (if v1 = (19 : Int32) then (g_M_suits_282 N sM v1 v2) else (if v1 = (22 : Int32) then (g_M_suits_282 N sM v1 v2) else (if v1 = (23 : Int32) then (g_M_suits_282 N sM v1 v2) else (g_M_suits_305 N sM v1 v2))))
noncomputable def g_M_suits_257 (N : Nat) (sM : zM) (v1 : Int32) (s0 : Int32) : Option (Int32) := g_M_suits_258 N sM v1 s0
noncomputable def g_M_suits_256 (N : Nat) (sM : zM) (v1 : Int32) : Option (Int32) := g_M_suits_257 N sM v1 (0 : Int32)
noncomputable def g_M_suits_229 (N : Nat) (sM : zM) (v1 : Int32) (v2 : Int32) : Option (Int32) := if v2 = (0 : Int32) then (g_M_suits_256 N sM v1) else (zg (vp_in (1 : Int32) 12) (if (0 : Int32) < (lg_cmp (((zM_draft sM) (1 : Int32).toNatClampNeg) + ((zM_gives sM).toInt64)) (4611686018427387903 : Int64)) then (g_M_suits_256 N sM v1) else (g_M_suits_257 N sM v1 (1 : Int32))))
noncomputable def g_M_suits_217 (N : Nat) (sM : zM) (v1 : Int32) (v2 : Int32) : Option (Int32) := if v1 = (8 : Int32) then (g_M_suits_229 N sM v1 v2) else (if v1 = (6 : Int32) then (g_M_suits_229 N sM v1 v2) else (g_M_suits_258 N sM v1 v2))
noncomputable def g_M_suits_216 (N : Nat) (sM : zM) (v1 : Int32) (s0 : Int32) : Option (Int32) := g_M_suits_217 N sM v1 s0
noncomputable def g_M_suits_215 (N : Nat) (sM : zM) (v1 : Int32) : Option (Int32) := g_M_suits_216 N sM v1 (0 : Int32)
noncomputable def g_M_suits_c205 (N : Nat) (sM : zM) (v1 : Int32) (r_205 : Int32) : Option (Int32) := if r_205 = (0 : Int32) then (g_M_suits_215 N sM v1) else (g_M_suits_216 N sM v1 (1 : Int32))
noncomputable def g_M_suits_c191 (N : Nat) (sM : zM) (v1 : Int32) (r_191 : Int32) : Option (Int32) := if r_191 = (0 : Int32) then (g_M_suits_215 N sM v1) else (zg (vp_in (3 : Int32) 12) ((g_M_within ((zM_draft sM) (3 : Int32).toNatClampNeg) (0 : Int64) (1 : Int64)).bind (fun a => g_M_suits_c205 N sM v1 a)))
noncomputable def g_M_suits_164 (N : Nat) (kr : zM → Int32 → Int32 → Int32 → Option (Int32)) (sM : zM) (v1 : Int32) (v3 : Int32) (s0 : Int32) : Option (Int32) := kr sM v1 s0 (v3 / (10 : Int32))
noncomputable def g_M_suits_163 (N : Nat) (kr : zM → Int32 → Int32 → Int32 → Option (Int32)) (sM : zM) (v1 : Int32) (v3 : Int32) : Option (Int32) := g_M_suits_164 N kr sM v1 v3 (0 : Int32)
noncomputable def g_M_suits_159 (N : Nat) (kr : zM → Int32 → Int32 → Int32 → Option (Int32)) (sM : zM) (v1 : Int32) (v3 : Int32) : Option (Int32) := g_M_suits_164 N kr sM v1 v3 (1 : Int32)
noncomputable def g_M_suits_c153 (N : Nat) (kr : zM → Int32 → Int32 → Int32 → Option (Int32)) (sM : zM) (v1 : Int32) (v3 : Int32) (r_153 : Int32) : Option (Int32) := if r_153 = (0 : Int32) then (g_M_suits_163 N kr sM v1 v3) else (g_M_suits_159 N kr sM v1 v3)
noncomputable def g_M_suits_124_b (N : Nat) (kr : zM → Int32 → Int32 → Int32 → Option (Int32)) (sM : zM) (v1 : Int32) (v2 : Int32) (v3 : Int32) : Option (Int32) := if v3 ≤ (0 : Int32) then (if v1 = (8 : Int32) then (if v2 = (0 : Int32) then (g_M_suits_215 N sM v1) else (zg (vp_in (2 : Int32) 12) ((g_M_within ((zM_draft sM) (2 : Int32).toNatClampNeg) (0 : Int64) (1 : Int64)).bind (fun a => g_M_suits_c191 N sM v1 a)))) else (g_M_suits_217 N sM v1 v2)) else (if v2 = (0 : Int32) then (g_M_suits_163 N kr sM v1 v3) else (if (3 : Int32) < (v3 - v3 / (10 : Int32) * (10 : Int32)) then (g_M_suits_159 N kr sM v1 v3) else (zg (vp_in ((v3 - v3 / (10 : Int32) * (10 : Int32)) - (1 : Int32)) 12) ((g_M_isNumber ((zM_draft sM) ((v3 - v3 / (10 : Int32) * (10 : Int32)) - (1 : Int32)).toNatClampNeg)).bind (fun a => g_M_suits_c153 N kr sM v1 v3 a)))))
noncomputable def g_M_suits_124 (N : Nat) : Nat → zM → Int32 → Int32 → Int32 → Option (Int32)
  | 0 => fun _ _ _ _ => none
  | k + 1 => fun sM v1 v2 v3 => g_M_suits_124_b N (g_M_suits_124 N k) sM v1 v2 v3
noncomputable def g_M_suits_123 (N : Nat) (sM : zM) (v1 : Int32) (v2 : Int32) (s0 : Int32) : Option (Int32) := g_M_suits_124 N N sM v1 v2 s0
noncomputable def g_M_suits_c120 (N : Nat) (sM : zM) (v1 : Int32) (r_120 : Int32) : Option (Int32) := g_M_suits_123 N sM v1 (1 : Int32) r_120
noncomputable def g_M_suits_105 (N : Nat) (sM : zM) (s0 : Int32) : Option (Int32) := zg (narrow .boolean (.int s0) = .int s0) (some (s0))
noncomputable def g_M_suits_104 (N : Nat) (sM : zM) : Option (Int32) := g_M_suits_105 N sM (0 : Int32)
noncomputable def g_M_suits_100 (N : Nat) (sM : zM) : Option (Int32) := g_M_suits_105 N sM (1 : Int32)
noncomputable def g_M_suits_c94 (N : Nat) (sM : zM) (r_94 : Int32) : Option (Int32) := if r_94 = (0 : Int32) then (g_M_suits_104 N sM) else (g_M_suits_100 N sM)
noncomputable def g_M_suits_c81 (N : Nat) (sM : zM) (r_81 : Int32) : Option (Int32) := if r_81 = (0 : Int32) then (g_M_suits_104 N sM) else (zg (vp_in (11 : Int32) 12) ((g_M_isNumber ((zM_draft sM) (11 : Int32).toNatClampNeg)).bind (fun a => g_M_suits_c94 N sM a)))
noncomputable def g_M_suits_c68 (N : Nat) (sM : zM) (r_68 : Int32) : Option (Int32) := if r_68 = (0 : Int32) then (g_M_suits_104 N sM) else (zg (vp_in (10 : Int32) 12) ((g_M_isNumber ((zM_draft sM) (10 : Int32).toNatClampNeg)).bind (fun a => g_M_suits_c81 N sM a)))
noncomputable def g_M_suits_c50 (N : Nat) (sM : zM) (v1 : Int32) (r_50 : Int32) : Option (Int32) := if r_50 = (0 : Int32) then (g_M_suits_104 N sM) else (if v1 = (2 : Int32) then (g_M_suits_100 N sM) else (zg (vp_in (9 : Int32) 12) ((g_M_isNumber ((zM_draft sM) (9 : Int32).toNatClampNeg)).bind (fun a => g_M_suits_c68 N sM a))))
noncomputable def g_M_suits_c38 (N : Nat) (sM : zM) (v1 : Int32) (r_38 : Int32) : Option (Int32) := if r_38 = (0 : Int32) then (g_M_suits_104 N sM) else (zg (vp_in (1 : Int32) 12) ((g_M_isNumber ((zM_draft sM) (1 : Int32).toNatClampNeg)).bind (fun a => g_M_suits_c50 N sM v1 a)))
noncomputable def g_M_suits_c19 (N : Nat) (sM : zM) (v1 : Int32) (r_19 : Int32) : Option (Int32) := if r_19 = (0 : Int32) then (if v1 = (8 : Int32) then (g_M_suits_123 N sM v1 (1 : Int32) (21 : Int32)) else ((g_M_fields v1).bind (fun a => g_M_suits_c120 N sM v1 a))) else (if (zM_spans sM) ≤ (0 : Int32) then (g_M_suits_104 N sM) else (zg (vp_in (0 : Int32) 500) ((g_M_isNumber ((zM_high sM) (0 : Int32).toNatClampNeg)).bind (fun a => g_M_suits_c38 N sM v1 a))))
noncomputable def g_M_suits_c14 (r_14 : Int32) : Option (Int32) := zg (narrow .boolean (.int r_14) = .int r_14) (some (r_14))
noncomputable def g_M_suits (N : Nat) (sM : zM) (v1 : Int32) : Option (Int32) := if v1 = (0 : Int32) then (zg (vp_in (0 : Int32) 12) ((g_M_within ((zM_draft sM) (0 : Int32).toNatClampNeg) (1 : Int64) (2000 : Int64)).bind (fun a => g_M_suits_c14 a))) else ((g_M_isAck v1).bind (fun a => g_M_suits_c19 N sM v1 a))
def q_M_suits (dC : Nat → ClassId) (dI : Nat → Nat → Nat) (cB cI cL : ClassId) (A : Nat → Prop) (adM : Nat) (adM_tape : Nat) (adM_frameAt : Nat) (adM_field : Nat) (adM_draft : Nat) (adM_given : Nat) (adM_low : Nat) (adM_high : Nat) (adM_packet : Nat) (adM_known : Nat) (sM : zM) (a : Int32) : Array Value → State → Outcome → State → Prop := va_Qi (fun (r : Int32) (u : Unit) => (r) = a) (fun u U => va_P (dC, dI) zcl (zwM adM adM_tape adM_frameAt adM_field adM_draft adM_given adM_low adM_high adM_packet adM_known cB cI cL sM) U.heap ∧ va_D A (zwM adM adM_tape adM_frameAt adM_field adM_draft adM_given adM_low adM_high adM_packet adM_known cB cI cL sM)) A
set_option maxRecDepth 100000 in
set_option maxHeartbeats 4000000 in
theorem k_M_suits_376 {p : Program} {l : Launch} {e : Env} {R : Room} {s : State} {m : MethodId} {args : Array Value} {below : List Frame} {meth : Method} {c : Code} {dC : Nat → ClassId} {dI : Nat → Nat → Nat} {cB cI cL : ClassId} {A : Nat → Prop} (X : zx p s m args meth c R R_M b_M_suits (some .boolean) 5 2 46) (hA : ∀ q, s.heap.size ≤ q → A q) (zz : zk dC dI cB cI cL A s)  (N : Nat) (sM : zM) (s0 : Int32) (a : Int32) (hG : g_M_suits_376 N sM s0 = some a) (adM adM_tape adM_frameAt adM_field adM_draft adM_given adM_low adM_high adM_packet adM_known : Nat) (H : Heap) (locs : List Loc) (hP : va_P (dC, dI) zcl (zwM adM adM_tape adM_frameAt adM_field adM_draft adM_given adM_low adM_high adM_packet adM_known cB cI cL sM) H) (hD : va_D A (zwM adM adM_tape adM_frameAt adM_field adM_draft adM_given adM_low adM_high adM_packet adM_known cB cI cL sM)) (hS : va_S A s.heap H locs) (ls : Array Slot) (hl : lv_has ls 5 []) : W p l e R s m args below meth c H locs 0 0 (MQ below (q_M_suits dC dI cB cI cL A adM adM_tape adM_frameAt adM_field adM_draft adM_given adM_low adM_high adM_packet adM_known sM a) args s 0 0 A) (F0 m 376 ls [.int s0]) := by
  obtain ⟨hx, hb, hr, hml, hown, hts, hlocks, hRf, hRl⟩ := id X
  unfold g_M_suits_376 at hG
  obtain ⟨hnb, hG⟩ := zgd hG
  exact W.zret (v := s0) hx hb hr hnb (fun t9 ht9 hW9 => ⟨⟨s0, (), rfl, Option.some.inj hG, by rw [ht9]; exact hP, hD⟩, hS.F ht9⟩) hS.2.2 d_M_suits_376
set_option maxRecDepth 100000 in
set_option maxHeartbeats 4000000 in
theorem k_M_suits_375 {p : Program} {l : Launch} {e : Env} {R : Room} {s : State} {m : MethodId} {args : Array Value} {below : List Frame} {meth : Method} {c : Code} {dC : Nat → ClassId} {dI : Nat → Nat → Nat} {cB cI cL : ClassId} {A : Nat → Prop} (X : zx p s m args meth c R R_M b_M_suits (some .boolean) 5 2 46) (hA : ∀ q, s.heap.size ≤ q → A q) (zz : zk dC dI cB cI cL A s)  (N : Nat) (sM : zM) (a : Int32) (hG : g_M_suits_375 N sM = some a) (adM adM_tape adM_frameAt adM_field adM_draft adM_given adM_low adM_high adM_packet adM_known : Nat) (H : Heap) (locs : List Loc) (hP : va_P (dC, dI) zcl (zwM adM adM_tape adM_frameAt adM_field adM_draft adM_given adM_low adM_high adM_packet adM_known cB cI cL sM) H) (hD : va_D A (zwM adM adM_tape adM_frameAt adM_field adM_draft adM_given adM_low adM_high adM_packet adM_known cB cI cL sM)) (hS : va_S A s.heap H locs) (ls : Array Slot) (hl : lv_has ls 5 []) : W p l e R s m args below meth c H locs 0 0 (MQ below (q_M_suits dC dI cB cI cL A adM adM_tape adM_frameAt adM_field adM_draft adM_given adM_low adM_high adM_packet adM_known sM a) args s 0 0 A) (F0 m 375 ls []) := by
  obtain ⟨hx, hb, hr, hml, hown, hts, hlocks, hRf, hRl⟩ := id X
  unfold g_M_suits_375 at hG
  refine lv_iconst (v := (0 : Int32)) hx hb d_M_suits_375 (by decide) ?_
  exact k_M_suits_376 X hA zz N sM (0 : Int32) _ hG adM adM_tape adM_frameAt adM_field adM_draft adM_given adM_low adM_high adM_packet adM_known _ _ hP hD hS _ (lv_sub hl [] rfl)
set_option maxRecDepth 100000 in
set_option maxHeartbeats 4000000 in
theorem k_M_suits_371 {p : Program} {l : Launch} {e : Env} {R : Room} {s : State} {m : MethodId} {args : Array Value} {below : List Frame} {meth : Method} {c : Code} {dC : Nat → ClassId} {dI : Nat → Nat → Nat} {cB cI cL : ClassId} {A : Nat → Prop} (X : zx p s m args meth c R R_M b_M_suits (some .boolean) 5 2 46) (hA : ∀ q, s.heap.size ≤ q → A q) (zz : zk dC dI cB cI cL A s)  (N : Nat) (sM : zM) (a : Int32) (hG : g_M_suits_371 N sM = some a) (adM adM_tape adM_frameAt adM_field adM_draft adM_given adM_low adM_high adM_packet adM_known : Nat) (H : Heap) (locs : List Loc) (hP : va_P (dC, dI) zcl (zwM adM adM_tape adM_frameAt adM_field adM_draft adM_given adM_low adM_high adM_packet adM_known cB cI cL sM) H) (hD : va_D A (zwM adM adM_tape adM_frameAt adM_field adM_draft adM_given adM_low adM_high adM_packet adM_known cB cI cL sM)) (hS : va_S A s.heap H locs) (ls : Array Slot) (hl : lv_has ls 5 []) : W p l e R s m args below meth c H locs 0 0 (MQ below (q_M_suits dC dI cB cI cL A adM adM_tape adM_frameAt adM_field adM_draft adM_given adM_low adM_high adM_packet adM_known sM a) args s 0 0 A) (F0 m 371 ls []) := by
  obtain ⟨hx, hb, hr, hml, hown, hts, hlocks, hRf, hRl⟩ := id X
  unfold g_M_suits_371 at hG
  refine lv_iconst (v := (1 : Int32)) hx hb d_M_suits_371 (by decide) ?_
  refine lv_goto (tgt := 376) hx hb d_M_suits_372 (by decide) ?_
  exact k_M_suits_376 X hA zz N sM (1 : Int32) _ hG adM adM_tape adM_frameAt adM_field adM_draft adM_given adM_low adM_high adM_packet adM_known _ _ hP hD hS _ (lv_sub hl [] rfl)
set_option maxRecDepth 100000 in
set_option maxHeartbeats 4000000 in
theorem k_M_suits_354 {p : Program} {l : Launch} {e : Env} {R : Room} {s : State} {m : MethodId} {args : Array Value} {below : List Frame} {meth : Method} {c : Code} {dC : Nat → ClassId} {dI : Nat → Nat → Nat} {cB cI cL : ClassId} {A : Nat → Prop} (X : zx p s m args meth c R R_M b_M_suits (some .boolean) 5 2 46) (hA : ∀ q, s.heap.size ≤ q → A q) (zz : zk dC dI cB cI cL A s)  (N : Nat) (sM : zM) (v1 : Int32) (v2 : Int32) (a : Int32) (hG : g_M_suits_354 N sM v1 v2 = some a) (adM adM_tape adM_frameAt adM_field adM_draft adM_given adM_low adM_high adM_packet adM_known : Nat) (H : Heap) (locs : List Loc) (hP : va_P (dC, dI) zcl (zwM adM adM_tape adM_frameAt adM_field adM_draft adM_given adM_low adM_high adM_packet adM_known cB cI cL sM) H) (hD : va_D A (zwM adM adM_tape adM_frameAt adM_field adM_draft adM_given adM_low adM_high adM_packet adM_known cB cI cL sM)) (hS : va_S A s.heap H locs) (ls : Array Slot) (hl : lv_has ls 5 [(0, .ref adM), (1, .int v1), (2, .int v2)]) : W p l e R s m args below meth c H locs 0 0 (MQ below (q_M_suits dC dI cB cI cL A adM adM_tape adM_frameAt adM_field adM_draft adM_given adM_low adM_high adM_packet adM_known sM a) args s 0 0 A) (F0 m 354 ls []) := by
  obtain ⟨hx, hb, hr, hml, hown, hts, hlocks, hRf, hRl⟩ := id X
  unfold g_M_suits_354 at hG
  refine lv_iload_n hx hb d_M_suits_354 rfl (lv_at hl 2 rfl) ?_
  refine lv_if_eq (tgt := 375) hx hb d_M_suits_355 (by decide) (fun hc => ?_) (fun hc => ?_)
  · have hG := zt hG hc
    exact k_M_suits_375 X hA zz N sM _ hG adM adM_tape adM_frameAt adM_field adM_draft adM_given adM_low adM_high adM_packet adM_known _ _ hP hD hS _ (lv_sub hl [] rfl)
  · have hG := zf hG hc
    refine lv_iload_n hx hb d_M_suits_358 rfl (lv_at hl 1 rfl) ?_
    refine lv_bipush (v := (7 : Int32)) hx hb d_M_suits_359 (by decide) ?_
    refine lv_icmp_ne (tgt := 371) hx hb d_M_suits_361 (by decide) (fun hc => ?_) (fun hc => ?_)
    · have hG := zf hG hc
      exact k_M_suits_371 X hA zz N sM _ hG adM adM_tape adM_frameAt adM_field adM_draft adM_given adM_low adM_high adM_packet adM_known _ _ hP hD hS _ (lv_sub hl [] rfl)
    · have hG := zt hG hc
      refine lv_aload_n hx hb d_M_suits_364 rfl (lv_at hl 0 rfl) ?_
      refine va_get (D := (dC, dI)) (ci := 8) (v := .int (zM_gives sM)) (C := R_M) (T := F_M) (N := 26) hx hb hts zi_M hown zz.1 hP 0 rfl rfl 19 (by decide) (hts (.fieldLink R_M 211 "WireCodecModel" "gives" "I") zin_M_211) (fun _ h9 => h9) rfl d_M_suits_365 ?_
      refine lv_if_le (tgt := 375) hx hb d_M_suits_368 (by decide) (fun hc => ?_) (fun hc => ?_)
      · have hG := zt hG hc
        exact k_M_suits_375 X hA zz N sM _ hG adM adM_tape adM_frameAt adM_field adM_draft adM_given adM_low adM_high adM_packet adM_known _ _ hP hD hS _ (lv_sub hl [] rfl)
      · have hG := zf hG hc
        exact k_M_suits_371 X hA zz N sM _ hG adM adM_tape adM_frameAt adM_field adM_draft adM_given adM_low adM_high adM_packet adM_known _ _ hP hD hS _ (lv_sub hl [] rfl)
set_option maxRecDepth 100000 in
set_option maxHeartbeats 4000000 in
theorem k_M_suits_353 {p : Program} {l : Launch} {e : Env} {R : Room} {s : State} {m : MethodId} {args : Array Value} {below : List Frame} {meth : Method} {c : Code} {dC : Nat → ClassId} {dI : Nat → Nat → Nat} {cB cI cL : ClassId} {A : Nat → Prop} (X : zx p s m args meth c R R_M b_M_suits (some .boolean) 5 2 46) (hA : ∀ q, s.heap.size ≤ q → A q) (zz : zk dC dI cB cI cL A s)  (N : Nat) (sM : zM) (v1 : Int32) (s0 : Int32) (a : Int32) (hG : g_M_suits_353 N sM v1 s0 = some a) (adM adM_tape adM_frameAt adM_field adM_draft adM_given adM_low adM_high adM_packet adM_known : Nat) (H : Heap) (locs : List Loc) (hP : va_P (dC, dI) zcl (zwM adM adM_tape adM_frameAt adM_field adM_draft adM_given adM_low adM_high adM_packet adM_known cB cI cL sM) H) (hD : va_D A (zwM adM adM_tape adM_frameAt adM_field adM_draft adM_given adM_low adM_high adM_packet adM_known cB cI cL sM)) (hS : va_S A s.heap H locs) (ls : Array Slot) (hl : lv_has ls 5 [(0, .ref adM), (1, .int v1)]) : W p l e R s m args below meth c H locs 0 0 (MQ below (q_M_suits dC dI cB cI cL A adM adM_tape adM_frameAt adM_field adM_draft adM_given adM_low adM_high adM_packet adM_known sM a) args s 0 0 A) (F0 m 353 ls [.int s0]) := by
  obtain ⟨hx, hb, hr, hml, hown, hts, hlocks, hRf, hRl⟩ := id X
  unfold g_M_suits_353 at hG
  refine lv_istore_n (lv' := [(2, .int s0), (0, .ref adM), (1, .int v1)]) hx hb d_M_suits_353 rfl hl (by decide) rfl (fun ls hl => ?_)
  exact k_M_suits_354 X hA zz N sM v1 s0 _ hG adM adM_tape adM_frameAt adM_field adM_draft adM_given adM_low adM_high adM_packet adM_known _ _ hP hD hS _ (lv_sub hl [1, 2, 0] rfl)
set_option maxRecDepth 100000 in
set_option maxHeartbeats 4000000 in
theorem k_M_suits_352 {p : Program} {l : Launch} {e : Env} {R : Room} {s : State} {m : MethodId} {args : Array Value} {below : List Frame} {meth : Method} {c : Code} {dC : Nat → ClassId} {dI : Nat → Nat → Nat} {cB cI cL : ClassId} {A : Nat → Prop} (X : zx p s m args meth c R R_M b_M_suits (some .boolean) 5 2 46) (hA : ∀ q, s.heap.size ≤ q → A q) (zz : zk dC dI cB cI cL A s)  (N : Nat) (sM : zM) (v1 : Int32) (a : Int32) (hG : g_M_suits_352 N sM v1 = some a) (adM adM_tape adM_frameAt adM_field adM_draft adM_given adM_low adM_high adM_packet adM_known : Nat) (H : Heap) (locs : List Loc) (hP : va_P (dC, dI) zcl (zwM adM adM_tape adM_frameAt adM_field adM_draft adM_given adM_low adM_high adM_packet adM_known cB cI cL sM) H) (hD : va_D A (zwM adM adM_tape adM_frameAt adM_field adM_draft adM_given adM_low adM_high adM_packet adM_known cB cI cL sM)) (hS : va_S A s.heap H locs) (ls : Array Slot) (hl : lv_has ls 5 [(0, .ref adM), (1, .int v1)]) : W p l e R s m args below meth c H locs 0 0 (MQ below (q_M_suits dC dI cB cI cL A adM adM_tape adM_frameAt adM_field adM_draft adM_given adM_low adM_high adM_packet adM_known sM a) args s 0 0 A) (F0 m 352 ls []) := by
  obtain ⟨hx, hb, hr, hml, hown, hts, hlocks, hRf, hRl⟩ := id X
  unfold g_M_suits_352 at hG
  refine lv_iconst (v := (0 : Int32)) hx hb d_M_suits_352 (by decide) ?_
  exact k_M_suits_353 X hA zz N sM v1 (0 : Int32) _ hG adM adM_tape adM_frameAt adM_field adM_draft adM_given adM_low adM_high adM_packet adM_known _ _ hP hD hS _ (lv_sub hl [0, 1] rfl)
set_option maxRecDepth 100000 in
set_option maxHeartbeats 4000000 in
theorem k_M_suits_305 {p : Program} {l : Launch} {e : Env} {R : Room} {s : State} {m : MethodId} {args : Array Value} {below : List Frame} {meth : Method} {c : Code} {dC : Nat → ClassId} {dI : Nat → Nat → Nat} {cB cI cL : ClassId} {A : Nat → Prop} (X : zx p s m args meth c R R_M b_M_suits (some .boolean) 5 2 46) (hA : ∀ q, s.heap.size ≤ q → A q) (zz : zk dC dI cB cI cL A s)  (N : Nat) (sM : zM) (v1 : Int32) (v2 : Int32) (a : Int32) (hG : g_M_suits_305 N sM v1 v2 = some a) (adM adM_tape adM_frameAt adM_field adM_draft adM_given adM_low adM_high adM_packet adM_known : Nat) (H : Heap) (locs : List Loc) (hP : va_P (dC, dI) zcl (zwM adM adM_tape adM_frameAt adM_field adM_draft adM_given adM_low adM_high adM_packet adM_known cB cI cL sM) H) (hD : va_D A (zwM adM adM_tape adM_frameAt adM_field adM_draft adM_given adM_low adM_high adM_packet adM_known cB cI cL sM)) (hS : va_S A s.heap H locs) (ls : Array Slot) (hl : lv_has ls 5 [(0, .ref adM), (1, .int v1), (2, .int v2)]) : W p l e R s m args below meth c H locs 0 0 (MQ below (q_M_suits dC dI cB cI cL A adM adM_tape adM_frameAt adM_field adM_draft adM_given adM_low adM_high adM_packet adM_known sM a) args s 0 0 A) (F0 m 305 ls []) := by
  obtain ⟨hx, hb, hr, hml, hown, hts, hlocks, hRf, hRl⟩ := id X
  unfold g_M_suits_305 at hG
  refine lv_iload_n hx hb d_M_suits_305 rfl (lv_at hl 1 rfl) ?_
  refine lv_bipush (v := (24 : Int32)) hx hb d_M_suits_306 (by decide) ?_
  refine lv_icmp_ne (tgt := 354) hx hb d_M_suits_308 (by decide) (fun hc => ?_) (fun hc => ?_)
  · have hG := zf hG hc
    exact k_M_suits_354 X hA zz N sM v1 v2 _ hG adM adM_tape adM_frameAt adM_field adM_draft adM_given adM_low adM_high adM_packet adM_known _ _ hP hD hS _ (lv_sub hl [0, 1, 2] rfl)
  · have hG := zt hG hc
    refine lv_iload_n hx hb d_M_suits_311 rfl (lv_at hl 2 rfl) ?_
    refine lv_if_eq (tgt := 352) hx hb d_M_suits_312 (by decide) (fun hc => ?_) (fun hc => ?_)
    · have hG := zt hG hc
      exact k_M_suits_352 X hA zz N sM v1 _ hG adM adM_tape adM_frameAt adM_field adM_draft adM_given adM_low adM_high adM_packet adM_known _ _ hP hD hS _ (lv_sub hl [0, 1] rfl)
    · have hG := zf hG hc
      refine lv_aload_n hx hb d_M_suits_315 rfl (lv_at hl 0 rfl) ?_
      refine va_get (D := (dC, dI)) (ci := 8) (v := .ref adM_draft) (C := R_M) (T := F_M) (N := 26) hx hb hts zi_M hown zz.1 hP 0 rfl rfl 17 (by decide) (hts (.fieldLink R_M 26 "WireCodecModel" "draft" "[J") zin_M_26) (fun _ h9 => h9) rfl d_M_suits_316 ?_
      refine lv_iconst (v := (1 : Int32)) hx hb d_M_suits_319 (by decide) ?_
      obtain ⟨hin, hG⟩ := zgd hG
      refine va_lald hx hb zz.1 hP 4 2 rfl rfl hin d_M_suits_320 ?_
      refine lv_aload_n hx hb d_M_suits_321 rfl (lv_at hl 0 rfl) ?_
      refine va_get (D := (dC, dI)) (ci := 8) (v := .ref adM_draft) (C := R_M) (T := F_M) (N := 26) hx hb hts zi_M hown zz.1 hP 0 rfl rfl 17 (by decide) (hts (.fieldLink R_M 26 "WireCodecModel" "draft" "[J") zin_M_26) (fun _ h9 => h9) rfl d_M_suits_322 ?_
      refine lv_iconst (v := (0 : Int32)) hx hb d_M_suits_325 (by decide) ?_
      obtain ⟨hin, hG⟩ := zgd hG
      refine va_lald hx hb zz.1 hP 4 2 rfl rfl hin d_M_suits_326 ?_
      refine W.lcmp hx hb d_M_suits_327 ?_
      refine lv_if_gt (tgt := 352) hx hb d_M_suits_328 (by decide) (fun hc => ?_) (fun hc => ?_)
      · have hG := zt hG hc
        exact k_M_suits_352 X hA zz N sM v1 _ hG adM adM_tape adM_frameAt adM_field adM_draft adM_given adM_low adM_high adM_packet adM_known _ _ hP hD hS _ (lv_sub hl [0, 1] rfl)
      · have hG := zf hG hc
        refine lv_aload_n hx hb d_M_suits_331 rfl (lv_at hl 0 rfl) ?_
        refine va_get (D := (dC, dI)) (ci := 8) (v := .int (zM_gives sM)) (C := R_M) (T := F_M) (N := 26) hx hb hts zi_M hown zz.1 hP 0 rfl rfl 19 (by decide) (hts (.fieldLink R_M 211 "WireCodecModel" "gives" "I") zin_M_211) (fun _ h9 => h9) rfl d_M_suits_332 ?_
        refine lv_i2l hx hb d_M_suits_335 rfl ?_
        refine lv_ldc2 (v := (17 : Int64)) hx hb hown (hts (.constantLong R_M 221 (17 : Int64)) zin_M_221) d_M_suits_336 ?_
        refine lv_ldc2 (v := (36 : Int64)) hx hb hown (hts (.constantLong R_M 223 (36 : Int64)) zin_M_223) d_M_suits_339 ?_
        obtain ⟨a_342, hx_342, hG⟩ := zb hG
        have hr_342 := zrunS (p := p) (e := e) (below := below) (meth := meth) (As := [.long ((zM_gives sM).toInt64), .long (17 : Int64), .long (36 : Int64)]) (rest := []) (st0 := [.long (36 : Int64), .long (17 : Int64), .long ((zM_gives sM).toInt64)]) (cells := 0) (slots := 0) X zz hP hD hS hA [] (by decide) rfl (c_M_within l dC dI cB cI cL H.size ((zM_gives sM).toInt64) (17 : Int64) (36 : Int64) _ hx_342) zy_M_within zv_M_within (hts (.methodLink R_M 53 y_M_within) zin_M_53) hl rfl rfl d_M_suits_342 (lv_room (Nat.le_of_ble_eq_true rfl)) rfl rfl ⟨Nat.le_trans (Nat.le_of_ble_eq_true rfl) hRf, Nat.le_trans (Nat.le_of_ble_eq_true rfl) hRl⟩ ⟨Nat.zero_le _, Nat.zero_le _⟩
        refine zcalli (wr := (zwM adM adM_tape adM_frameAt adM_field adM_draft adM_given adM_low adM_high adM_packet adM_known cB cI cL sM)) hr_342 hP hD hS hA [] [0, 1, 2, 3, 4, 5, 6, 7, 8, 9] rfl rfl (by decide) (by decide) (fun r_342 u_342 H locs hw_342 hP hD hS => ?_)
        subst hw_342
        have hP : va_P (dC, dI) zcl (zwM adM adM_tape adM_frameAt adM_field adM_draft adM_given adM_low adM_high adM_packet adM_known cB cI cL sM) H := hP
        have hD : va_D A (zwM adM adM_tape adM_frameAt adM_field adM_draft adM_given adM_low adM_high adM_packet adM_known cB cI cL sM) := hD
        have hG : g_M_suits_c342 N sM v1 r_342 = some a := hG
        unfold g_M_suits_c342 at hG
        refine lv_if_eq (tgt := 352) hx hb d_M_suits_345 (by decide) (fun hc => ?_) (fun hc => ?_)
        · have hG := zt hG hc
          exact k_M_suits_352 X hA zz N sM v1 _ hG adM adM_tape adM_frameAt adM_field adM_draft adM_given adM_low adM_high adM_packet adM_known _ _ hP hD hS _ (lv_sub hl [0, 1] rfl)
        · have hG := zf hG hc
          refine lv_iconst (v := (1 : Int32)) hx hb d_M_suits_348 (by decide) ?_
          refine lv_goto (tgt := 353) hx hb d_M_suits_349 (by decide) ?_
          exact k_M_suits_353 X hA zz N sM v1 (1 : Int32) _ hG adM adM_tape adM_frameAt adM_field adM_draft adM_given adM_low adM_high adM_packet adM_known _ _ hP hD hS _ (lv_sub hl [0, 1] rfl)
set_option maxRecDepth 100000 in
set_option maxHeartbeats 4000000 in
theorem k_M_suits_304 {p : Program} {l : Launch} {e : Env} {R : Room} {s : State} {m : MethodId} {args : Array Value} {below : List Frame} {meth : Method} {c : Code} {dC : Nat → ClassId} {dI : Nat → Nat → Nat} {cB cI cL : ClassId} {A : Nat → Prop} (X : zx p s m args meth c R R_M b_M_suits (some .boolean) 5 2 46) (hA : ∀ q, s.heap.size ≤ q → A q) (zz : zk dC dI cB cI cL A s)  (N : Nat) (sM : zM) (v1 : Int32) (s0 : Int32) (a : Int32) (hG : g_M_suits_304 N sM v1 s0 = some a) (adM adM_tape adM_frameAt adM_field adM_draft adM_given adM_low adM_high adM_packet adM_known : Nat) (H : Heap) (locs : List Loc) (hP : va_P (dC, dI) zcl (zwM adM adM_tape adM_frameAt adM_field adM_draft adM_given adM_low adM_high adM_packet adM_known cB cI cL sM) H) (hD : va_D A (zwM adM adM_tape adM_frameAt adM_field adM_draft adM_given adM_low adM_high adM_packet adM_known cB cI cL sM)) (hS : va_S A s.heap H locs) (ls : Array Slot) (hl : lv_has ls 5 [(0, .ref adM), (1, .int v1)]) : W p l e R s m args below meth c H locs 0 0 (MQ below (q_M_suits dC dI cB cI cL A adM adM_tape adM_frameAt adM_field adM_draft adM_given adM_low adM_high adM_packet adM_known sM a) args s 0 0 A) (F0 m 304 ls [.int s0]) := by
  obtain ⟨hx, hb, hr, hml, hown, hts, hlocks, hRf, hRl⟩ := id X
  unfold g_M_suits_304 at hG
  refine lv_istore_n (lv' := [(2, .int s0), (0, .ref adM), (1, .int v1)]) hx hb d_M_suits_304 rfl hl (by decide) rfl (fun ls hl => ?_)
  exact k_M_suits_305 X hA zz N sM v1 s0 _ hG adM adM_tape adM_frameAt adM_field adM_draft adM_given adM_low adM_high adM_packet adM_known _ _ hP hD hS _ (lv_sub hl [1, 2, 0] rfl)
set_option maxRecDepth 100000 in
set_option maxHeartbeats 4000000 in
theorem k_M_suits_303 {p : Program} {l : Launch} {e : Env} {R : Room} {s : State} {m : MethodId} {args : Array Value} {below : List Frame} {meth : Method} {c : Code} {dC : Nat → ClassId} {dI : Nat → Nat → Nat} {cB cI cL : ClassId} {A : Nat → Prop} (X : zx p s m args meth c R R_M b_M_suits (some .boolean) 5 2 46) (hA : ∀ q, s.heap.size ≤ q → A q) (zz : zk dC dI cB cI cL A s)  (N : Nat) (sM : zM) (v1 : Int32) (a : Int32) (hG : g_M_suits_303 N sM v1 = some a) (adM adM_tape adM_frameAt adM_field adM_draft adM_given adM_low adM_high adM_packet adM_known : Nat) (H : Heap) (locs : List Loc) (hP : va_P (dC, dI) zcl (zwM adM adM_tape adM_frameAt adM_field adM_draft adM_given adM_low adM_high adM_packet adM_known cB cI cL sM) H) (hD : va_D A (zwM adM adM_tape adM_frameAt adM_field adM_draft adM_given adM_low adM_high adM_packet adM_known cB cI cL sM)) (hS : va_S A s.heap H locs) (ls : Array Slot) (hl : lv_has ls 5 [(0, .ref adM), (1, .int v1)]) : W p l e R s m args below meth c H locs 0 0 (MQ below (q_M_suits dC dI cB cI cL A adM adM_tape adM_frameAt adM_field adM_draft adM_given adM_low adM_high adM_packet adM_known sM a) args s 0 0 A) (F0 m 303 ls []) := by
  obtain ⟨hx, hb, hr, hml, hown, hts, hlocks, hRf, hRl⟩ := id X
  unfold g_M_suits_303 at hG
  refine lv_iconst (v := (0 : Int32)) hx hb d_M_suits_303 (by decide) ?_
  exact k_M_suits_304 X hA zz N sM v1 (0 : Int32) _ hG adM adM_tape adM_frameAt adM_field adM_draft adM_given adM_low adM_high adM_packet adM_known _ _ hP hD hS _ (lv_sub hl [0, 1] rfl)
set_option maxRecDepth 100000 in
set_option maxHeartbeats 4000000 in
theorem k_M_suits_282 {p : Program} {l : Launch} {e : Env} {R : Room} {s : State} {m : MethodId} {args : Array Value} {below : List Frame} {meth : Method} {c : Code} {dC : Nat → ClassId} {dI : Nat → Nat → Nat} {cB cI cL : ClassId} {A : Nat → Prop} (X : zx p s m args meth c R R_M b_M_suits (some .boolean) 5 2 46) (hA : ∀ q, s.heap.size ≤ q → A q) (zz : zk dC dI cB cI cL A s)  (N : Nat) (sM : zM) (v1 : Int32) (v2 : Int32) (a : Int32) (hG : g_M_suits_282 N sM v1 v2 = some a) (adM adM_tape adM_frameAt adM_field adM_draft adM_given adM_low adM_high adM_packet adM_known : Nat) (H : Heap) (locs : List Loc) (hP : va_P (dC, dI) zcl (zwM adM adM_tape adM_frameAt adM_field adM_draft adM_given adM_low adM_high adM_packet adM_known cB cI cL sM) H) (hD : va_D A (zwM adM adM_tape adM_frameAt adM_field adM_draft adM_given adM_low adM_high adM_packet adM_known cB cI cL sM)) (hS : va_S A s.heap H locs) (ls : Array Slot) (hl : lv_has ls 5 [(0, .ref adM), (1, .int v1), (2, .int v2)]) : W p l e R s m args below meth c H locs 0 0 (MQ below (q_M_suits dC dI cB cI cL A adM adM_tape adM_frameAt adM_field adM_draft adM_given adM_low adM_high adM_packet adM_known sM a) args s 0 0 A) (F0 m 282 ls []) := by
  obtain ⟨hx, hb, hr, hml, hown, hts, hlocks, hRf, hRl⟩ := id X
  unfold g_M_suits_282 at hG
  refine lv_iload_n hx hb d_M_suits_282 rfl (lv_at hl 2 rfl) ?_
  refine lv_if_eq (tgt := 303) hx hb d_M_suits_283 (by decide) (fun hc => ?_) (fun hc => ?_)
  · have hG := zt hG hc
    exact k_M_suits_303 X hA zz N sM v1 _ hG adM adM_tape adM_frameAt adM_field adM_draft adM_given adM_low adM_high adM_packet adM_known _ _ hP hD hS _ (lv_sub hl [0, 1] rfl)
  · have hG := zf hG hc
    refine lv_aload_n hx hb d_M_suits_286 rfl (lv_at hl 0 rfl) ?_
    refine va_get (D := (dC, dI)) (ci := 8) (v := .ref adM_draft) (C := R_M) (T := F_M) (N := 26) hx hb hts zi_M hown zz.1 hP 0 rfl rfl 17 (by decide) (hts (.fieldLink R_M 26 "WireCodecModel" "draft" "[J") zin_M_26) (fun _ h9 => h9) rfl d_M_suits_287 ?_
    refine lv_iconst (v := (0 : Int32)) hx hb d_M_suits_290 (by decide) ?_
    obtain ⟨hin, hG⟩ := zgd hG
    refine va_lald hx hb zz.1 hP 4 2 rfl rfl hin d_M_suits_291 ?_
    refine lv_ldc2 (v := (1152921504606846976 : Int64)) hx hb hown (hts (.constantLong R_M 188 (1152921504606846976 : Int64)) zin_M_188) d_M_suits_292 ?_
    refine W.lcmp hx hb d_M_suits_295 ?_
    refine lv_if_gt (tgt := 303) hx hb d_M_suits_296 (by decide) (fun hc => ?_) (fun hc => ?_)
    · have hG := zt hG hc
      exact k_M_suits_303 X hA zz N sM v1 _ hG adM adM_tape adM_frameAt adM_field adM_draft adM_given adM_low adM_high adM_packet adM_known _ _ hP hD hS _ (lv_sub hl [0, 1] rfl)
    · have hG := zf hG hc
      refine lv_iconst (v := (1 : Int32)) hx hb d_M_suits_299 (by decide) ?_
      refine lv_goto (tgt := 304) hx hb d_M_suits_300 (by decide) ?_
      exact k_M_suits_304 X hA zz N sM v1 (1 : Int32) _ hG adM adM_tape adM_frameAt adM_field adM_draft adM_given adM_low adM_high adM_packet adM_known _ _ hP hD hS _ (lv_sub hl [0, 1] rfl)
set_option maxRecDepth 100000 in
set_option maxHeartbeats 4000000 in
theorem k_M_suits_258 {p : Program} {l : Launch} {e : Env} {R : Room} {s : State} {m : MethodId} {args : Array Value} {below : List Frame} {meth : Method} {c : Code} {dC : Nat → ClassId} {dI : Nat → Nat → Nat} {cB cI cL : ClassId} {A : Nat → Prop} (X : zx p s m args meth c R R_M b_M_suits (some .boolean) 5 2 46) (hA : ∀ q, s.heap.size ≤ q → A q) (zz : zk dC dI cB cI cL A s)  (N : Nat) (sM : zM) (v1 : Int32) (v2 : Int32) (a : Int32) (hG : g_M_suits_258 N sM v1 v2 = some a) (adM adM_tape adM_frameAt adM_field adM_draft adM_given adM_low adM_high adM_packet adM_known : Nat) (H : Heap) (locs : List Loc) (hP : va_P (dC, dI) zcl (zwM adM adM_tape adM_frameAt adM_field adM_draft adM_given adM_low adM_high adM_packet adM_known cB cI cL sM) H) (hD : va_D A (zwM adM adM_tape adM_frameAt adM_field adM_draft adM_given adM_low adM_high adM_packet adM_known cB cI cL sM)) (hS : va_S A s.heap H locs) (ls : Array Slot) (hl : lv_has ls 5 [(0, .ref adM), (1, .int v1), (2, .int v2)]) : W p l e R s m args below meth c H locs 0 0 (MQ below (q_M_suits dC dI cB cI cL A adM adM_tape adM_frameAt adM_field adM_draft adM_given adM_low adM_high adM_packet adM_known sM a) args s 0 0 A) (F0 m 258 ls []) := by
  obtain ⟨hx, hb, hr, hml, hown, hts, hlocks, hRf, hRl⟩ := id X
  unfold g_M_suits_258 at hG
  refine lv_iload_n hx hb d_M_suits_258 rfl (lv_at hl 1 rfl) ?_
  refine lv_bipush (v := (18 : Int32)) hx hb d_M_suits_259 (by decide) ?_
  refine lv_icmp_eq (tgt := 282) hx hb d_M_suits_261 (by decide) (fun hc => ?_) (fun hc => ?_)
  · have hG := zt hG hc
    exact k_M_suits_282 X hA zz N sM v1 v2 _ hG adM adM_tape adM_frameAt adM_field adM_draft adM_given adM_low adM_high adM_packet adM_known _ _ hP hD hS _ (lv_sub hl [0, 1, 2] rfl)
  · have hG := zf hG hc
    refine lv_iload_n hx hb d_M_suits_264 rfl (lv_at hl 1 rfl) ?_
    refine lv_bipush (v := (19 : Int32)) hx hb d_M_suits_265 (by decide) ?_
    refine lv_icmp_eq (tgt := 282) hx hb d_M_suits_267 (by decide) (fun hc => ?_) (fun hc => ?_)
    · have hG := zt hG hc
      exact k_M_suits_282 X hA zz N sM v1 v2 _ hG adM adM_tape adM_frameAt adM_field adM_draft adM_given adM_low adM_high adM_packet adM_known _ _ hP hD hS _ (lv_sub hl [0, 1, 2] rfl)
    · have hG := zf hG hc
      refine lv_iload_n hx hb d_M_suits_270 rfl (lv_at hl 1 rfl) ?_
      refine lv_bipush (v := (22 : Int32)) hx hb d_M_suits_271 (by decide) ?_
      refine lv_icmp_eq (tgt := 282) hx hb d_M_suits_273 (by decide) (fun hc => ?_) (fun hc => ?_)
      · have hG := zt hG hc
        exact k_M_suits_282 X hA zz N sM v1 v2 _ hG adM adM_tape adM_frameAt adM_field adM_draft adM_given adM_low adM_high adM_packet adM_known _ _ hP hD hS _ (lv_sub hl [0, 1, 2] rfl)
      · have hG := zf hG hc
        refine lv_iload_n hx hb d_M_suits_276 rfl (lv_at hl 1 rfl) ?_
        refine lv_bipush (v := (23 : Int32)) hx hb d_M_suits_277 (by decide) ?_
        refine lv_icmp_ne (tgt := 305) hx hb d_M_suits_279 (by decide) (fun hc => ?_) (fun hc => ?_)
        · have hG := zf hG hc
          exact k_M_suits_305 X hA zz N sM v1 v2 _ hG adM adM_tape adM_frameAt adM_field adM_draft adM_given adM_low adM_high adM_packet adM_known _ _ hP hD hS _ (lv_sub hl [0, 1, 2] rfl)
        · have hG := zt hG hc
          exact k_M_suits_282 X hA zz N sM v1 v2 _ hG adM adM_tape adM_frameAt adM_field adM_draft adM_given adM_low adM_high adM_packet adM_known _ _ hP hD hS _ (lv_sub hl [0, 1, 2] rfl)
set_option maxRecDepth 100000 in
set_option maxHeartbeats 4000000 in
theorem k_M_suits_257 {p : Program} {l : Launch} {e : Env} {R : Room} {s : State} {m : MethodId} {args : Array Value} {below : List Frame} {meth : Method} {c : Code} {dC : Nat → ClassId} {dI : Nat → Nat → Nat} {cB cI cL : ClassId} {A : Nat → Prop} (X : zx p s m args meth c R R_M b_M_suits (some .boolean) 5 2 46) (hA : ∀ q, s.heap.size ≤ q → A q) (zz : zk dC dI cB cI cL A s)  (N : Nat) (sM : zM) (v1 : Int32) (s0 : Int32) (a : Int32) (hG : g_M_suits_257 N sM v1 s0 = some a) (adM adM_tape adM_frameAt adM_field adM_draft adM_given adM_low adM_high adM_packet adM_known : Nat) (H : Heap) (locs : List Loc) (hP : va_P (dC, dI) zcl (zwM adM adM_tape adM_frameAt adM_field adM_draft adM_given adM_low adM_high adM_packet adM_known cB cI cL sM) H) (hD : va_D A (zwM adM adM_tape adM_frameAt adM_field adM_draft adM_given adM_low adM_high adM_packet adM_known cB cI cL sM)) (hS : va_S A s.heap H locs) (ls : Array Slot) (hl : lv_has ls 5 [(0, .ref adM), (1, .int v1)]) : W p l e R s m args below meth c H locs 0 0 (MQ below (q_M_suits dC dI cB cI cL A adM adM_tape adM_frameAt adM_field adM_draft adM_given adM_low adM_high adM_packet adM_known sM a) args s 0 0 A) (F0 m 257 ls [.int s0]) := by
  obtain ⟨hx, hb, hr, hml, hown, hts, hlocks, hRf, hRl⟩ := id X
  unfold g_M_suits_257 at hG
  refine lv_istore_n (lv' := [(2, .int s0), (0, .ref adM), (1, .int v1)]) hx hb d_M_suits_257 rfl hl (by decide) rfl (fun ls hl => ?_)
  exact k_M_suits_258 X hA zz N sM v1 s0 _ hG adM adM_tape adM_frameAt adM_field adM_draft adM_given adM_low adM_high adM_packet adM_known _ _ hP hD hS _ (lv_sub hl [1, 2, 0] rfl)
set_option maxRecDepth 100000 in
set_option maxHeartbeats 4000000 in
theorem k_M_suits_256 {p : Program} {l : Launch} {e : Env} {R : Room} {s : State} {m : MethodId} {args : Array Value} {below : List Frame} {meth : Method} {c : Code} {dC : Nat → ClassId} {dI : Nat → Nat → Nat} {cB cI cL : ClassId} {A : Nat → Prop} (X : zx p s m args meth c R R_M b_M_suits (some .boolean) 5 2 46) (hA : ∀ q, s.heap.size ≤ q → A q) (zz : zk dC dI cB cI cL A s)  (N : Nat) (sM : zM) (v1 : Int32) (a : Int32) (hG : g_M_suits_256 N sM v1 = some a) (adM adM_tape adM_frameAt adM_field adM_draft adM_given adM_low adM_high adM_packet adM_known : Nat) (H : Heap) (locs : List Loc) (hP : va_P (dC, dI) zcl (zwM adM adM_tape adM_frameAt adM_field adM_draft adM_given adM_low adM_high adM_packet adM_known cB cI cL sM) H) (hD : va_D A (zwM adM adM_tape adM_frameAt adM_field adM_draft adM_given adM_low adM_high adM_packet adM_known cB cI cL sM)) (hS : va_S A s.heap H locs) (ls : Array Slot) (hl : lv_has ls 5 [(0, .ref adM), (1, .int v1)]) : W p l e R s m args below meth c H locs 0 0 (MQ below (q_M_suits dC dI cB cI cL A adM adM_tape adM_frameAt adM_field adM_draft adM_given adM_low adM_high adM_packet adM_known sM a) args s 0 0 A) (F0 m 256 ls []) := by
  obtain ⟨hx, hb, hr, hml, hown, hts, hlocks, hRf, hRl⟩ := id X
  unfold g_M_suits_256 at hG
  refine lv_iconst (v := (0 : Int32)) hx hb d_M_suits_256 (by decide) ?_
  exact k_M_suits_257 X hA zz N sM v1 (0 : Int32) _ hG adM adM_tape adM_frameAt adM_field adM_draft adM_given adM_low adM_high adM_packet adM_known _ _ hP hD hS _ (lv_sub hl [0, 1] rfl)
set_option maxRecDepth 100000 in
set_option maxHeartbeats 4000000 in
theorem k_M_suits_229 {p : Program} {l : Launch} {e : Env} {R : Room} {s : State} {m : MethodId} {args : Array Value} {below : List Frame} {meth : Method} {c : Code} {dC : Nat → ClassId} {dI : Nat → Nat → Nat} {cB cI cL : ClassId} {A : Nat → Prop} (X : zx p s m args meth c R R_M b_M_suits (some .boolean) 5 2 46) (hA : ∀ q, s.heap.size ≤ q → A q) (zz : zk dC dI cB cI cL A s)  (N : Nat) (sM : zM) (v1 : Int32) (v2 : Int32) (a : Int32) (hG : g_M_suits_229 N sM v1 v2 = some a) (adM adM_tape adM_frameAt adM_field adM_draft adM_given adM_low adM_high adM_packet adM_known : Nat) (H : Heap) (locs : List Loc) (hP : va_P (dC, dI) zcl (zwM adM adM_tape adM_frameAt adM_field adM_draft adM_given adM_low adM_high adM_packet adM_known cB cI cL sM) H) (hD : va_D A (zwM adM adM_tape adM_frameAt adM_field adM_draft adM_given adM_low adM_high adM_packet adM_known cB cI cL sM)) (hS : va_S A s.heap H locs) (ls : Array Slot) (hl : lv_has ls 5 [(0, .ref adM), (1, .int v1), (2, .int v2)]) : W p l e R s m args below meth c H locs 0 0 (MQ below (q_M_suits dC dI cB cI cL A adM adM_tape adM_frameAt adM_field adM_draft adM_given adM_low adM_high adM_packet adM_known sM a) args s 0 0 A) (F0 m 229 ls []) := by
  obtain ⟨hx, hb, hr, hml, hown, hts, hlocks, hRf, hRl⟩ := id X
  unfold g_M_suits_229 at hG
  refine lv_iload_n hx hb d_M_suits_229 rfl (lv_at hl 2 rfl) ?_
  refine lv_if_eq (tgt := 256) hx hb d_M_suits_230 (by decide) (fun hc => ?_) (fun hc => ?_)
  · have hG := zt hG hc
    exact k_M_suits_256 X hA zz N sM v1 _ hG adM adM_tape adM_frameAt adM_field adM_draft adM_given adM_low adM_high adM_packet adM_known _ _ hP hD hS _ (lv_sub hl [0, 1] rfl)
  · have hG := zf hG hc
    refine lv_aload_n hx hb d_M_suits_233 rfl (lv_at hl 0 rfl) ?_
    refine va_get (D := (dC, dI)) (ci := 8) (v := .ref adM_draft) (C := R_M) (T := F_M) (N := 26) hx hb hts zi_M hown zz.1 hP 0 rfl rfl 17 (by decide) (hts (.fieldLink R_M 26 "WireCodecModel" "draft" "[J") zin_M_26) (fun _ h9 => h9) rfl d_M_suits_234 ?_
    refine lv_iconst (v := (1 : Int32)) hx hb d_M_suits_237 (by decide) ?_
    obtain ⟨hin, hG⟩ := zgd hG
    refine va_lald hx hb zz.1 hP 4 2 rfl rfl hin d_M_suits_238 ?_
    refine lv_aload_n hx hb d_M_suits_239 rfl (lv_at hl 0 rfl) ?_
    refine va_get (D := (dC, dI)) (ci := 8) (v := .int (zM_gives sM)) (C := R_M) (T := F_M) (N := 26) hx hb hts zi_M hown zz.1 hP 0 rfl rfl 19 (by decide) (hts (.fieldLink R_M 211 "WireCodecModel" "gives" "I") zin_M_211) (fun _ h9 => h9) rfl d_M_suits_240 ?_
    refine lv_i2l hx hb d_M_suits_243 rfl ?_
    refine lv_ladd hx hb d_M_suits_244 ?_
    refine lv_ldc2 (v := (4611686018427387903 : Int64)) hx hb hown (hts (.constantLong R_M 51 (4611686018427387903 : Int64)) zin_M_51) d_M_suits_245 ?_
    refine W.lcmp hx hb d_M_suits_248 ?_
    refine lv_if_gt (tgt := 256) hx hb d_M_suits_249 (by decide) (fun hc => ?_) (fun hc => ?_)
    · have hG := zt hG hc
      exact k_M_suits_256 X hA zz N sM v1 _ hG adM adM_tape adM_frameAt adM_field adM_draft adM_given adM_low adM_high adM_packet adM_known _ _ hP hD hS _ (lv_sub hl [0, 1] rfl)
    · have hG := zf hG hc
      refine lv_iconst (v := (1 : Int32)) hx hb d_M_suits_252 (by decide) ?_
      refine lv_goto (tgt := 257) hx hb d_M_suits_253 (by decide) ?_
      exact k_M_suits_257 X hA zz N sM v1 (1 : Int32) _ hG adM adM_tape adM_frameAt adM_field adM_draft adM_given adM_low adM_high adM_packet adM_known _ _ hP hD hS _ (lv_sub hl [0, 1] rfl)
set_option maxRecDepth 100000 in
set_option maxHeartbeats 4000000 in
theorem k_M_suits_217 {p : Program} {l : Launch} {e : Env} {R : Room} {s : State} {m : MethodId} {args : Array Value} {below : List Frame} {meth : Method} {c : Code} {dC : Nat → ClassId} {dI : Nat → Nat → Nat} {cB cI cL : ClassId} {A : Nat → Prop} (X : zx p s m args meth c R R_M b_M_suits (some .boolean) 5 2 46) (hA : ∀ q, s.heap.size ≤ q → A q) (zz : zk dC dI cB cI cL A s)  (N : Nat) (sM : zM) (v1 : Int32) (v2 : Int32) (a : Int32) (hG : g_M_suits_217 N sM v1 v2 = some a) (adM adM_tape adM_frameAt adM_field adM_draft adM_given adM_low adM_high adM_packet adM_known : Nat) (H : Heap) (locs : List Loc) (hP : va_P (dC, dI) zcl (zwM adM adM_tape adM_frameAt adM_field adM_draft adM_given adM_low adM_high adM_packet adM_known cB cI cL sM) H) (hD : va_D A (zwM adM adM_tape adM_frameAt adM_field adM_draft adM_given adM_low adM_high adM_packet adM_known cB cI cL sM)) (hS : va_S A s.heap H locs) (ls : Array Slot) (hl : lv_has ls 5 [(0, .ref adM), (1, .int v1), (2, .int v2)]) : W p l e R s m args below meth c H locs 0 0 (MQ below (q_M_suits dC dI cB cI cL A adM adM_tape adM_frameAt adM_field adM_draft adM_given adM_low adM_high adM_packet adM_known sM a) args s 0 0 A) (F0 m 217 ls []) := by
  obtain ⟨hx, hb, hr, hml, hown, hts, hlocks, hRf, hRl⟩ := id X
  unfold g_M_suits_217 at hG
  refine lv_iload_n hx hb d_M_suits_217 rfl (lv_at hl 1 rfl) ?_
  refine lv_bipush (v := (8 : Int32)) hx hb d_M_suits_218 (by decide) ?_
  refine lv_icmp_eq (tgt := 229) hx hb d_M_suits_220 (by decide) (fun hc => ?_) (fun hc => ?_)
  · have hG := zt hG hc
    exact k_M_suits_229 X hA zz N sM v1 v2 _ hG adM adM_tape adM_frameAt adM_field adM_draft adM_given adM_low adM_high adM_packet adM_known _ _ hP hD hS _ (lv_sub hl [0, 1, 2] rfl)
  · have hG := zf hG hc
    refine lv_iload_n hx hb d_M_suits_223 rfl (lv_at hl 1 rfl) ?_
    refine lv_bipush (v := (6 : Int32)) hx hb d_M_suits_224 (by decide) ?_
    refine lv_icmp_ne (tgt := 258) hx hb d_M_suits_226 (by decide) (fun hc => ?_) (fun hc => ?_)
    · have hG := zf hG hc
      exact k_M_suits_258 X hA zz N sM v1 v2 _ hG adM adM_tape adM_frameAt adM_field adM_draft adM_given adM_low adM_high adM_packet adM_known _ _ hP hD hS _ (lv_sub hl [0, 1, 2] rfl)
    · have hG := zt hG hc
      exact k_M_suits_229 X hA zz N sM v1 v2 _ hG adM adM_tape adM_frameAt adM_field adM_draft adM_given adM_low adM_high adM_packet adM_known _ _ hP hD hS _ (lv_sub hl [0, 1, 2] rfl)
set_option maxRecDepth 100000 in
set_option maxHeartbeats 4000000 in
theorem k_M_suits_216 {p : Program} {l : Launch} {e : Env} {R : Room} {s : State} {m : MethodId} {args : Array Value} {below : List Frame} {meth : Method} {c : Code} {dC : Nat → ClassId} {dI : Nat → Nat → Nat} {cB cI cL : ClassId} {A : Nat → Prop} (X : zx p s m args meth c R R_M b_M_suits (some .boolean) 5 2 46) (hA : ∀ q, s.heap.size ≤ q → A q) (zz : zk dC dI cB cI cL A s)  (N : Nat) (sM : zM) (v1 : Int32) (s0 : Int32) (a : Int32) (hG : g_M_suits_216 N sM v1 s0 = some a) (adM adM_tape adM_frameAt adM_field adM_draft adM_given adM_low adM_high adM_packet adM_known : Nat) (H : Heap) (locs : List Loc) (hP : va_P (dC, dI) zcl (zwM adM adM_tape adM_frameAt adM_field adM_draft adM_given adM_low adM_high adM_packet adM_known cB cI cL sM) H) (hD : va_D A (zwM adM adM_tape adM_frameAt adM_field adM_draft adM_given adM_low adM_high adM_packet adM_known cB cI cL sM)) (hS : va_S A s.heap H locs) (ls : Array Slot) (hl : lv_has ls 5 [(0, .ref adM), (1, .int v1)]) : W p l e R s m args below meth c H locs 0 0 (MQ below (q_M_suits dC dI cB cI cL A adM adM_tape adM_frameAt adM_field adM_draft adM_given adM_low adM_high adM_packet adM_known sM a) args s 0 0 A) (F0 m 216 ls [.int s0]) := by
  obtain ⟨hx, hb, hr, hml, hown, hts, hlocks, hRf, hRl⟩ := id X
  unfold g_M_suits_216 at hG
  refine lv_istore_n (lv' := [(2, .int s0), (0, .ref adM), (1, .int v1)]) hx hb d_M_suits_216 rfl hl (by decide) rfl (fun ls hl => ?_)
  exact k_M_suits_217 X hA zz N sM v1 s0 _ hG adM adM_tape adM_frameAt adM_field adM_draft adM_given adM_low adM_high adM_packet adM_known _ _ hP hD hS _ (lv_sub hl [1, 2, 0] rfl)
set_option maxRecDepth 100000 in
set_option maxHeartbeats 4000000 in
theorem k_M_suits_215 {p : Program} {l : Launch} {e : Env} {R : Room} {s : State} {m : MethodId} {args : Array Value} {below : List Frame} {meth : Method} {c : Code} {dC : Nat → ClassId} {dI : Nat → Nat → Nat} {cB cI cL : ClassId} {A : Nat → Prop} (X : zx p s m args meth c R R_M b_M_suits (some .boolean) 5 2 46) (hA : ∀ q, s.heap.size ≤ q → A q) (zz : zk dC dI cB cI cL A s)  (N : Nat) (sM : zM) (v1 : Int32) (a : Int32) (hG : g_M_suits_215 N sM v1 = some a) (adM adM_tape adM_frameAt adM_field adM_draft adM_given adM_low adM_high adM_packet adM_known : Nat) (H : Heap) (locs : List Loc) (hP : va_P (dC, dI) zcl (zwM adM adM_tape adM_frameAt adM_field adM_draft adM_given adM_low adM_high adM_packet adM_known cB cI cL sM) H) (hD : va_D A (zwM adM adM_tape adM_frameAt adM_field adM_draft adM_given adM_low adM_high adM_packet adM_known cB cI cL sM)) (hS : va_S A s.heap H locs) (ls : Array Slot) (hl : lv_has ls 5 [(0, .ref adM), (1, .int v1)]) : W p l e R s m args below meth c H locs 0 0 (MQ below (q_M_suits dC dI cB cI cL A adM adM_tape adM_frameAt adM_field adM_draft adM_given adM_low adM_high adM_packet adM_known sM a) args s 0 0 A) (F0 m 215 ls []) := by
  obtain ⟨hx, hb, hr, hml, hown, hts, hlocks, hRf, hRl⟩ := id X
  unfold g_M_suits_215 at hG
  refine lv_iconst (v := (0 : Int32)) hx hb d_M_suits_215 (by decide) ?_
  exact k_M_suits_216 X hA zz N sM v1 (0 : Int32) _ hG adM adM_tape adM_frameAt adM_field adM_draft adM_given adM_low adM_high adM_packet adM_known _ _ hP hD hS _ (lv_sub hl [0, 1] rfl)
set_option maxRecDepth 100000 in
set_option maxHeartbeats 4000000 in
theorem k_M_suits_164 {p : Program} {l : Launch} {e : Env} {R : Room} {s : State} {m : MethodId} {args : Array Value} {below : List Frame} {meth : Method} {c : Code} {dC : Nat → ClassId} {dI : Nat → Nat → Nat} {cB cI cL : ClassId} {A : Nat → Prop} (kr : zM → Int32 → Int32 → Int32 → Option (Int32)) (hrec : ∀ (sM : zM) (v1 : Int32) (v2 : Int32) (v3 : Int32) (a : Int32), kr sM v1 v2 v3 = some a → ∀ (adM adM_tape adM_frameAt adM_field adM_draft adM_given adM_low adM_high adM_packet adM_known : Nat) (H : Heap) (locs : List Loc), va_P (dC, dI) zcl (zwM adM adM_tape adM_frameAt adM_field adM_draft adM_given adM_low adM_high adM_packet adM_known cB cI cL sM) H → va_D A (zwM adM adM_tape adM_frameAt adM_field adM_draft adM_given adM_low adM_high adM_packet adM_known cB cI cL sM) → va_S A s.heap H locs → ∀ ls : Array Slot, lv_has ls 5 [(0, .ref adM), (1, .int v1), (2, .int v2), (3, .int v3)] → W p l e R s m args below meth c H locs 0 0 (MQ below (q_M_suits dC dI cB cI cL A adM adM_tape adM_frameAt adM_field adM_draft adM_given adM_low adM_high adM_packet adM_known sM a) args s 0 0 A) (F0 m 124 ls [])) (X : zx p s m args meth c R R_M b_M_suits (some .boolean) 5 2 46) (hA : ∀ q, s.heap.size ≤ q → A q) (zz : zk dC dI cB cI cL A s)  (N : Nat) (sM : zM) (v1 : Int32) (v3 : Int32) (s0 : Int32) (a : Int32) (hG : g_M_suits_164 N kr sM v1 v3 s0 = some a) (adM adM_tape adM_frameAt adM_field adM_draft adM_given adM_low adM_high adM_packet adM_known : Nat) (H : Heap) (locs : List Loc) (hP : va_P (dC, dI) zcl (zwM adM adM_tape adM_frameAt adM_field adM_draft adM_given adM_low adM_high adM_packet adM_known cB cI cL sM) H) (hD : va_D A (zwM adM adM_tape adM_frameAt adM_field adM_draft adM_given adM_low adM_high adM_packet adM_known cB cI cL sM)) (hS : va_S A s.heap H locs) (ls : Array Slot) (hl : lv_has ls 5 [(0, .ref adM), (1, .int v1), (3, .int v3)]) : W p l e R s m args below meth c H locs 0 0 (MQ below (q_M_suits dC dI cB cI cL A adM adM_tape adM_frameAt adM_field adM_draft adM_given adM_low adM_high adM_packet adM_known sM a) args s 0 0 A) (F0 m 164 ls [.int s0]) := by
  obtain ⟨hx, hb, hr, hml, hown, hts, hlocks, hRf, hRl⟩ := id X
  unfold g_M_suits_164 at hG
  refine lv_istore_n (lv' := [(2, .int s0), (0, .ref adM), (1, .int v1), (3, .int v3)]) hx hb d_M_suits_164 rfl hl (by decide) rfl (fun ls hl => ?_)
  refine lv_iload_n hx hb d_M_suits_165 rfl (lv_at hl 3 rfl) ?_
  refine lv_bipush (v := (10 : Int32)) hx hb d_M_suits_166 (by decide) ?_
  refine lv_idiv hx hb d_M_suits_168 (by decide) ?_
  refine lv_istore_n (lv' := [(3, .int (v3 / (10 : Int32))), (2, .int s0), (0, .ref adM), (1, .int v1)]) hx hb d_M_suits_169 rfl hl (by decide) rfl (fun ls hl => ?_)
  refine lv_goto (tgt := 124) hx hb d_M_suits_170 (by decide) ?_
  exact hrec sM v1 s0 (v3 / (10 : Int32)) _ hG adM adM_tape adM_frameAt adM_field adM_draft adM_given adM_low adM_high adM_packet adM_known _ _ hP hD hS _ (lv_sub hl [2, 3, 1, 0] rfl)
set_option maxRecDepth 100000 in
set_option maxHeartbeats 4000000 in
theorem k_M_suits_163 {p : Program} {l : Launch} {e : Env} {R : Room} {s : State} {m : MethodId} {args : Array Value} {below : List Frame} {meth : Method} {c : Code} {dC : Nat → ClassId} {dI : Nat → Nat → Nat} {cB cI cL : ClassId} {A : Nat → Prop} (kr : zM → Int32 → Int32 → Int32 → Option (Int32)) (hrec : ∀ (sM : zM) (v1 : Int32) (v2 : Int32) (v3 : Int32) (a : Int32), kr sM v1 v2 v3 = some a → ∀ (adM adM_tape adM_frameAt adM_field adM_draft adM_given adM_low adM_high adM_packet adM_known : Nat) (H : Heap) (locs : List Loc), va_P (dC, dI) zcl (zwM adM adM_tape adM_frameAt adM_field adM_draft adM_given adM_low adM_high adM_packet adM_known cB cI cL sM) H → va_D A (zwM adM adM_tape adM_frameAt adM_field adM_draft adM_given adM_low adM_high adM_packet adM_known cB cI cL sM) → va_S A s.heap H locs → ∀ ls : Array Slot, lv_has ls 5 [(0, .ref adM), (1, .int v1), (2, .int v2), (3, .int v3)] → W p l e R s m args below meth c H locs 0 0 (MQ below (q_M_suits dC dI cB cI cL A adM adM_tape adM_frameAt adM_field adM_draft adM_given adM_low adM_high adM_packet adM_known sM a) args s 0 0 A) (F0 m 124 ls [])) (X : zx p s m args meth c R R_M b_M_suits (some .boolean) 5 2 46) (hA : ∀ q, s.heap.size ≤ q → A q) (zz : zk dC dI cB cI cL A s)  (N : Nat) (sM : zM) (v1 : Int32) (v3 : Int32) (a : Int32) (hG : g_M_suits_163 N kr sM v1 v3 = some a) (adM adM_tape adM_frameAt adM_field adM_draft adM_given adM_low adM_high adM_packet adM_known : Nat) (H : Heap) (locs : List Loc) (hP : va_P (dC, dI) zcl (zwM adM adM_tape adM_frameAt adM_field adM_draft adM_given adM_low adM_high adM_packet adM_known cB cI cL sM) H) (hD : va_D A (zwM adM adM_tape adM_frameAt adM_field adM_draft adM_given adM_low adM_high adM_packet adM_known cB cI cL sM)) (hS : va_S A s.heap H locs) (ls : Array Slot) (hl : lv_has ls 5 [(0, .ref adM), (1, .int v1), (3, .int v3)]) : W p l e R s m args below meth c H locs 0 0 (MQ below (q_M_suits dC dI cB cI cL A adM adM_tape adM_frameAt adM_field adM_draft adM_given adM_low adM_high adM_packet adM_known sM a) args s 0 0 A) (F0 m 163 ls []) := by
  obtain ⟨hx, hb, hr, hml, hown, hts, hlocks, hRf, hRl⟩ := id X
  unfold g_M_suits_163 at hG
  refine lv_iconst (v := (0 : Int32)) hx hb d_M_suits_163 (by decide) ?_
  exact k_M_suits_164 kr hrec X hA zz N sM v1 v3 (0 : Int32) _ hG adM adM_tape adM_frameAt adM_field adM_draft adM_given adM_low adM_high adM_packet adM_known _ _ hP hD hS _ (lv_sub hl [0, 1, 2] rfl)
set_option maxRecDepth 100000 in
set_option maxHeartbeats 4000000 in
theorem k_M_suits_159 {p : Program} {l : Launch} {e : Env} {R : Room} {s : State} {m : MethodId} {args : Array Value} {below : List Frame} {meth : Method} {c : Code} {dC : Nat → ClassId} {dI : Nat → Nat → Nat} {cB cI cL : ClassId} {A : Nat → Prop} (kr : zM → Int32 → Int32 → Int32 → Option (Int32)) (hrec : ∀ (sM : zM) (v1 : Int32) (v2 : Int32) (v3 : Int32) (a : Int32), kr sM v1 v2 v3 = some a → ∀ (adM adM_tape adM_frameAt adM_field adM_draft adM_given adM_low adM_high adM_packet adM_known : Nat) (H : Heap) (locs : List Loc), va_P (dC, dI) zcl (zwM adM adM_tape adM_frameAt adM_field adM_draft adM_given adM_low adM_high adM_packet adM_known cB cI cL sM) H → va_D A (zwM adM adM_tape adM_frameAt adM_field adM_draft adM_given adM_low adM_high adM_packet adM_known cB cI cL sM) → va_S A s.heap H locs → ∀ ls : Array Slot, lv_has ls 5 [(0, .ref adM), (1, .int v1), (2, .int v2), (3, .int v3)] → W p l e R s m args below meth c H locs 0 0 (MQ below (q_M_suits dC dI cB cI cL A adM adM_tape adM_frameAt adM_field adM_draft adM_given adM_low adM_high adM_packet adM_known sM a) args s 0 0 A) (F0 m 124 ls [])) (X : zx p s m args meth c R R_M b_M_suits (some .boolean) 5 2 46) (hA : ∀ q, s.heap.size ≤ q → A q) (zz : zk dC dI cB cI cL A s)  (N : Nat) (sM : zM) (v1 : Int32) (v3 : Int32) (a : Int32) (hG : g_M_suits_159 N kr sM v1 v3 = some a) (adM adM_tape adM_frameAt adM_field adM_draft adM_given adM_low adM_high adM_packet adM_known : Nat) (H : Heap) (locs : List Loc) (hP : va_P (dC, dI) zcl (zwM adM adM_tape adM_frameAt adM_field adM_draft adM_given adM_low adM_high adM_packet adM_known cB cI cL sM) H) (hD : va_D A (zwM adM adM_tape adM_frameAt adM_field adM_draft adM_given adM_low adM_high adM_packet adM_known cB cI cL sM)) (hS : va_S A s.heap H locs) (ls : Array Slot) (hl : lv_has ls 5 [(0, .ref adM), (1, .int v1), (3, .int v3)]) : W p l e R s m args below meth c H locs 0 0 (MQ below (q_M_suits dC dI cB cI cL A adM adM_tape adM_frameAt adM_field adM_draft adM_given adM_low adM_high adM_packet adM_known sM a) args s 0 0 A) (F0 m 159 ls []) := by
  obtain ⟨hx, hb, hr, hml, hown, hts, hlocks, hRf, hRl⟩ := id X
  unfold g_M_suits_159 at hG
  refine lv_iconst (v := (1 : Int32)) hx hb d_M_suits_159 (by decide) ?_
  refine lv_goto (tgt := 164) hx hb d_M_suits_160 (by decide) ?_
  exact k_M_suits_164 kr hrec X hA zz N sM v1 v3 (1 : Int32) _ hG adM adM_tape adM_frameAt adM_field adM_draft adM_given adM_low adM_high adM_packet adM_known _ _ hP hD hS _ (lv_sub hl [0, 1, 2] rfl)
set_option maxRecDepth 100000 in
set_option maxHeartbeats 4000000 in
theorem k_M_suits_124_b {p : Program} {l : Launch} {e : Env} {R : Room} {s : State} {m : MethodId} {args : Array Value} {below : List Frame} {meth : Method} {c : Code} {dC : Nat → ClassId} {dI : Nat → Nat → Nat} {cB cI cL : ClassId} {A : Nat → Prop} (kr : zM → Int32 → Int32 → Int32 → Option (Int32)) (hrec : ∀ (sM : zM) (v1 : Int32) (v2 : Int32) (v3 : Int32) (a : Int32), kr sM v1 v2 v3 = some a → ∀ (adM adM_tape adM_frameAt adM_field adM_draft adM_given adM_low adM_high adM_packet adM_known : Nat) (H : Heap) (locs : List Loc), va_P (dC, dI) zcl (zwM adM adM_tape adM_frameAt adM_field adM_draft adM_given adM_low adM_high adM_packet adM_known cB cI cL sM) H → va_D A (zwM adM adM_tape adM_frameAt adM_field adM_draft adM_given adM_low adM_high adM_packet adM_known cB cI cL sM) → va_S A s.heap H locs → ∀ ls : Array Slot, lv_has ls 5 [(0, .ref adM), (1, .int v1), (2, .int v2), (3, .int v3)] → W p l e R s m args below meth c H locs 0 0 (MQ below (q_M_suits dC dI cB cI cL A adM adM_tape adM_frameAt adM_field adM_draft adM_given adM_low adM_high adM_packet adM_known sM a) args s 0 0 A) (F0 m 124 ls [])) (X : zx p s m args meth c R R_M b_M_suits (some .boolean) 5 2 46) (hA : ∀ q, s.heap.size ≤ q → A q) (zz : zk dC dI cB cI cL A s)  (N : Nat) (sM : zM) (v1 : Int32) (v2 : Int32) (v3 : Int32) (a : Int32) (hG : g_M_suits_124_b N kr sM v1 v2 v3 = some a) (adM adM_tape adM_frameAt adM_field adM_draft adM_given adM_low adM_high adM_packet adM_known : Nat) (H : Heap) (locs : List Loc) (hP : va_P (dC, dI) zcl (zwM adM adM_tape adM_frameAt adM_field adM_draft adM_given adM_low adM_high adM_packet adM_known cB cI cL sM) H) (hD : va_D A (zwM adM adM_tape adM_frameAt adM_field adM_draft adM_given adM_low adM_high adM_packet adM_known cB cI cL sM)) (hS : va_S A s.heap H locs) (ls : Array Slot) (hl : lv_has ls 5 [(0, .ref adM), (1, .int v1), (2, .int v2), (3, .int v3)]) : W p l e R s m args below meth c H locs 0 0 (MQ below (q_M_suits dC dI cB cI cL A adM adM_tape adM_frameAt adM_field adM_draft adM_given adM_low adM_high adM_packet adM_known sM a) args s 0 0 A) (F0 m 124 ls []) := by
  obtain ⟨hx, hb, hr, hml, hown, hts, hlocks, hRf, hRl⟩ := id X
  unfold g_M_suits_124_b at hG
  refine lv_iload_n hx hb d_M_suits_124 rfl (lv_at hl 3 rfl) ?_
  refine lv_if_le (tgt := 173) hx hb d_M_suits_125 (by decide) (fun hc => ?_) (fun hc => ?_)
  · have hG := zt hG hc
    refine lv_iload_n hx hb d_M_suits_173 rfl (lv_at hl 1 rfl) ?_
    refine lv_bipush (v := (8 : Int32)) hx hb d_M_suits_174 (by decide) ?_
    refine lv_icmp_ne (tgt := 217) hx hb d_M_suits_176 (by decide) (fun hc => ?_) (fun hc => ?_)
    · have hG := zf hG hc
      exact k_M_suits_217 X hA zz N sM v1 v2 _ hG adM adM_tape adM_frameAt adM_field adM_draft adM_given adM_low adM_high adM_packet adM_known _ _ hP hD hS _ (lv_sub hl [0, 1, 2] rfl)
    · have hG := zt hG hc
      refine lv_iload_n hx hb d_M_suits_179 rfl (lv_at hl 2 rfl) ?_
      refine lv_if_eq (tgt := 215) hx hb d_M_suits_180 (by decide) (fun hc => ?_) (fun hc => ?_)
      · have hG := zt hG hc
        exact k_M_suits_215 X hA zz N sM v1 _ hG adM adM_tape adM_frameAt adM_field adM_draft adM_given adM_low adM_high adM_packet adM_known _ _ hP hD hS _ (lv_sub hl [0, 1] rfl)
      · have hG := zf hG hc
        refine lv_aload_n hx hb d_M_suits_183 rfl (lv_at hl 0 rfl) ?_
        refine va_get (D := (dC, dI)) (ci := 8) (v := .ref adM_draft) (C := R_M) (T := F_M) (N := 26) hx hb hts zi_M hown zz.1 hP 0 rfl rfl 17 (by decide) (hts (.fieldLink R_M 26 "WireCodecModel" "draft" "[J") zin_M_26) (fun _ h9 => h9) rfl d_M_suits_184 ?_
        refine lv_iconst (v := (2 : Int32)) hx hb d_M_suits_187 (by decide) ?_
        obtain ⟨hin, hG⟩ := zgd hG
        refine va_lald hx hb zz.1 hP 4 2 rfl rfl hin d_M_suits_188 ?_
        refine lv_lconst (v := (0 : Int64)) hx hb d_M_suits_189 (by decide) ?_
        refine lv_lconst (v := (1 : Int64)) hx hb d_M_suits_190 (by decide) ?_
        obtain ⟨a_191, hx_191, hG⟩ := zb hG
        have hr_191 := zrunS (p := p) (e := e) (below := below) (meth := meth) (As := [.long ((zM_draft sM) (2 : Int32).toNatClampNeg), .long (0 : Int64), .long (1 : Int64)]) (rest := []) (st0 := [.long (1 : Int64), .long (0 : Int64), .long ((zM_draft sM) (2 : Int32).toNatClampNeg)]) (cells := 0) (slots := 0) X zz hP hD hS hA [] (by decide) rfl (c_M_within l dC dI cB cI cL H.size ((zM_draft sM) (2 : Int32).toNatClampNeg) (0 : Int64) (1 : Int64) _ hx_191) zy_M_within zv_M_within (hts (.methodLink R_M 53 y_M_within) zin_M_53) hl rfl rfl d_M_suits_191 (lv_room (Nat.le_of_ble_eq_true rfl)) rfl rfl ⟨Nat.le_trans (Nat.le_of_ble_eq_true rfl) hRf, Nat.le_trans (Nat.le_of_ble_eq_true rfl) hRl⟩ ⟨Nat.zero_le _, Nat.zero_le _⟩
        refine zcalli (wr := (zwM adM adM_tape adM_frameAt adM_field adM_draft adM_given adM_low adM_high adM_packet adM_known cB cI cL sM)) hr_191 hP hD hS hA [] [0, 1, 2, 3, 4, 5, 6, 7, 8, 9] rfl rfl (by decide) (by decide) (fun r_191 u_191 H locs hw_191 hP hD hS => ?_)
        subst hw_191
        have hP : va_P (dC, dI) zcl (zwM adM adM_tape adM_frameAt adM_field adM_draft adM_given adM_low adM_high adM_packet adM_known cB cI cL sM) H := hP
        have hD : va_D A (zwM adM adM_tape adM_frameAt adM_field adM_draft adM_given adM_low adM_high adM_packet adM_known cB cI cL sM) := hD
        have hG : g_M_suits_c191 N sM v1 r_191 = some a := hG
        unfold g_M_suits_c191 at hG
        refine lv_if_eq (tgt := 215) hx hb d_M_suits_194 (by decide) (fun hc => ?_) (fun hc => ?_)
        · have hG := zt hG hc
          exact k_M_suits_215 X hA zz N sM v1 _ hG adM adM_tape adM_frameAt adM_field adM_draft adM_given adM_low adM_high adM_packet adM_known _ _ hP hD hS _ (lv_sub hl [0, 1] rfl)
        · have hG := zf hG hc
          refine lv_aload_n hx hb d_M_suits_197 rfl (lv_at hl 0 rfl) ?_
          refine va_get (D := (dC, dI)) (ci := 8) (v := .ref adM_draft) (C := R_M) (T := F_M) (N := 26) hx hb hts zi_M hown zz.1 hP 0 rfl rfl 17 (by decide) (hts (.fieldLink R_M 26 "WireCodecModel" "draft" "[J") zin_M_26) (fun _ h9 => h9) rfl d_M_suits_198 ?_
          refine lv_iconst (v := (3 : Int32)) hx hb d_M_suits_201 (by decide) ?_
          obtain ⟨hin, hG⟩ := zgd hG
          refine va_lald hx hb zz.1 hP 4 2 rfl rfl hin d_M_suits_202 ?_
          refine lv_lconst (v := (0 : Int64)) hx hb d_M_suits_203 (by decide) ?_
          refine lv_lconst (v := (1 : Int64)) hx hb d_M_suits_204 (by decide) ?_
          obtain ⟨a_205, hx_205, hG⟩ := zb hG
          have hr_205 := zrunS (p := p) (e := e) (below := below) (meth := meth) (As := [.long ((zM_draft sM) (3 : Int32).toNatClampNeg), .long (0 : Int64), .long (1 : Int64)]) (rest := []) (st0 := [.long (1 : Int64), .long (0 : Int64), .long ((zM_draft sM) (3 : Int32).toNatClampNeg)]) (cells := 0) (slots := 0) X zz hP hD hS hA [] (by decide) rfl (c_M_within l dC dI cB cI cL H.size ((zM_draft sM) (3 : Int32).toNatClampNeg) (0 : Int64) (1 : Int64) _ hx_205) zy_M_within zv_M_within (hts (.methodLink R_M 53 y_M_within) zin_M_53) hl rfl rfl d_M_suits_205 (lv_room (Nat.le_of_ble_eq_true rfl)) rfl rfl ⟨Nat.le_trans (Nat.le_of_ble_eq_true rfl) hRf, Nat.le_trans (Nat.le_of_ble_eq_true rfl) hRl⟩ ⟨Nat.zero_le _, Nat.zero_le _⟩
          refine zcalli (wr := (zwM adM adM_tape adM_frameAt adM_field adM_draft adM_given adM_low adM_high adM_packet adM_known cB cI cL sM)) hr_205 hP hD hS hA [] [0, 1, 2, 3, 4, 5, 6, 7, 8, 9] rfl rfl (by decide) (by decide) (fun r_205 u_205 H locs hw_205 hP hD hS => ?_)
          subst hw_205
          have hP : va_P (dC, dI) zcl (zwM adM adM_tape adM_frameAt adM_field adM_draft adM_given adM_low adM_high adM_packet adM_known cB cI cL sM) H := hP
          have hD : va_D A (zwM adM adM_tape adM_frameAt adM_field adM_draft adM_given adM_low adM_high adM_packet adM_known cB cI cL sM) := hD
          have hG : g_M_suits_c205 N sM v1 r_205 = some a := hG
          unfold g_M_suits_c205 at hG
          refine lv_if_eq (tgt := 215) hx hb d_M_suits_208 (by decide) (fun hc => ?_) (fun hc => ?_)
          · have hG := zt hG hc
            exact k_M_suits_215 X hA zz N sM v1 _ hG adM adM_tape adM_frameAt adM_field adM_draft adM_given adM_low adM_high adM_packet adM_known _ _ hP hD hS _ (lv_sub hl [0, 1] rfl)
          · have hG := zf hG hc
            refine lv_iconst (v := (1 : Int32)) hx hb d_M_suits_211 (by decide) ?_
            refine lv_goto (tgt := 216) hx hb d_M_suits_212 (by decide) ?_
            exact k_M_suits_216 X hA zz N sM v1 (1 : Int32) _ hG adM adM_tape adM_frameAt adM_field adM_draft adM_given adM_low adM_high adM_packet adM_known _ _ hP hD hS _ (lv_sub hl [0, 1] rfl)
  · have hG := zf hG hc
    refine lv_iload_n hx hb d_M_suits_128 rfl (lv_at hl 3 rfl) ?_
    refine lv_bipush (v := (10 : Int32)) hx hb d_M_suits_129 (by decide) ?_
    refine lv_irem hx hb d_M_suits_131 (by decide) ?_
    refine lv_istore (lv' := [(4, .int (v3 - v3 / (10 : Int32) * (10 : Int32))), (0, .ref adM), (1, .int v1), (2, .int v2), (3, .int v3)]) hx hb d_M_suits_132 hl (by decide) rfl (fun ls hl => ?_)
    refine lv_iload_n hx hb d_M_suits_134 rfl (lv_at hl 3 rfl) ?_
    refine lv_if_eq (tgt := 163) hx hb d_M_suits_135 (by decide) (fun hc => ?_) (fun hc => ?_)
    · have hG := zt hG hc
      exact k_M_suits_163 kr hrec X hA zz N sM v1 v3 _ hG adM adM_tape adM_frameAt adM_field adM_draft adM_given adM_low adM_high adM_packet adM_known _ _ hP hD hS _ (lv_sub hl [1, 2, 4] rfl)
    · have hG := zf hG hc
      refine lv_iload hx hb d_M_suits_138 (lv_at hl 0 rfl) ?_
      refine lv_iconst (v := (3 : Int32)) hx hb d_M_suits_140 (by decide) ?_
      refine lv_icmp_gt (tgt := 159) hx hb d_M_suits_141 (by decide) (fun hc => ?_) (fun hc => ?_)
      · have hG := zt hG hc
        exact k_M_suits_159 kr hrec X hA zz N sM v1 v3 _ hG adM adM_tape adM_frameAt adM_field adM_draft adM_given adM_low adM_high adM_packet adM_known _ _ hP hD hS _ (lv_sub hl [1, 2, 4] rfl)
      · have hG := zf hG hc
        refine lv_aload_n hx hb d_M_suits_144 rfl (lv_at hl 1 rfl) ?_
        refine va_get (D := (dC, dI)) (ci := 8) (v := .ref adM_draft) (C := R_M) (T := F_M) (N := 26) hx hb hts zi_M hown zz.1 hP 0 rfl rfl 17 (by decide) (hts (.fieldLink R_M 26 "WireCodecModel" "draft" "[J") zin_M_26) (fun _ h9 => h9) rfl d_M_suits_145 ?_
        refine lv_iload hx hb d_M_suits_148 (lv_at hl 0 rfl) ?_
        refine lv_iconst (v := (1 : Int32)) hx hb d_M_suits_150 (by decide) ?_
        refine lv_isub hx hb d_M_suits_151 ?_
        obtain ⟨hin, hG⟩ := zgd hG
        refine va_lald hx hb zz.1 hP 4 2 rfl rfl hin d_M_suits_152 ?_
        obtain ⟨a_153, hx_153, hG⟩ := zb hG
        have hr_153 := zrunS (p := p) (e := e) (below := below) (meth := meth) (As := [.long ((zM_draft sM) ((v3 - v3 / (10 : Int32) * (10 : Int32)) - (1 : Int32)).toNatClampNeg)]) (rest := []) (st0 := [.long ((zM_draft sM) ((v3 - v3 / (10 : Int32) * (10 : Int32)) - (1 : Int32)).toNatClampNeg)]) (cells := 0) (slots := 0) X zz hP hD hS hA [] (by decide) rfl (c_M_isNumber l dC dI cB cI cL H.size ((zM_draft sM) ((v3 - v3 / (10 : Int32) * (10 : Int32)) - (1 : Int32)).toNatClampNeg) _ hx_153) zy_M_isNumber zv_M_isNumber (hts (.methodLink R_M 80 y_M_isNumber) zin_M_80) hl rfl rfl d_M_suits_153 (lv_room (Nat.le_of_ble_eq_true rfl)) rfl rfl ⟨Nat.le_trans (Nat.le_of_ble_eq_true rfl) hRf, Nat.le_trans (Nat.le_of_ble_eq_true rfl) hRl⟩ ⟨Nat.zero_le _, Nat.zero_le _⟩
        refine zcalli (wr := (zwM adM adM_tape adM_frameAt adM_field adM_draft adM_given adM_low adM_high adM_packet adM_known cB cI cL sM)) hr_153 hP hD hS hA [] [0, 1, 2, 3, 4, 5, 6, 7, 8, 9] rfl rfl (by decide) (by decide) (fun r_153 u_153 H locs hw_153 hP hD hS => ?_)
        subst hw_153
        have hP : va_P (dC, dI) zcl (zwM adM adM_tape adM_frameAt adM_field adM_draft adM_given adM_low adM_high adM_packet adM_known cB cI cL sM) H := hP
        have hD : va_D A (zwM adM adM_tape adM_frameAt adM_field adM_draft adM_given adM_low adM_high adM_packet adM_known cB cI cL sM) := hD
        have hG : g_M_suits_c153 N kr sM v1 v3 r_153 = some a := hG
        unfold g_M_suits_c153 at hG
        refine lv_if_eq (tgt := 163) hx hb d_M_suits_156 (by decide) (fun hc => ?_) (fun hc => ?_)
        · have hG := zt hG hc
          exact k_M_suits_163 kr hrec X hA zz N sM v1 v3 _ hG adM adM_tape adM_frameAt adM_field adM_draft adM_given adM_low adM_high adM_packet adM_known _ _ hP hD hS _ (lv_sub hl [1, 2, 4] rfl)
        · have hG := zf hG hc
          exact k_M_suits_159 kr hrec X hA zz N sM v1 v3 _ hG adM adM_tape adM_frameAt adM_field adM_draft adM_given adM_low adM_high adM_packet adM_known _ _ hP hD hS _ (lv_sub hl [1, 2, 4] rfl)
theorem k_M_suits_124 {p : Program} {l : Launch} {e : Env} {R : Room} {s : State} {m : MethodId} {args : Array Value} {below : List Frame} {meth : Method} {c : Code} {dC : Nat → ClassId} {dI : Nat → Nat → Nat} {cB cI cL : ClassId} {A : Nat → Prop} (X : zx p s m args meth c R R_M b_M_suits (some .boolean) 5 2 46) (hA : ∀ q, s.heap.size ≤ q → A q) (zz : zk dC dI cB cI cL A s)  (N : Nat) : ∀ (k : Nat) (sM : zM) (v1 : Int32) (v2 : Int32) (v3 : Int32) (a : Int32) (hG : g_M_suits_124 N k sM v1 v2 v3 = some a) (adM adM_tape adM_frameAt adM_field adM_draft adM_given adM_low adM_high adM_packet adM_known : Nat) (H : Heap) (locs : List Loc) (hP : va_P (dC, dI) zcl (zwM adM adM_tape adM_frameAt adM_field adM_draft adM_given adM_low adM_high adM_packet adM_known cB cI cL sM) H) (hD : va_D A (zwM adM adM_tape adM_frameAt adM_field adM_draft adM_given adM_low adM_high adM_packet adM_known cB cI cL sM)) (hS : va_S A s.heap H locs) (ls : Array Slot) (hl : lv_has ls 5 [(0, .ref adM), (1, .int v1), (2, .int v2), (3, .int v3)]), W p l e R s m args below meth c H locs 0 0 (MQ below (q_M_suits dC dI cB cI cL A adM adM_tape adM_frameAt adM_field adM_draft adM_given adM_low adM_high adM_packet adM_known sM a) args s 0 0 A) (F0 m 124 ls []) := by
  intro k
  induction k with
  | zero => intro sM v1 v2 v3 a hG; exact absurd hG (by unfold g_M_suits_124; simp)
  | succ k ih => intro sM v1 v2 v3 a hG adM adM_tape adM_frameAt adM_field adM_draft adM_given adM_low adM_high adM_packet adM_known H locs hP hD hS ls hl; exact k_M_suits_124_b _ ih X hA zz N sM v1 v2 v3 a hG adM adM_tape adM_frameAt adM_field adM_draft adM_given adM_low adM_high adM_packet adM_known H locs hP hD hS ls hl
set_option maxRecDepth 100000 in
set_option maxHeartbeats 4000000 in
theorem k_M_suits_123 {p : Program} {l : Launch} {e : Env} {R : Room} {s : State} {m : MethodId} {args : Array Value} {below : List Frame} {meth : Method} {c : Code} {dC : Nat → ClassId} {dI : Nat → Nat → Nat} {cB cI cL : ClassId} {A : Nat → Prop} (X : zx p s m args meth c R R_M b_M_suits (some .boolean) 5 2 46) (hA : ∀ q, s.heap.size ≤ q → A q) (zz : zk dC dI cB cI cL A s)  (N : Nat) (sM : zM) (v1 : Int32) (v2 : Int32) (s0 : Int32) (a : Int32) (hG : g_M_suits_123 N sM v1 v2 s0 = some a) (adM adM_tape adM_frameAt adM_field adM_draft adM_given adM_low adM_high adM_packet adM_known : Nat) (H : Heap) (locs : List Loc) (hP : va_P (dC, dI) zcl (zwM adM adM_tape adM_frameAt adM_field adM_draft adM_given adM_low adM_high adM_packet adM_known cB cI cL sM) H) (hD : va_D A (zwM adM adM_tape adM_frameAt adM_field adM_draft adM_given adM_low adM_high adM_packet adM_known cB cI cL sM)) (hS : va_S A s.heap H locs) (ls : Array Slot) (hl : lv_has ls 5 [(0, .ref adM), (1, .int v1), (2, .int v2)]) : W p l e R s m args below meth c H locs 0 0 (MQ below (q_M_suits dC dI cB cI cL A adM adM_tape adM_frameAt adM_field adM_draft adM_given adM_low adM_high adM_packet adM_known sM a) args s 0 0 A) (F0 m 123 ls [.int s0]) := by
  obtain ⟨hx, hb, hr, hml, hown, hts, hlocks, hRf, hRl⟩ := id X
  unfold g_M_suits_123 at hG
  refine lv_istore_n (lv' := [(3, .int s0), (0, .ref adM), (1, .int v1), (2, .int v2)]) hx hb d_M_suits_123 rfl hl (by decide) rfl (fun ls hl => ?_)
  exact k_M_suits_124 X hA zz N N sM v1 v2 s0 _ hG adM adM_tape adM_frameAt adM_field adM_draft adM_given adM_low adM_high adM_packet adM_known _ _ hP hD hS _ (lv_sub hl [1, 2, 3, 0] rfl)
set_option maxRecDepth 100000 in
set_option maxHeartbeats 4000000 in
theorem k_M_suits_105 {p : Program} {l : Launch} {e : Env} {R : Room} {s : State} {m : MethodId} {args : Array Value} {below : List Frame} {meth : Method} {c : Code} {dC : Nat → ClassId} {dI : Nat → Nat → Nat} {cB cI cL : ClassId} {A : Nat → Prop} (X : zx p s m args meth c R R_M b_M_suits (some .boolean) 5 2 46) (hA : ∀ q, s.heap.size ≤ q → A q) (zz : zk dC dI cB cI cL A s)  (N : Nat) (sM : zM) (s0 : Int32) (a : Int32) (hG : g_M_suits_105 N sM s0 = some a) (adM adM_tape adM_frameAt adM_field adM_draft adM_given adM_low adM_high adM_packet adM_known : Nat) (H : Heap) (locs : List Loc) (hP : va_P (dC, dI) zcl (zwM adM adM_tape adM_frameAt adM_field adM_draft adM_given adM_low adM_high adM_packet adM_known cB cI cL sM) H) (hD : va_D A (zwM adM adM_tape adM_frameAt adM_field adM_draft adM_given adM_low adM_high adM_packet adM_known cB cI cL sM)) (hS : va_S A s.heap H locs) (ls : Array Slot) (hl : lv_has ls 5 []) : W p l e R s m args below meth c H locs 0 0 (MQ below (q_M_suits dC dI cB cI cL A adM adM_tape adM_frameAt adM_field adM_draft adM_given adM_low adM_high adM_packet adM_known sM a) args s 0 0 A) (F0 m 105 ls [.int s0]) := by
  obtain ⟨hx, hb, hr, hml, hown, hts, hlocks, hRf, hRl⟩ := id X
  unfold g_M_suits_105 at hG
  obtain ⟨hnb, hG⟩ := zgd hG
  exact W.zret (v := s0) hx hb hr hnb (fun t9 ht9 hW9 => ⟨⟨s0, (), rfl, Option.some.inj hG, by rw [ht9]; exact hP, hD⟩, hS.F ht9⟩) hS.2.2 d_M_suits_105
set_option maxRecDepth 100000 in
set_option maxHeartbeats 4000000 in
theorem k_M_suits_104 {p : Program} {l : Launch} {e : Env} {R : Room} {s : State} {m : MethodId} {args : Array Value} {below : List Frame} {meth : Method} {c : Code} {dC : Nat → ClassId} {dI : Nat → Nat → Nat} {cB cI cL : ClassId} {A : Nat → Prop} (X : zx p s m args meth c R R_M b_M_suits (some .boolean) 5 2 46) (hA : ∀ q, s.heap.size ≤ q → A q) (zz : zk dC dI cB cI cL A s)  (N : Nat) (sM : zM) (a : Int32) (hG : g_M_suits_104 N sM = some a) (adM adM_tape adM_frameAt adM_field adM_draft adM_given adM_low adM_high adM_packet adM_known : Nat) (H : Heap) (locs : List Loc) (hP : va_P (dC, dI) zcl (zwM adM adM_tape adM_frameAt adM_field adM_draft adM_given adM_low adM_high adM_packet adM_known cB cI cL sM) H) (hD : va_D A (zwM adM adM_tape adM_frameAt adM_field adM_draft adM_given adM_low adM_high adM_packet adM_known cB cI cL sM)) (hS : va_S A s.heap H locs) (ls : Array Slot) (hl : lv_has ls 5 []) : W p l e R s m args below meth c H locs 0 0 (MQ below (q_M_suits dC dI cB cI cL A adM adM_tape adM_frameAt adM_field adM_draft adM_given adM_low adM_high adM_packet adM_known sM a) args s 0 0 A) (F0 m 104 ls []) := by
  obtain ⟨hx, hb, hr, hml, hown, hts, hlocks, hRf, hRl⟩ := id X
  unfold g_M_suits_104 at hG
  refine lv_iconst (v := (0 : Int32)) hx hb d_M_suits_104 (by decide) ?_
  exact k_M_suits_105 X hA zz N sM (0 : Int32) _ hG adM adM_tape adM_frameAt adM_field adM_draft adM_given adM_low adM_high adM_packet adM_known _ _ hP hD hS _ (lv_sub hl [] rfl)
set_option maxRecDepth 100000 in
set_option maxHeartbeats 4000000 in
theorem k_M_suits_100 {p : Program} {l : Launch} {e : Env} {R : Room} {s : State} {m : MethodId} {args : Array Value} {below : List Frame} {meth : Method} {c : Code} {dC : Nat → ClassId} {dI : Nat → Nat → Nat} {cB cI cL : ClassId} {A : Nat → Prop} (X : zx p s m args meth c R R_M b_M_suits (some .boolean) 5 2 46) (hA : ∀ q, s.heap.size ≤ q → A q) (zz : zk dC dI cB cI cL A s)  (N : Nat) (sM : zM) (a : Int32) (hG : g_M_suits_100 N sM = some a) (adM adM_tape adM_frameAt adM_field adM_draft adM_given adM_low adM_high adM_packet adM_known : Nat) (H : Heap) (locs : List Loc) (hP : va_P (dC, dI) zcl (zwM adM adM_tape adM_frameAt adM_field adM_draft adM_given adM_low adM_high adM_packet adM_known cB cI cL sM) H) (hD : va_D A (zwM adM adM_tape adM_frameAt adM_field adM_draft adM_given adM_low adM_high adM_packet adM_known cB cI cL sM)) (hS : va_S A s.heap H locs) (ls : Array Slot) (hl : lv_has ls 5 []) : W p l e R s m args below meth c H locs 0 0 (MQ below (q_M_suits dC dI cB cI cL A adM adM_tape adM_frameAt adM_field adM_draft adM_given adM_low adM_high adM_packet adM_known sM a) args s 0 0 A) (F0 m 100 ls []) := by
  obtain ⟨hx, hb, hr, hml, hown, hts, hlocks, hRf, hRl⟩ := id X
  unfold g_M_suits_100 at hG
  refine lv_iconst (v := (1 : Int32)) hx hb d_M_suits_100 (by decide) ?_
  refine lv_goto (tgt := 105) hx hb d_M_suits_101 (by decide) ?_
  exact k_M_suits_105 X hA zz N sM (1 : Int32) _ hG adM adM_tape adM_frameAt adM_field adM_draft adM_given adM_low adM_high adM_packet adM_known _ _ hP hD hS _ (lv_sub hl [] rfl)
set_option maxRecDepth 100000 in
set_option maxHeartbeats 4000000 in
theorem k_M_suits_0 {p : Program} {l : Launch} {e : Env} {R : Room} {s : State} {m : MethodId} {args : Array Value} {below : List Frame} {meth : Method} {c : Code} {dC : Nat → ClassId} {dI : Nat → Nat → Nat} {cB cI cL : ClassId} {A : Nat → Prop} (X : zx p s m args meth c R R_M b_M_suits (some .boolean) 5 2 46) (hA : ∀ q, s.heap.size ≤ q → A q) (zz : zk dC dI cB cI cL A s)  (N : Nat) (sM : zM) (v1 : Int32) (a : Int32) (hG : g_M_suits N sM v1 = some a) (adM adM_tape adM_frameAt adM_field adM_draft adM_given adM_low adM_high adM_packet adM_known : Nat) (H : Heap) (locs : List Loc) (hP : va_P (dC, dI) zcl (zwM adM adM_tape adM_frameAt adM_field adM_draft adM_given adM_low adM_high adM_packet adM_known cB cI cL sM) H) (hD : va_D A (zwM adM adM_tape adM_frameAt adM_field adM_draft adM_given adM_low adM_high adM_packet adM_known cB cI cL sM)) (hS : va_S A s.heap H locs) (ls : Array Slot) (hl : lv_has ls 5 [(0, .ref adM), (1, .int v1)]) : W p l e R s m args below meth c H locs 0 0 (MQ below (q_M_suits dC dI cB cI cL A adM adM_tape adM_frameAt adM_field adM_draft adM_given adM_low adM_high adM_packet adM_known sM a) args s 0 0 A) (F0 m 0 ls []) := by
  obtain ⟨hx, hb, hr, hml, hown, hts, hlocks, hRf, hRl⟩ := id X
  unfold g_M_suits at hG
  refine lv_iload_n hx hb d_M_suits_0 rfl (lv_at hl 1 rfl) ?_
  refine lv_if_ne (tgt := 18) hx hb d_M_suits_1 (by decide) (fun hc => ?_) (fun hc => ?_)
  · have hG := zf hG hc
    refine lv_iload_n hx hb d_M_suits_18 rfl (lv_at hl 1 rfl) ?_
    obtain ⟨a_19, hx_19, hG⟩ := zb hG
    have hr_19 := zrunS (p := p) (e := e) (below := below) (meth := meth) (As := [.int v1]) (rest := []) (st0 := [.int v1]) (cells := 0) (slots := 0) X zz hP hD hS hA [] (by decide) rfl (c_M_isAck l dC dI cB cI cL H.size v1 _ hx_19) zy_M_isAck zv_M_isAck (hts (.methodLink R_M 171 y_M_isAck) zin_M_171) hl rfl rfl d_M_suits_19 (lv_room (Nat.le_of_ble_eq_true rfl)) rfl rfl ⟨Nat.le_trans (Nat.le_of_ble_eq_true rfl) hRf, Nat.le_trans (Nat.le_of_ble_eq_true rfl) hRl⟩ ⟨Nat.zero_le _, Nat.zero_le _⟩
    refine zcalli (wr := (zwM adM adM_tape adM_frameAt adM_field adM_draft adM_given adM_low adM_high adM_packet adM_known cB cI cL sM)) hr_19 hP hD hS hA [] [0, 1, 2, 3, 4, 5, 6, 7, 8, 9] rfl rfl (by decide) (by decide) (fun r_19 u_19 H locs hw_19 hP hD hS => ?_)
    subst hw_19
    have hP : va_P (dC, dI) zcl (zwM adM adM_tape adM_frameAt adM_field adM_draft adM_given adM_low adM_high adM_packet adM_known cB cI cL sM) H := hP
    have hD : va_D A (zwM adM adM_tape adM_frameAt adM_field adM_draft adM_given adM_low adM_high adM_packet adM_known cB cI cL sM) := hD
    have hG : g_M_suits_c19 N sM v1 r_19 = some a := hG
    unfold g_M_suits_c19 at hG
    refine lv_if_eq (tgt := 106) hx hb d_M_suits_22 (by decide) (fun hc => ?_) (fun hc => ?_)
    · have hG := zt hG hc
      refine lv_iconst (v := (1 : Int32)) hx hb d_M_suits_106 (by decide) ?_
      refine lv_istore_n (lv' := [(2, .int (1 : Int32)), (0, .ref adM), (1, .int v1)]) hx hb d_M_suits_107 rfl hl (by decide) rfl (fun ls hl => ?_)
      refine lv_iload_n hx hb d_M_suits_108 rfl (lv_at hl 2 rfl) ?_
      refine lv_bipush (v := (8 : Int32)) hx hb d_M_suits_109 (by decide) ?_
      refine lv_icmp_ne (tgt := 119) hx hb d_M_suits_111 (by decide) (fun hc => ?_) (fun hc => ?_)
      · have hG := zf hG hc
        refine lv_iload_n hx hb d_M_suits_119 rfl (lv_at hl 2 rfl) ?_
        obtain ⟨a_120, hx_120, hG⟩ := zb hG
        have hr_120 := zrunS (p := p) (e := e) (below := below) (meth := meth) (As := [.int v1]) (rest := []) (st0 := [.int v1]) (cells := 0) (slots := 0) X zz hP hD hS hA [] (by decide) rfl (c_M_fields l dC dI cB cI cL H.size v1 _ hx_120) zy_M_fields zv_M_fields (hts (.methodLink R_M 134 y_M_fields) zin_M_134) hl rfl rfl d_M_suits_120 (lv_room (Nat.le_of_ble_eq_true rfl)) rfl rfl ⟨Nat.le_trans (Nat.le_of_ble_eq_true rfl) hRf, Nat.le_trans (Nat.le_of_ble_eq_true rfl) hRl⟩ ⟨Nat.zero_le _, Nat.zero_le _⟩
        refine zcalli (wr := (zwM adM adM_tape adM_frameAt adM_field adM_draft adM_given adM_low adM_high adM_packet adM_known cB cI cL sM)) hr_120 hP hD hS hA [] [0, 1, 2, 3, 4, 5, 6, 7, 8, 9] rfl rfl (by decide) (by decide) (fun r_120 u_120 H locs hw_120 hP hD hS => ?_)
        subst hw_120
        have hP : va_P (dC, dI) zcl (zwM adM adM_tape adM_frameAt adM_field adM_draft adM_given adM_low adM_high adM_packet adM_known cB cI cL sM) H := hP
        have hD : va_D A (zwM adM adM_tape adM_frameAt adM_field adM_draft adM_given adM_low adM_high adM_packet adM_known cB cI cL sM) := hD
        have hG : g_M_suits_c120 N sM v1 r_120 = some a := hG
        unfold g_M_suits_c120 at hG
        exact k_M_suits_123 X hA zz N sM v1 (1 : Int32) r_120 _ hG adM adM_tape adM_frameAt adM_field adM_draft adM_given adM_low adM_high adM_packet adM_known _ _ hP hD hS _ (lv_sub hl [1, 2, 0] rfl)
      · have hG := zt hG hc
        refine lv_bipush (v := (21 : Int32)) hx hb d_M_suits_114 (by decide) ?_
        refine lv_goto (tgt := 123) hx hb d_M_suits_116 (by decide) ?_
        exact k_M_suits_123 X hA zz N sM v1 (1 : Int32) (21 : Int32) _ hG adM adM_tape adM_frameAt adM_field adM_draft adM_given adM_low adM_high adM_packet adM_known _ _ hP hD hS _ (lv_sub hl [1, 2, 0] rfl)
    · have hG := zf hG hc
      refine lv_aload_n hx hb d_M_suits_25 rfl (lv_at hl 0 rfl) ?_
      refine va_get (D := (dC, dI)) (ci := 8) (v := .int (zM_spans sM)) (C := R_M) (T := F_M) (N := 26) hx hb hts zi_M hown zz.1 hP 0 rfl rfl 22 (by decide) (hts (.fieldLink R_M 214 "WireCodecModel" "spans" "I") zin_M_214) (fun _ h9 => h9) rfl d_M_suits_26 ?_
      refine lv_if_le (tgt := 104) hx hb d_M_suits_29 (by decide) (fun hc => ?_) (fun hc => ?_)
      · have hG := zt hG hc
        exact k_M_suits_104 X hA zz N sM _ hG adM adM_tape adM_frameAt adM_field adM_draft adM_given adM_low adM_high adM_packet adM_known _ _ hP hD hS _ (lv_sub hl [] rfl)
      · have hG := zf hG hc
        refine lv_aload_n hx hb d_M_suits_32 rfl (lv_at hl 0 rfl) ?_
        refine va_get (D := (dC, dI)) (ci := 8) (v := .ref adM_high) (C := R_M) (T := F_M) (N := 26) hx hb hts zi_M hown zz.1 hP 0 rfl rfl 21 (by decide) (hts (.fieldLink R_M 35 "WireCodecModel" "high" "[J") zin_M_35) (fun _ h9 => h9) rfl d_M_suits_33 ?_
        refine lv_iconst (v := (0 : Int32)) hx hb d_M_suits_36 (by decide) ?_
        obtain ⟨hin, hG⟩ := zgd hG
        refine va_lald hx hb zz.1 hP 7 2 rfl rfl hin d_M_suits_37 ?_
        obtain ⟨a_38, hx_38, hG⟩ := zb hG
        have hr_38 := zrunS (p := p) (e := e) (below := below) (meth := meth) (As := [.long ((zM_high sM) (0 : Int32).toNatClampNeg)]) (rest := []) (st0 := [.long ((zM_high sM) (0 : Int32).toNatClampNeg)]) (cells := 0) (slots := 0) X zz hP hD hS hA [] (by decide) rfl (c_M_isNumber l dC dI cB cI cL H.size ((zM_high sM) (0 : Int32).toNatClampNeg) _ hx_38) zy_M_isNumber zv_M_isNumber (hts (.methodLink R_M 80 y_M_isNumber) zin_M_80) hl rfl rfl d_M_suits_38 (lv_room (Nat.le_of_ble_eq_true rfl)) rfl rfl ⟨Nat.le_trans (Nat.le_of_ble_eq_true rfl) hRf, Nat.le_trans (Nat.le_of_ble_eq_true rfl) hRl⟩ ⟨Nat.zero_le _, Nat.zero_le _⟩
        refine zcalli (wr := (zwM adM adM_tape adM_frameAt adM_field adM_draft adM_given adM_low adM_high adM_packet adM_known cB cI cL sM)) hr_38 hP hD hS hA [] [0, 1, 2, 3, 4, 5, 6, 7, 8, 9] rfl rfl (by decide) (by decide) (fun r_38 u_38 H locs hw_38 hP hD hS => ?_)
        subst hw_38
        have hP : va_P (dC, dI) zcl (zwM adM adM_tape adM_frameAt adM_field adM_draft adM_given adM_low adM_high adM_packet adM_known cB cI cL sM) H := hP
        have hD : va_D A (zwM adM adM_tape adM_frameAt adM_field adM_draft adM_given adM_low adM_high adM_packet adM_known cB cI cL sM) := hD
        have hG : g_M_suits_c38 N sM v1 r_38 = some a := hG
        unfold g_M_suits_c38 at hG
        refine lv_if_eq (tgt := 104) hx hb d_M_suits_41 (by decide) (fun hc => ?_) (fun hc => ?_)
        · have hG := zt hG hc
          exact k_M_suits_104 X hA zz N sM _ hG adM adM_tape adM_frameAt adM_field adM_draft adM_given adM_low adM_high adM_packet adM_known _ _ hP hD hS _ (lv_sub hl [] rfl)
        · have hG := zf hG hc
          refine lv_aload_n hx hb d_M_suits_44 rfl (lv_at hl 0 rfl) ?_
          refine va_get (D := (dC, dI)) (ci := 8) (v := .ref adM_draft) (C := R_M) (T := F_M) (N := 26) hx hb hts zi_M hown zz.1 hP 0 rfl rfl 17 (by decide) (hts (.fieldLink R_M 26 "WireCodecModel" "draft" "[J") zin_M_26) (fun _ h9 => h9) rfl d_M_suits_45 ?_
          refine lv_iconst (v := (1 : Int32)) hx hb d_M_suits_48 (by decide) ?_
          obtain ⟨hin, hG⟩ := zgd hG
          refine va_lald hx hb zz.1 hP 4 2 rfl rfl hin d_M_suits_49 ?_
          obtain ⟨a_50, hx_50, hG⟩ := zb hG
          have hr_50 := zrunS (p := p) (e := e) (below := below) (meth := meth) (As := [.long ((zM_draft sM) (1 : Int32).toNatClampNeg)]) (rest := []) (st0 := [.long ((zM_draft sM) (1 : Int32).toNatClampNeg)]) (cells := 0) (slots := 0) X zz hP hD hS hA [] (by decide) rfl (c_M_isNumber l dC dI cB cI cL H.size ((zM_draft sM) (1 : Int32).toNatClampNeg) _ hx_50) zy_M_isNumber zv_M_isNumber (hts (.methodLink R_M 80 y_M_isNumber) zin_M_80) hl rfl rfl d_M_suits_50 (lv_room (Nat.le_of_ble_eq_true rfl)) rfl rfl ⟨Nat.le_trans (Nat.le_of_ble_eq_true rfl) hRf, Nat.le_trans (Nat.le_of_ble_eq_true rfl) hRl⟩ ⟨Nat.zero_le _, Nat.zero_le _⟩
          refine zcalli (wr := (zwM adM adM_tape adM_frameAt adM_field adM_draft adM_given adM_low adM_high adM_packet adM_known cB cI cL sM)) hr_50 hP hD hS hA [] [0, 1, 2, 3, 4, 5, 6, 7, 8, 9] rfl rfl (by decide) (by decide) (fun r_50 u_50 H locs hw_50 hP hD hS => ?_)
          subst hw_50
          have hP : va_P (dC, dI) zcl (zwM adM adM_tape adM_frameAt adM_field adM_draft adM_given adM_low adM_high adM_packet adM_known cB cI cL sM) H := hP
          have hD : va_D A (zwM adM adM_tape adM_frameAt adM_field adM_draft adM_given adM_low adM_high adM_packet adM_known cB cI cL sM) := hD
          have hG : g_M_suits_c50 N sM v1 r_50 = some a := hG
          unfold g_M_suits_c50 at hG
          refine lv_if_eq (tgt := 104) hx hb d_M_suits_53 (by decide) (fun hc => ?_) (fun hc => ?_)
          · have hG := zt hG hc
            exact k_M_suits_104 X hA zz N sM _ hG adM adM_tape adM_frameAt adM_field adM_draft adM_given adM_low adM_high adM_packet adM_known _ _ hP hD hS _ (lv_sub hl [] rfl)
          · have hG := zf hG hc
            refine lv_iload_n hx hb d_M_suits_56 rfl (lv_at hl 1 rfl) ?_
            refine lv_iconst (v := (2 : Int32)) hx hb d_M_suits_57 (by decide) ?_
            refine lv_icmp_eq (tgt := 100) hx hb d_M_suits_58 (by decide) (fun hc => ?_) (fun hc => ?_)
            · have hG := zt hG hc
              exact k_M_suits_100 X hA zz N sM _ hG adM adM_tape adM_frameAt adM_field adM_draft adM_given adM_low adM_high adM_packet adM_known _ _ hP hD hS _ (lv_sub hl [] rfl)
            · have hG := zf hG hc
              refine lv_aload_n hx hb d_M_suits_61 rfl (lv_at hl 0 rfl) ?_
              refine va_get (D := (dC, dI)) (ci := 8) (v := .ref adM_draft) (C := R_M) (T := F_M) (N := 26) hx hb hts zi_M hown zz.1 hP 0 rfl rfl 17 (by decide) (hts (.fieldLink R_M 26 "WireCodecModel" "draft" "[J") zin_M_26) (fun _ h9 => h9) rfl d_M_suits_62 ?_
              refine lv_bipush (v := (9 : Int32)) hx hb d_M_suits_65 (by decide) ?_
              obtain ⟨hin, hG⟩ := zgd hG
              refine va_lald hx hb zz.1 hP 4 2 rfl rfl hin d_M_suits_67 ?_
              obtain ⟨a_68, hx_68, hG⟩ := zb hG
              have hr_68 := zrunS (p := p) (e := e) (below := below) (meth := meth) (As := [.long ((zM_draft sM) (9 : Int32).toNatClampNeg)]) (rest := []) (st0 := [.long ((zM_draft sM) (9 : Int32).toNatClampNeg)]) (cells := 0) (slots := 0) X zz hP hD hS hA [] (by decide) rfl (c_M_isNumber l dC dI cB cI cL H.size ((zM_draft sM) (9 : Int32).toNatClampNeg) _ hx_68) zy_M_isNumber zv_M_isNumber (hts (.methodLink R_M 80 y_M_isNumber) zin_M_80) hl rfl rfl d_M_suits_68 (lv_room (Nat.le_of_ble_eq_true rfl)) rfl rfl ⟨Nat.le_trans (Nat.le_of_ble_eq_true rfl) hRf, Nat.le_trans (Nat.le_of_ble_eq_true rfl) hRl⟩ ⟨Nat.zero_le _, Nat.zero_le _⟩
              refine zcalli (wr := (zwM adM adM_tape adM_frameAt adM_field adM_draft adM_given adM_low adM_high adM_packet adM_known cB cI cL sM)) hr_68 hP hD hS hA [] [0, 1, 2, 3, 4, 5, 6, 7, 8, 9] rfl rfl (by decide) (by decide) (fun r_68 u_68 H locs hw_68 hP hD hS => ?_)
              subst hw_68
              have hP : va_P (dC, dI) zcl (zwM adM adM_tape adM_frameAt adM_field adM_draft adM_given adM_low adM_high adM_packet adM_known cB cI cL sM) H := hP
              have hD : va_D A (zwM adM adM_tape adM_frameAt adM_field adM_draft adM_given adM_low adM_high adM_packet adM_known cB cI cL sM) := hD
              have hG : g_M_suits_c68 N sM r_68 = some a := hG
              unfold g_M_suits_c68 at hG
              refine lv_if_eq (tgt := 104) hx hb d_M_suits_71 (by decide) (fun hc => ?_) (fun hc => ?_)
              · have hG := zt hG hc
                exact k_M_suits_104 X hA zz N sM _ hG adM adM_tape adM_frameAt adM_field adM_draft adM_given adM_low adM_high adM_packet adM_known _ _ hP hD hS _ (lv_sub hl [] rfl)
              · have hG := zf hG hc
                refine lv_aload_n hx hb d_M_suits_74 rfl (lv_at hl 0 rfl) ?_
                refine va_get (D := (dC, dI)) (ci := 8) (v := .ref adM_draft) (C := R_M) (T := F_M) (N := 26) hx hb hts zi_M hown zz.1 hP 0 rfl rfl 17 (by decide) (hts (.fieldLink R_M 26 "WireCodecModel" "draft" "[J") zin_M_26) (fun _ h9 => h9) rfl d_M_suits_75 ?_
                refine lv_bipush (v := (10 : Int32)) hx hb d_M_suits_78 (by decide) ?_
                obtain ⟨hin, hG⟩ := zgd hG
                refine va_lald hx hb zz.1 hP 4 2 rfl rfl hin d_M_suits_80 ?_
                obtain ⟨a_81, hx_81, hG⟩ := zb hG
                have hr_81 := zrunS (p := p) (e := e) (below := below) (meth := meth) (As := [.long ((zM_draft sM) (10 : Int32).toNatClampNeg)]) (rest := []) (st0 := [.long ((zM_draft sM) (10 : Int32).toNatClampNeg)]) (cells := 0) (slots := 0) X zz hP hD hS hA [] (by decide) rfl (c_M_isNumber l dC dI cB cI cL H.size ((zM_draft sM) (10 : Int32).toNatClampNeg) _ hx_81) zy_M_isNumber zv_M_isNumber (hts (.methodLink R_M 80 y_M_isNumber) zin_M_80) hl rfl rfl d_M_suits_81 (lv_room (Nat.le_of_ble_eq_true rfl)) rfl rfl ⟨Nat.le_trans (Nat.le_of_ble_eq_true rfl) hRf, Nat.le_trans (Nat.le_of_ble_eq_true rfl) hRl⟩ ⟨Nat.zero_le _, Nat.zero_le _⟩
                refine zcalli (wr := (zwM adM adM_tape adM_frameAt adM_field adM_draft adM_given adM_low adM_high adM_packet adM_known cB cI cL sM)) hr_81 hP hD hS hA [] [0, 1, 2, 3, 4, 5, 6, 7, 8, 9] rfl rfl (by decide) (by decide) (fun r_81 u_81 H locs hw_81 hP hD hS => ?_)
                subst hw_81
                have hP : va_P (dC, dI) zcl (zwM adM adM_tape adM_frameAt adM_field adM_draft adM_given adM_low adM_high adM_packet adM_known cB cI cL sM) H := hP
                have hD : va_D A (zwM adM adM_tape adM_frameAt adM_field adM_draft adM_given adM_low adM_high adM_packet adM_known cB cI cL sM) := hD
                have hG : g_M_suits_c81 N sM r_81 = some a := hG
                unfold g_M_suits_c81 at hG
                refine lv_if_eq (tgt := 104) hx hb d_M_suits_84 (by decide) (fun hc => ?_) (fun hc => ?_)
                · have hG := zt hG hc
                  exact k_M_suits_104 X hA zz N sM _ hG adM adM_tape adM_frameAt adM_field adM_draft adM_given adM_low adM_high adM_packet adM_known _ _ hP hD hS _ (lv_sub hl [] rfl)
                · have hG := zf hG hc
                  refine lv_aload_n hx hb d_M_suits_87 rfl (lv_at hl 0 rfl) ?_
                  refine va_get (D := (dC, dI)) (ci := 8) (v := .ref adM_draft) (C := R_M) (T := F_M) (N := 26) hx hb hts zi_M hown zz.1 hP 0 rfl rfl 17 (by decide) (hts (.fieldLink R_M 26 "WireCodecModel" "draft" "[J") zin_M_26) (fun _ h9 => h9) rfl d_M_suits_88 ?_
                  refine lv_bipush (v := (11 : Int32)) hx hb d_M_suits_91 (by decide) ?_
                  obtain ⟨hin, hG⟩ := zgd hG
                  refine va_lald hx hb zz.1 hP 4 2 rfl rfl hin d_M_suits_93 ?_
                  obtain ⟨a_94, hx_94, hG⟩ := zb hG
                  have hr_94 := zrunS (p := p) (e := e) (below := below) (meth := meth) (As := [.long ((zM_draft sM) (11 : Int32).toNatClampNeg)]) (rest := []) (st0 := [.long ((zM_draft sM) (11 : Int32).toNatClampNeg)]) (cells := 0) (slots := 0) X zz hP hD hS hA [] (by decide) rfl (c_M_isNumber l dC dI cB cI cL H.size ((zM_draft sM) (11 : Int32).toNatClampNeg) _ hx_94) zy_M_isNumber zv_M_isNumber (hts (.methodLink R_M 80 y_M_isNumber) zin_M_80) hl rfl rfl d_M_suits_94 (lv_room (Nat.le_of_ble_eq_true rfl)) rfl rfl ⟨Nat.le_trans (Nat.le_of_ble_eq_true rfl) hRf, Nat.le_trans (Nat.le_of_ble_eq_true rfl) hRl⟩ ⟨Nat.zero_le _, Nat.zero_le _⟩
                  refine zcalli (wr := (zwM adM adM_tape adM_frameAt adM_field adM_draft adM_given adM_low adM_high adM_packet adM_known cB cI cL sM)) hr_94 hP hD hS hA [] [0, 1, 2, 3, 4, 5, 6, 7, 8, 9] rfl rfl (by decide) (by decide) (fun r_94 u_94 H locs hw_94 hP hD hS => ?_)
                  subst hw_94
                  have hP : va_P (dC, dI) zcl (zwM adM adM_tape adM_frameAt adM_field adM_draft adM_given adM_low adM_high adM_packet adM_known cB cI cL sM) H := hP
                  have hD : va_D A (zwM adM adM_tape adM_frameAt adM_field adM_draft adM_given adM_low adM_high adM_packet adM_known cB cI cL sM) := hD
                  have hG : g_M_suits_c94 N sM r_94 = some a := hG
                  unfold g_M_suits_c94 at hG
                  refine lv_if_eq (tgt := 104) hx hb d_M_suits_97 (by decide) (fun hc => ?_) (fun hc => ?_)
                  · have hG := zt hG hc
                    exact k_M_suits_104 X hA zz N sM _ hG adM adM_tape adM_frameAt adM_field adM_draft adM_given adM_low adM_high adM_packet adM_known _ _ hP hD hS _ (lv_sub hl [] rfl)
                  · have hG := zf hG hc
                    exact k_M_suits_100 X hA zz N sM _ hG adM adM_tape adM_frameAt adM_field adM_draft adM_given adM_low adM_high adM_packet adM_known _ _ hP hD hS _ (lv_sub hl [] rfl)
  · have hG := zt hG hc
    refine lv_aload_n hx hb d_M_suits_4 rfl (lv_at hl 0 rfl) ?_
    refine va_get (D := (dC, dI)) (ci := 8) (v := .ref adM_draft) (C := R_M) (T := F_M) (N := 26) hx hb hts zi_M hown zz.1 hP 0 rfl rfl 17 (by decide) (hts (.fieldLink R_M 26 "WireCodecModel" "draft" "[J") zin_M_26) (fun _ h9 => h9) rfl d_M_suits_5 ?_
    refine lv_iconst (v := (0 : Int32)) hx hb d_M_suits_8 (by decide) ?_
    obtain ⟨hin, hG⟩ := zgd hG
    refine va_lald hx hb zz.1 hP 4 2 rfl rfl hin d_M_suits_9 ?_
    refine lv_lconst (v := (1 : Int64)) hx hb d_M_suits_10 (by decide) ?_
    refine lv_ldc2 (v := (2000 : Int64)) hx hb hown (hts (.constantLong R_M 219 (2000 : Int64)) zin_M_219) d_M_suits_11 ?_
    obtain ⟨a_14, hx_14, hG⟩ := zb hG
    have hr_14 := zrunS (p := p) (e := e) (below := below) (meth := meth) (As := [.long ((zM_draft sM) (0 : Int32).toNatClampNeg), .long (1 : Int64), .long (2000 : Int64)]) (rest := []) (st0 := [.long (2000 : Int64), .long (1 : Int64), .long ((zM_draft sM) (0 : Int32).toNatClampNeg)]) (cells := 0) (slots := 0) X zz hP hD hS hA [] (by decide) rfl (c_M_within l dC dI cB cI cL H.size ((zM_draft sM) (0 : Int32).toNatClampNeg) (1 : Int64) (2000 : Int64) _ hx_14) zy_M_within zv_M_within (hts (.methodLink R_M 53 y_M_within) zin_M_53) hl rfl rfl d_M_suits_14 (lv_room (Nat.le_of_ble_eq_true rfl)) rfl rfl ⟨Nat.le_trans (Nat.le_of_ble_eq_true rfl) hRf, Nat.le_trans (Nat.le_of_ble_eq_true rfl) hRl⟩ ⟨Nat.zero_le _, Nat.zero_le _⟩
    refine zcalli (wr := (zwM adM adM_tape adM_frameAt adM_field adM_draft adM_given adM_low adM_high adM_packet adM_known cB cI cL sM)) hr_14 hP hD hS hA [] [0, 1, 2, 3, 4, 5, 6, 7, 8, 9] rfl rfl (by decide) (by decide) (fun r_14 u_14 H locs hw_14 hP hD hS => ?_)
    subst hw_14
    have hP : va_P (dC, dI) zcl (zwM adM adM_tape adM_frameAt adM_field adM_draft adM_given adM_low adM_high adM_packet adM_known cB cI cL sM) H := hP
    have hD : va_D A (zwM adM adM_tape adM_frameAt adM_field adM_draft adM_given adM_low adM_high adM_packet adM_known cB cI cL sM) := hD
    have hG : g_M_suits_c14 r_14 = some a := hG
    unfold g_M_suits_c14 at hG
    obtain ⟨hnb, hG⟩ := zgd hG
    exact W.zret (v := r_14) hx hb hr hnb (fun t9 ht9 hW9 => ⟨⟨r_14, (), rfl, Option.some.inj hG, by rw [ht9]; exact hP, hD⟩, hS.F ht9⟩) hS.2.2 d_M_suits_17
set_option maxRecDepth 100000 in
set_option maxHeartbeats 4000000 in
theorem c_M_suits (l : Launch) (dC : Nat → ClassId) (dI : Nat → Nat → Nat) (cB cI cL : ClassId) (sz : Nat) (adM adM_tape adM_frameAt adM_field adM_draft adM_given adM_low adM_high adM_packet adM_known : Nat) (N : Nat) (sM : zM) (v1 : Int32) (a : Int32) (hG : g_M_suits N sM v1 = some a) : Met l y_M_suits (zw y_M_suits b_M_suits 5 (some .boolean)) ({ frames := 2, cells := 0, slots := 0, locals := 46 }) (va_Pc [.ref adM, .int v1] (zpre dC dI cB cI cL sz (zwM adM adM_tape adM_frameAt adM_field adM_draft adM_given adM_low adM_high adM_packet adM_known cB cI cL sM))) (q_M_suits dC dI cB cI cL (va_A (zwM adM adM_tape adM_frameAt adM_field adM_draft adM_given adM_low adM_high adM_packet adM_known cB cI cL sM) sz) adM adM_tape adM_frameAt adM_field adM_draft adM_given adM_low adM_high adM_packet adM_known sM a) 0 0 (va_A (zwM adM adM_tape adM_frameAt adM_field adM_draft adM_given adM_low adM_high adM_packet adM_known cB cI cL sM) sz) := by
  refine Met.ofW (cc := b_M_suits) (maxL := 5) (ret := (some .boolean)) (by decide) rfl ?_
  intro p e s m args below meth c s₁ B hml hv
  obtain ⟨rfl, hsz, hP, zz, hD0⟩ := hv
  subst hsz
  have X := zx_of (F := 2) (L := 46) B hml (Nat.le_refl _) (Nat.le_refl _)
  have hD := hD0.self (sz := s.heap.size)
  have hA : ∀ q : Nat, s.heap.size ≤ q → va_A (zwM adM adM_tape adM_frameAt adM_field adM_draft adM_given adM_low adM_high adM_packet adM_known cB cI cL sM) s.heap.size q := fun q h => Or.inr h
  have hl := lv_entry ([.ref adM, .int v1]) (n := 5) (Nat.le_of_ble_eq_true rfl)
  rw [lg_entry_eq]
  generalize (lg_sl ([.ref adM, .int v1]) ++ List.replicate (5 - (lg_sl ([.ref adM, .int v1])).length) Slot.unset).toArray = ls at hl ⊢
  exact k_M_suits_0 X hA zz N sM v1 a hG adM adM_tape adM_frameAt adM_field adM_draft adM_given adM_low adM_high adM_packet adM_known _ _ hP hD va_S.rf ls hl
noncomputable def g_M_writeGiven_c16 (kr : zM → Int32 → Int32 → Option (zM)) (v1 : Int32) (v2 : Int32) (sM_16 : zM) : Option (zM) := kr sM_16 v1 (v2 + 1)
noncomputable def g_M_writeGiven_2_b (N : Nat) (kr : zM → Int32 → Int32 → Option (zM)) (sM : zM) (v1 : Int32) (v2 : Int32) : Option (zM) := if v1 ≤ v2 then (some (sM)) else (zg (vp_in v2 2000) ((g_M_write N sM (((zM_given sM) v2.toNatClampNeg).toInt64) (1 : Int32)).bind (fun a => g_M_writeGiven_c16 kr v1 v2 a)))
noncomputable def g_M_writeGiven_2 (N : Nat) : Nat → zM → Int32 → Int32 → Option (zM)
  | 0 => fun _ _ _ => none
  | k + 1 => fun sM v1 v2 => g_M_writeGiven_2_b N (g_M_writeGiven_2 N k) sM v1 v2
noncomputable def g_M_writeGiven (N : Nat) (sM : zM) (v1 : Int32) : Option (zM) := g_M_writeGiven_2 N N sM v1 (0 : Int32)
def q_M_writeGiven (dC : Nat → ClassId) (dI : Nat → Nat → Nat) (cB cI cL : ClassId) (A : Nat → Prop) (adM : Nat) (adM_tape : Nat) (adM_frameAt : Nat) (adM_field : Nat) (adM_draft : Nat) (adM_given : Nat) (adM_low : Nat) (adM_high : Nat) (adM_packet : Nat) (adM_known : Nat) (a : zM) : Array Value → State → Outcome → State → Prop := va_Qv (fun (u : zM) => (u) = a) (fun u U => va_P (dC, dI) zcl (zwM adM adM_tape adM_frameAt adM_field adM_draft adM_given adM_low adM_high adM_packet adM_known cB cI cL u) U.heap ∧ va_D A (zwM adM adM_tape adM_frameAt adM_field adM_draft adM_given adM_low adM_high adM_packet adM_known cB cI cL u)) A
set_option maxRecDepth 100000 in
set_option maxHeartbeats 4000000 in
theorem k_M_writeGiven_2_b {p : Program} {l : Launch} {e : Env} {R : Room} {s : State} {m : MethodId} {args : Array Value} {below : List Frame} {meth : Method} {c : Code} {dC : Nat → ClassId} {dI : Nat → Nat → Nat} {cB cI cL : ClassId} {A : Nat → Prop} (kr : zM → Int32 → Int32 → Option (zM)) (hrec : ∀ (sM : zM) (v1 : Int32) (v2 : Int32) (a : zM), kr sM v1 v2 = some a → ∀ (adM adM_tape adM_frameAt adM_field adM_draft adM_given adM_low adM_high adM_packet adM_known : Nat) (H : Heap) (locs : List Loc), va_P (dC, dI) zcl (zwM adM adM_tape adM_frameAt adM_field adM_draft adM_given adM_low adM_high adM_packet adM_known cB cI cL sM) H → va_D A (zwM adM adM_tape adM_frameAt adM_field adM_draft adM_given adM_low adM_high adM_packet adM_known cB cI cL sM) → va_S A s.heap H locs → ∀ ls : Array Slot, lv_has ls 3 [(0, .ref adM), (1, .int v1), (2, .int v2)] → W p l e R s m args below meth c H locs 0 0 (MQ below (q_M_writeGiven dC dI cB cI cL A adM adM_tape adM_frameAt adM_field adM_draft adM_given adM_low adM_high adM_packet adM_known a) args s 0 0 A) (F0 m 2 ls [])) (X : zx p s m args meth c R R_M b_M_writeGiven none 3 1 24) (hA : ∀ q, s.heap.size ≤ q → A q) (zz : zk dC dI cB cI cL A s)  (N : Nat) (sM : zM) (v1 : Int32) (v2 : Int32) (a : zM) (hG : g_M_writeGiven_2_b N kr sM v1 v2 = some a) (adM adM_tape adM_frameAt adM_field adM_draft adM_given adM_low adM_high adM_packet adM_known : Nat) (H : Heap) (locs : List Loc) (hP : va_P (dC, dI) zcl (zwM adM adM_tape adM_frameAt adM_field adM_draft adM_given adM_low adM_high adM_packet adM_known cB cI cL sM) H) (hD : va_D A (zwM adM adM_tape adM_frameAt adM_field adM_draft adM_given adM_low adM_high adM_packet adM_known cB cI cL sM)) (hS : va_S A s.heap H locs) (ls : Array Slot) (hl : lv_has ls 3 [(0, .ref adM), (1, .int v1), (2, .int v2)]) : W p l e R s m args below meth c H locs 0 0 (MQ below (q_M_writeGiven dC dI cB cI cL A adM adM_tape adM_frameAt adM_field adM_draft adM_given adM_low adM_high adM_packet adM_known a) args s 0 0 A) (F0 m 2 ls []) := by
  obtain ⟨hx, hb, hr, hml, hown, hts, hlocks, hRf, hRl⟩ := id X
  unfold g_M_writeGiven_2_b at hG
  refine lv_iload_n hx hb d_M_writeGiven_2 rfl (lv_at hl 2 rfl) ?_
  refine lv_iload_n hx hb d_M_writeGiven_3 rfl (lv_at hl 1 rfl) ?_
  refine lv_icmp_ge (tgt := 25) hx hb d_M_writeGiven_4 (by decide) (fun hc => ?_) (fun hc => ?_)
  · have hG := zt hG hc
    exact W.vret hx hb hr (fun t9 ht9 hW9 => ⟨⟨(sM), rfl, Option.some.inj hG, by rw [ht9]; exact hP, hD⟩, hS.F ht9⟩) hS.2.2 d_M_writeGiven_25
  · have hG := zf hG hc
    refine lv_aload_n hx hb d_M_writeGiven_7 rfl (lv_at hl 0 rfl) ?_
    refine lv_aload_n hx hb d_M_writeGiven_8 rfl (lv_at hl 0 rfl) ?_
    refine va_get (D := (dC, dI)) (ci := 8) (v := .ref adM_given) (C := R_M) (T := F_M) (N := 26) hx hb hts zi_M hown zz.1 hP 0 rfl rfl 18 (by decide) (hts (.fieldLink R_M 29 "WireCodecModel" "given" "[B") zin_M_29) (fun _ h9 => h9) rfl d_M_writeGiven_9 ?_
    refine lv_iload_n hx hb d_M_writeGiven_12 rfl (lv_at hl 2 rfl) ?_
    obtain ⟨hin, hG⟩ := zgd hG
    refine va_bald hx hb zz.1 hP 5 0 rfl rfl hin d_M_writeGiven_13 ?_
    refine lv_i2l hx hb d_M_writeGiven_14 rfl ?_
    refine lv_iconst (v := (1 : Int32)) hx hb d_M_writeGiven_15 (by decide) ?_
    obtain ⟨a_16, hx_16, hG⟩ := zb hG
    have hr_16 := zrunV (p := p) (e := e) (below := below) (meth := meth) (As := [.long (((zM_given sM) v2.toNatClampNeg).toInt64), .int (1 : Int32)]) (rest := []) (st0 := [.int (1 : Int32), .long (((zM_given sM) v2.toNatClampNeg).toInt64), .ref adM]) (cells := 0) (slots := 0) X zz hP hD hS hA [0, 1, 2, 3, 4, 5, 6, 7, 8, 9] (by decide) rfl (c_M_write l dC dI cB cI cL H.size adM adM_tape adM_frameAt adM_field adM_draft adM_given adM_low adM_high adM_packet adM_known N sM (((zM_given sM) v2.toNatClampNeg).toInt64) (1 : Int32) _ hx_16) zy_M_write zv_M_write (hts (.methodLink R_M 66 y_M_write) zin_M_66) hl rfl rfl d_M_writeGiven_16 (lv_room (Nat.le_of_ble_eq_true rfl)) rfl rfl ⟨Nat.le_trans (Nat.le_of_ble_eq_true rfl) hRf, Nat.le_trans (Nat.le_of_ble_eq_true rfl) hRl⟩ ⟨Nat.zero_le _, Nat.zero_le _⟩ 0 8 rfl rfl
    refine zcallv (wr := ([] : va_W)) hr_16 hP hD hS hA [0, 1, 2, 3, 4, 5, 6, 7, 8, 9] [] rfl rfl (by decide) (by decide) (fun u_16 H locs hw_16 hP hD hS => ?_)
    obtain ⟨sM_16, rfl⟩ : ∃ z, z = u_16 := ⟨_, rfl⟩
    subst hw_16
    have hP : va_P (dC, dI) zcl (zwM adM adM_tape adM_frameAt adM_field adM_draft adM_given adM_low adM_high adM_packet adM_known cB cI cL sM_16) H := hP
    have hD : va_D A (zwM adM adM_tape adM_frameAt adM_field adM_draft adM_given adM_low adM_high adM_packet adM_known cB cI cL sM_16) := hD
    have hG : g_M_writeGiven_c16 kr v1 v2 sM_16 = some a := hG
    unfold g_M_writeGiven_c16 at hG
    refine lv_iinc (v := v2 + 1) (lv' := [(2, .int (v2 + 1)), (0, .ref adM), (1, .int v1)]) hx hb d_M_writeGiven_19 hl (k := 2) rfl rfl (by decide) rfl (fun ls hl => ?_)
    refine lv_goto (tgt := 2) hx hb d_M_writeGiven_22 (by decide) ?_
    exact hrec sM_16 v1 (v2 + 1) _ hG adM adM_tape adM_frameAt adM_field adM_draft adM_given adM_low adM_high adM_packet adM_known _ _ hP hD hS _ (lv_sub hl [1, 2, 0] rfl)
theorem k_M_writeGiven_2 {p : Program} {l : Launch} {e : Env} {R : Room} {s : State} {m : MethodId} {args : Array Value} {below : List Frame} {meth : Method} {c : Code} {dC : Nat → ClassId} {dI : Nat → Nat → Nat} {cB cI cL : ClassId} {A : Nat → Prop} (X : zx p s m args meth c R R_M b_M_writeGiven none 3 1 24) (hA : ∀ q, s.heap.size ≤ q → A q) (zz : zk dC dI cB cI cL A s)  (N : Nat) : ∀ (k : Nat) (sM : zM) (v1 : Int32) (v2 : Int32) (a : zM) (hG : g_M_writeGiven_2 N k sM v1 v2 = some a) (adM adM_tape adM_frameAt adM_field adM_draft adM_given adM_low adM_high adM_packet adM_known : Nat) (H : Heap) (locs : List Loc) (hP : va_P (dC, dI) zcl (zwM adM adM_tape adM_frameAt adM_field adM_draft adM_given adM_low adM_high adM_packet adM_known cB cI cL sM) H) (hD : va_D A (zwM adM adM_tape adM_frameAt adM_field adM_draft adM_given adM_low adM_high adM_packet adM_known cB cI cL sM)) (hS : va_S A s.heap H locs) (ls : Array Slot) (hl : lv_has ls 3 [(0, .ref adM), (1, .int v1), (2, .int v2)]), W p l e R s m args below meth c H locs 0 0 (MQ below (q_M_writeGiven dC dI cB cI cL A adM adM_tape adM_frameAt adM_field adM_draft adM_given adM_low adM_high adM_packet adM_known a) args s 0 0 A) (F0 m 2 ls []) := by
  intro k
  induction k with
  | zero => intro sM v1 v2 a hG; exact absurd hG (by unfold g_M_writeGiven_2; simp)
  | succ k ih => intro sM v1 v2 a hG adM adM_tape adM_frameAt adM_field adM_draft adM_given adM_low adM_high adM_packet adM_known H locs hP hD hS ls hl; exact k_M_writeGiven_2_b _ ih X hA zz N sM v1 v2 a hG adM adM_tape adM_frameAt adM_field adM_draft adM_given adM_low adM_high adM_packet adM_known H locs hP hD hS ls hl
set_option maxRecDepth 100000 in
set_option maxHeartbeats 4000000 in
theorem k_M_writeGiven_0 {p : Program} {l : Launch} {e : Env} {R : Room} {s : State} {m : MethodId} {args : Array Value} {below : List Frame} {meth : Method} {c : Code} {dC : Nat → ClassId} {dI : Nat → Nat → Nat} {cB cI cL : ClassId} {A : Nat → Prop} (X : zx p s m args meth c R R_M b_M_writeGiven none 3 1 24) (hA : ∀ q, s.heap.size ≤ q → A q) (zz : zk dC dI cB cI cL A s)  (N : Nat) (sM : zM) (v1 : Int32) (a : zM) (hG : g_M_writeGiven N sM v1 = some a) (adM adM_tape adM_frameAt adM_field adM_draft adM_given adM_low adM_high adM_packet adM_known : Nat) (H : Heap) (locs : List Loc) (hP : va_P (dC, dI) zcl (zwM adM adM_tape adM_frameAt adM_field adM_draft adM_given adM_low adM_high adM_packet adM_known cB cI cL sM) H) (hD : va_D A (zwM adM adM_tape adM_frameAt adM_field adM_draft adM_given adM_low adM_high adM_packet adM_known cB cI cL sM)) (hS : va_S A s.heap H locs) (ls : Array Slot) (hl : lv_has ls 3 [(0, .ref adM), (1, .int v1)]) : W p l e R s m args below meth c H locs 0 0 (MQ below (q_M_writeGiven dC dI cB cI cL A adM adM_tape adM_frameAt adM_field adM_draft adM_given adM_low adM_high adM_packet adM_known a) args s 0 0 A) (F0 m 0 ls []) := by
  obtain ⟨hx, hb, hr, hml, hown, hts, hlocks, hRf, hRl⟩ := id X
  unfold g_M_writeGiven at hG
  refine lv_iconst (v := (0 : Int32)) hx hb d_M_writeGiven_0 (by decide) ?_
  refine lv_istore_n (lv' := [(2, .int (0 : Int32)), (0, .ref adM), (1, .int v1)]) hx hb d_M_writeGiven_1 rfl hl (by decide) rfl (fun ls hl => ?_)
  exact k_M_writeGiven_2 X hA zz N N sM v1 (0 : Int32) _ hG adM adM_tape adM_frameAt adM_field adM_draft adM_given adM_low adM_high adM_packet adM_known _ _ hP hD hS _ (lv_sub hl [1, 2, 0] rfl)
set_option maxRecDepth 100000 in
set_option maxHeartbeats 4000000 in
theorem c_M_writeGiven (l : Launch) (dC : Nat → ClassId) (dI : Nat → Nat → Nat) (cB cI cL : ClassId) (sz : Nat) (adM adM_tape adM_frameAt adM_field adM_draft adM_given adM_low adM_high adM_packet adM_known : Nat) (N : Nat) (sM : zM) (v1 : Int32) (a : zM) (hG : g_M_writeGiven N sM v1 = some a) : Met l y_M_writeGiven (zw y_M_writeGiven b_M_writeGiven 3 none) ({ frames := 1, cells := 0, slots := 0, locals := 24 }) (va_Pc [.ref adM, .int v1] (zpre dC dI cB cI cL sz (zwM adM adM_tape adM_frameAt adM_field adM_draft adM_given adM_low adM_high adM_packet adM_known cB cI cL sM))) (q_M_writeGiven dC dI cB cI cL (va_A (zwM adM adM_tape adM_frameAt adM_field adM_draft adM_given adM_low adM_high adM_packet adM_known cB cI cL sM) sz) adM adM_tape adM_frameAt adM_field adM_draft adM_given adM_low adM_high adM_packet adM_known a) 0 0 (va_A (zwM adM adM_tape adM_frameAt adM_field adM_draft adM_given adM_low adM_high adM_packet adM_known cB cI cL sM) sz) := by
  refine Met.ofW (cc := b_M_writeGiven) (maxL := 3) (ret := none) (by decide) rfl ?_
  intro p e s m args below meth c s₁ B hml hv
  obtain ⟨rfl, hsz, hP, zz, hD0⟩ := hv
  subst hsz
  have X := zx_of (F := 1) (L := 24) B hml (Nat.le_refl _) (Nat.le_refl _)
  have hD := hD0.self (sz := s.heap.size)
  have hA : ∀ q : Nat, s.heap.size ≤ q → va_A (zwM adM adM_tape adM_frameAt adM_field adM_draft adM_given adM_low adM_high adM_packet adM_known cB cI cL sM) s.heap.size q := fun q h => Or.inr h
  have hl := lv_entry ([.ref adM, .int v1]) (n := 3) (Nat.le_of_ble_eq_true rfl)
  rw [lg_entry_eq]
  generalize (lg_sl ([.ref adM, .int v1]) ++ List.replicate (3 - (lg_sl ([.ref adM, .int v1])).length) Slot.unset).toArray = ls at hl ⊢
  exact k_M_writeGiven_0 X hA zz N sM v1 a hG adM adM_tape adM_frameAt adM_field adM_draft adM_given adM_low adM_high adM_packet adM_known _ _ hP hD va_S.rf ls hl
noncomputable def g_M_sizeOf_324 (N : Nat) (sM : zM) (s0 : Int32) : Option (Int32) := some (s0)
noncomputable def g_M_sizeOf_296 (N : Nat) (kr : zM → Int32 → Int32 → Int32 → Option (Int32)) (sM : zM) (v1 : Int32) (v3 : Int32) (s0 : Int32) (s1 : Int32) : Option (Int32) := kr sM v1 (s1 + s0) (v3 / (10 : Int32))
noncomputable def g_M_sizeOf_c293 (N : Nat) (kr : zM → Int32 → Int32 → Int32 → Option (Int32)) (sM : zM) (v1 : Int32) (v2 : Int32) (v3 : Int32) (r_293 : Int32) : Option (Int32) := g_M_sizeOf_296 N kr sM v1 v3 r_293 v2
noncomputable def g_M_sizeOf_c273 (N : Nat) (kr : zM → Int32 → Int32 → Int32 → Option (Int32)) (sM : zM) (v1 : Int32) (v2 : Int32) (v3 : Int32) (r_273 : Int32) : Option (Int32) := g_M_sizeOf_296 N kr sM v1 v3 (r_273 + (zM_gives sM)) v2
noncomputable def g_M_sizeOf_240_b (N : Nat) (kr : zM → Int32 → Int32 → Int32 → Option (Int32)) (sM : zM) (v1 : Int32) (v2 : Int32) (v3 : Int32) : Option (Int32) := if v3 ≤ (0 : Int32) then (if v1 = (24 : Int32) then (g_M_sizeOf_324 N sM ((v2 + (1 : Int32)) + (zM_gives sM))) else (g_M_sizeOf_324 N sM v2)) else (if (v3 - v3 / (10 : Int32) * (10 : Int32)) = (5 : Int32) then (g_M_sizeOf_296 N kr sM v1 v3 (8 : Int32) v2) else (if (v3 - v3 / (10 : Int32) * (10 : Int32)) = (4 : Int32) then ((g_M_needs ((zM_gives sM).toInt64)).bind (fun a => g_M_sizeOf_c273 N kr sM v1 v2 v3 a)) else (zg (vp_in ((v3 - v3 / (10 : Int32) * (10 : Int32)) - (1 : Int32)) 12) ((g_M_needs ((zM_draft sM) ((v3 - v3 / (10 : Int32) * (10 : Int32)) - (1 : Int32)).toNatClampNeg)).bind (fun a => g_M_sizeOf_c293 N kr sM v1 v2 v3 a)))))
noncomputable def g_M_sizeOf_240 (N : Nat) : Nat → zM → Int32 → Int32 → Int32 → Option (Int32)
  | 0 => fun _ _ _ _ => none
  | k + 1 => fun sM v1 v2 v3 => g_M_sizeOf_240_b N (g_M_sizeOf_240 N k) sM v1 v2 v3
noncomputable def g_M_sizeOf_c236 (N : Nat) (sM : zM) (v1 : Int32) (r_236 : Int32) : Option (Int32) := g_M_sizeOf_240 N N sM v1 (1 : Int32) r_236
noncomputable def g_M_sizeOf_226 (N : Nat) (sM : zM) (s0 : Int32) (s1 : Int32) : Option (Int32) := some ((s1 + s0) + (zM_gives sM))
noncomputable def g_M_sizeOf_c219 (N : Nat) (sM : zM) (s0 : Int32) (s1 : Int32) (r_219 : Int32) : Option (Int32) := g_M_sizeOf_226 N sM r_219 (s1 + s0)
noncomputable def g_M_sizeOf_202 (N : Nat) (sM : zM) (s0 : Int32) (s1 : Int32) : Option (Int32) := zg (vp_in (3 : Int32) 12) (if (lg_cmp ((zM_draft sM) (3 : Int32).toNatClampNeg) (1 : Int64)) = (0 : Int32) then ((g_M_needs ((zM_gives sM).toInt64)).bind (fun a => g_M_sizeOf_c219 N sM s0 s1 a)) else (g_M_sizeOf_226 N sM (0 : Int32) (s1 + s0)))
noncomputable def g_M_sizeOf_c199 (N : Nat) (sM : zM) (r_174 : Int32) (r_199 : Int32) : Option (Int32) := g_M_sizeOf_202 N sM r_199 ((1 : Int32) + r_174)
noncomputable def g_M_sizeOf_c174 (N : Nat) (sM : zM) (r_174 : Int32) : Option (Int32) := zg (vp_in (1 : Int32) 12) (if (lg_cmp ((zM_draft sM) (1 : Int32).toNatClampNeg) (0 : Int64)) = (0 : Int32) then (g_M_sizeOf_202 N sM (0 : Int32) ((1 : Int32) + r_174)) else (zg (vp_in (1 : Int32) 12) ((g_M_needs ((zM_draft sM) (1 : Int32).toNatClampNeg)).bind (fun a => g_M_sizeOf_c199 N sM r_174 a))))
noncomputable def g_M_sizeOf_159 (N : Nat) (sM : zM) (v2 : Int32) : Option (Int32) := some (v2)
noncomputable def g_M_sizeOf_c148 (kr : zM → Int32 → Int32 → Int32 → Option (Int32)) (sM : zM) (v1 : Int32) (v2 : Int32) (v3 : Int32) (r_148 : Int32) : Option (Int32) := kr sM v1 (v2 + r_148) (v3 + 1)
noncomputable def g_M_sizeOf_130_b (N : Nat) (kr : zM → Int32 → Int32 → Int32 → Option (Int32)) (sM : zM) (v1 : Int32) (v2 : Int32) (v3 : Int32) : Option (Int32) := if (12 : Int32) ≤ v3 then (g_M_sizeOf_159 N sM v2) else (if v1 = (3 : Int32) then (zg (vp_in v3 12) ((g_M_needs ((zM_draft sM) v3.toNatClampNeg)).bind (fun a => g_M_sizeOf_c148 kr sM v1 v2 v3 a))) else (g_M_sizeOf_159 N sM v2))
noncomputable def g_M_sizeOf_130 (N : Nat) : Nat → zM → Int32 → Int32 → Int32 → Option (Int32)
  | 0 => fun _ _ _ _ => none
  | k + 1 => fun sM v1 v2 v3 => g_M_sizeOf_130_b N (g_M_sizeOf_130 N k) sM v1 v2 v3
noncomputable def g_M_sizeOf_c115 (kr : zM → Int32 → Int32 → Int32 → Option (Int32)) (sM : zM) (v1 : Int32) (v2 : Int32) (v3 : Int32) (r_99 : Int32) (r_115 : Int32) : Option (Int32) := kr sM v1 (v2 + (r_99 + r_115)) (v3 + 1)
noncomputable def g_M_sizeOf_c99 (kr : zM → Int32 → Int32 → Int32 → Option (Int32)) (sM : zM) (v1 : Int32) (v2 : Int32) (v3 : Int32) (r_99 : Int32) : Option (Int32) := zg (vp_in v3 500) (zg (vp_in v3 500) ((g_M_needs (((zM_high sM) v3.toNatClampNeg) - ((zM_low sM) v3.toNatClampNeg))).bind (fun a => g_M_sizeOf_c115 kr sM v1 v2 v3 r_99 a)))
noncomputable def g_M_sizeOf_71_b (N : Nat) (kr : zM → Int32 → Int32 → Int32 → Option (Int32)) (sM : zM) (v1 : Int32) (v2 : Int32) (v3 : Int32) : Option (Int32) := if (zM_spans sM) ≤ v3 then (g_M_sizeOf_130 N N sM v1 v2 (9 : Int32)) else (zg (vp_in (v3 - (1 : Int32)) 500) (zg (vp_in v3 500) ((g_M_needs ((((zM_low sM) (v3 - (1 : Int32)).toNatClampNeg) - ((zM_high sM) v3.toNatClampNeg)) - (2 : Int64))).bind (fun a => g_M_sizeOf_c99 kr sM v1 v2 v3 a))))
noncomputable def g_M_sizeOf_71 (N : Nat) : Nat → zM → Int32 → Int32 → Int32 → Option (Int32)
  | 0 => fun _ _ _ _ => none
  | k + 1 => fun sM v1 v2 v3 => g_M_sizeOf_71_b N (g_M_sizeOf_71 N k) sM v1 v2 v3
noncomputable def g_M_sizeOf_c64 (N : Nat) (sM : zM) (v1 : Int32) (r_26 : Int32) (r_36 : Int32) (r_47 : Int32) (r_64 : Int32) : Option (Int32) := g_M_sizeOf_71 N N sM v1 (((((1 : Int32) + r_26) + r_36) + r_47) + r_64) (1 : Int32)
noncomputable def g_M_sizeOf_c47 (N : Nat) (sM : zM) (v1 : Int32) (r_26 : Int32) (r_36 : Int32) (r_47 : Int32) : Option (Int32) := zg (vp_in (0 : Int32) 500) (zg (vp_in (0 : Int32) 500) ((g_M_needs (((zM_high sM) (0 : Int32).toNatClampNeg) - ((zM_low sM) (0 : Int32).toNatClampNeg))).bind (fun a => g_M_sizeOf_c64 N sM v1 r_26 r_36 r_47 a)))
noncomputable def g_M_sizeOf_c36 (N : Nat) (sM : zM) (v1 : Int32) (r_26 : Int32) (r_36 : Int32) : Option (Int32) := (g_M_needs (((zM_spans sM).toInt64) - (1 : Int64))).bind (fun a => g_M_sizeOf_c47 N sM v1 r_26 r_36 a)
noncomputable def g_M_sizeOf_c26 (N : Nat) (sM : zM) (v1 : Int32) (r_26 : Int32) : Option (Int32) := zg (vp_in (1 : Int32) 12) ((g_M_needs ((zM_draft sM) (1 : Int32).toNatClampNeg)).bind (fun a => g_M_sizeOf_c36 N sM v1 r_26 a))
noncomputable def g_M_sizeOf_c13 (N : Nat) (sM : zM) (v1 : Int32) (r_13 : Int32) : Option (Int32) := if r_13 = (0 : Int32) then (if v1 = (8 : Int32) then (zg (vp_in (0 : Int32) 12) ((g_M_needs ((zM_draft sM) (0 : Int32).toNatClampNeg)).bind (fun a => g_M_sizeOf_c174 N sM a))) else ((g_M_fields v1).bind (fun a => g_M_sizeOf_c236 N sM v1 a))) else (zg (vp_in (0 : Int32) 500) ((g_M_needs ((zM_high sM) (0 : Int32).toNatClampNeg)).bind (fun a => g_M_sizeOf_c26 N sM v1 a)))
noncomputable def g_M_sizeOf (N : Nat) (sM : zM) (v1 : Int32) : Option (Int32) := if v1 = (0 : Int32) then (zg (vp_in (0 : Int32) 12) (some (((zM_draft sM) (0 : Int32).toNatClampNeg).toInt32))) else ((g_M_isAck v1).bind (fun a => g_M_sizeOf_c13 N sM v1 a))
def q_M_sizeOf (dC : Nat → ClassId) (dI : Nat → Nat → Nat) (cB cI cL : ClassId) (A : Nat → Prop) (adM : Nat) (adM_tape : Nat) (adM_frameAt : Nat) (adM_field : Nat) (adM_draft : Nat) (adM_given : Nat) (adM_low : Nat) (adM_high : Nat) (adM_packet : Nat) (adM_known : Nat) (sM : zM) (a : Int32) : Array Value → State → Outcome → State → Prop := va_Qi (fun (r : Int32) (u : Unit) => (r) = a) (fun u U => va_P (dC, dI) zcl (zwM adM adM_tape adM_frameAt adM_field adM_draft adM_given adM_low adM_high adM_packet adM_known cB cI cL sM) U.heap ∧ va_D A (zwM adM adM_tape adM_frameAt adM_field adM_draft adM_given adM_low adM_high adM_packet adM_known cB cI cL sM)) A
set_option maxRecDepth 100000 in
set_option maxHeartbeats 4000000 in
theorem k_M_sizeOf_324 {p : Program} {l : Launch} {e : Env} {R : Room} {s : State} {m : MethodId} {args : Array Value} {below : List Frame} {meth : Method} {c : Code} {dC : Nat → ClassId} {dI : Nat → Nat → Nat} {cB cI cL : ClassId} {A : Nat → Prop} (X : zx p s m args meth c R R_M b_M_sizeOf (some .int) 5 1 21) (hA : ∀ q, s.heap.size ≤ q → A q) (zz : zk dC dI cB cI cL A s)  (N : Nat) (sM : zM) (s0 : Int32) (a : Int32) (hG : g_M_sizeOf_324 N sM s0 = some a) (adM adM_tape adM_frameAt adM_field adM_draft adM_given adM_low adM_high adM_packet adM_known : Nat) (H : Heap) (locs : List Loc) (hP : va_P (dC, dI) zcl (zwM adM adM_tape adM_frameAt adM_field adM_draft adM_given adM_low adM_high adM_packet adM_known cB cI cL sM) H) (hD : va_D A (zwM adM adM_tape adM_frameAt adM_field adM_draft adM_given adM_low adM_high adM_packet adM_known cB cI cL sM)) (hS : va_S A s.heap H locs) (ls : Array Slot) (hl : lv_has ls 5 []) : W p l e R s m args below meth c H locs 0 0 (MQ below (q_M_sizeOf dC dI cB cI cL A adM adM_tape adM_frameAt adM_field adM_draft adM_given adM_low adM_high adM_packet adM_known sM a) args s 0 0 A) (F0 m 324 ls [.int s0]) := by
  obtain ⟨hx, hb, hr, hml, hown, hts, hlocks, hRf, hRl⟩ := id X
  unfold g_M_sizeOf_324 at hG
  exact W.iret (v := s0) hx hb hr (fun t9 ht9 hW9 => ⟨⟨s0, (), rfl, Option.some.inj hG, by rw [ht9]; exact hP, hD⟩, hS.F ht9⟩) hS.2.2 d_M_sizeOf_324
set_option maxRecDepth 100000 in
set_option maxHeartbeats 4000000 in
theorem k_M_sizeOf_296 {p : Program} {l : Launch} {e : Env} {R : Room} {s : State} {m : MethodId} {args : Array Value} {below : List Frame} {meth : Method} {c : Code} {dC : Nat → ClassId} {dI : Nat → Nat → Nat} {cB cI cL : ClassId} {A : Nat → Prop} (kr : zM → Int32 → Int32 → Int32 → Option (Int32)) (hrec : ∀ (sM : zM) (v1 : Int32) (v2 : Int32) (v3 : Int32) (a : Int32), kr sM v1 v2 v3 = some a → ∀ (adM adM_tape adM_frameAt adM_field adM_draft adM_given adM_low adM_high adM_packet adM_known : Nat) (H : Heap) (locs : List Loc), va_P (dC, dI) zcl (zwM adM adM_tape adM_frameAt adM_field adM_draft adM_given adM_low adM_high adM_packet adM_known cB cI cL sM) H → va_D A (zwM adM adM_tape adM_frameAt adM_field adM_draft adM_given adM_low adM_high adM_packet adM_known cB cI cL sM) → va_S A s.heap H locs → ∀ ls : Array Slot, lv_has ls 5 [(0, .ref adM), (1, .int v1), (2, .int v2), (3, .int v3)] → W p l e R s m args below meth c H locs 0 0 (MQ below (q_M_sizeOf dC dI cB cI cL A adM adM_tape adM_frameAt adM_field adM_draft adM_given adM_low adM_high adM_packet adM_known sM a) args s 0 0 A) (F0 m 240 ls [])) (X : zx p s m args meth c R R_M b_M_sizeOf (some .int) 5 1 21) (hA : ∀ q, s.heap.size ≤ q → A q) (zz : zk dC dI cB cI cL A s)  (N : Nat) (sM : zM) (v1 : Int32) (v3 : Int32) (s0 : Int32) (s1 : Int32) (a : Int32) (hG : g_M_sizeOf_296 N kr sM v1 v3 s0 s1 = some a) (adM adM_tape adM_frameAt adM_field adM_draft adM_given adM_low adM_high adM_packet adM_known : Nat) (H : Heap) (locs : List Loc) (hP : va_P (dC, dI) zcl (zwM adM adM_tape adM_frameAt adM_field adM_draft adM_given adM_low adM_high adM_packet adM_known cB cI cL sM) H) (hD : va_D A (zwM adM adM_tape adM_frameAt adM_field adM_draft adM_given adM_low adM_high adM_packet adM_known cB cI cL sM)) (hS : va_S A s.heap H locs) (ls : Array Slot) (hl : lv_has ls 5 [(0, .ref adM), (1, .int v1), (3, .int v3)]) : W p l e R s m args below meth c H locs 0 0 (MQ below (q_M_sizeOf dC dI cB cI cL A adM adM_tape adM_frameAt adM_field adM_draft adM_given adM_low adM_high adM_packet adM_known sM a) args s 0 0 A) (F0 m 296 ls [.int s0, .int s1]) := by
  obtain ⟨hx, hb, hr, hml, hown, hts, hlocks, hRf, hRl⟩ := id X
  unfold g_M_sizeOf_296 at hG
  refine lv_iadd hx hb d_M_sizeOf_296 ?_
  refine lv_istore_n (lv' := [(2, .int (s1 + s0)), (0, .ref adM), (1, .int v1), (3, .int v3)]) hx hb d_M_sizeOf_297 rfl hl (by decide) rfl (fun ls hl => ?_)
  refine lv_iload_n hx hb d_M_sizeOf_298 rfl (lv_at hl 3 rfl) ?_
  refine lv_bipush (v := (10 : Int32)) hx hb d_M_sizeOf_299 (by decide) ?_
  refine lv_idiv hx hb d_M_sizeOf_301 (by decide) ?_
  refine lv_istore_n (lv' := [(3, .int (v3 / (10 : Int32))), (2, .int (s1 + s0)), (0, .ref adM), (1, .int v1)]) hx hb d_M_sizeOf_302 rfl hl (by decide) rfl (fun ls hl => ?_)
  refine lv_goto (tgt := 240) hx hb d_M_sizeOf_303 (by decide) ?_
  exact hrec sM v1 (s1 + s0) (v3 / (10 : Int32)) _ hG adM adM_tape adM_frameAt adM_field adM_draft adM_given adM_low adM_high adM_packet adM_known _ _ hP hD hS _ (lv_sub hl [2, 3, 1, 0] rfl)
set_option maxRecDepth 100000 in
set_option maxHeartbeats 4000000 in
theorem k_M_sizeOf_240_b {p : Program} {l : Launch} {e : Env} {R : Room} {s : State} {m : MethodId} {args : Array Value} {below : List Frame} {meth : Method} {c : Code} {dC : Nat → ClassId} {dI : Nat → Nat → Nat} {cB cI cL : ClassId} {A : Nat → Prop} (kr : zM → Int32 → Int32 → Int32 → Option (Int32)) (hrec : ∀ (sM : zM) (v1 : Int32) (v2 : Int32) (v3 : Int32) (a : Int32), kr sM v1 v2 v3 = some a → ∀ (adM adM_tape adM_frameAt adM_field adM_draft adM_given adM_low adM_high adM_packet adM_known : Nat) (H : Heap) (locs : List Loc), va_P (dC, dI) zcl (zwM adM adM_tape adM_frameAt adM_field adM_draft adM_given adM_low adM_high adM_packet adM_known cB cI cL sM) H → va_D A (zwM adM adM_tape adM_frameAt adM_field adM_draft adM_given adM_low adM_high adM_packet adM_known cB cI cL sM) → va_S A s.heap H locs → ∀ ls : Array Slot, lv_has ls 5 [(0, .ref adM), (1, .int v1), (2, .int v2), (3, .int v3)] → W p l e R s m args below meth c H locs 0 0 (MQ below (q_M_sizeOf dC dI cB cI cL A adM adM_tape adM_frameAt adM_field adM_draft adM_given adM_low adM_high adM_packet adM_known sM a) args s 0 0 A) (F0 m 240 ls [])) (X : zx p s m args meth c R R_M b_M_sizeOf (some .int) 5 1 21) (hA : ∀ q, s.heap.size ≤ q → A q) (zz : zk dC dI cB cI cL A s)  (N : Nat) (sM : zM) (v1 : Int32) (v2 : Int32) (v3 : Int32) (a : Int32) (hG : g_M_sizeOf_240_b N kr sM v1 v2 v3 = some a) (adM adM_tape adM_frameAt adM_field adM_draft adM_given adM_low adM_high adM_packet adM_known : Nat) (H : Heap) (locs : List Loc) (hP : va_P (dC, dI) zcl (zwM adM adM_tape adM_frameAt adM_field adM_draft adM_given adM_low adM_high adM_packet adM_known cB cI cL sM) H) (hD : va_D A (zwM adM adM_tape adM_frameAt adM_field adM_draft adM_given adM_low adM_high adM_packet adM_known cB cI cL sM)) (hS : va_S A s.heap H locs) (ls : Array Slot) (hl : lv_has ls 5 [(0, .ref adM), (1, .int v1), (2, .int v2), (3, .int v3)]) : W p l e R s m args below meth c H locs 0 0 (MQ below (q_M_sizeOf dC dI cB cI cL A adM adM_tape adM_frameAt adM_field adM_draft adM_given adM_low adM_high adM_packet adM_known sM a) args s 0 0 A) (F0 m 240 ls []) := by
  obtain ⟨hx, hb, hr, hml, hown, hts, hlocks, hRf, hRl⟩ := id X
  unfold g_M_sizeOf_240_b at hG
  refine lv_iload_n hx hb d_M_sizeOf_240 rfl (lv_at hl 3 rfl) ?_
  refine lv_if_le (tgt := 306) hx hb d_M_sizeOf_241 (by decide) (fun hc => ?_) (fun hc => ?_)
  · have hG := zt hG hc
    refine lv_iload_n hx hb d_M_sizeOf_306 rfl (lv_at hl 1 rfl) ?_
    refine lv_bipush (v := (24 : Int32)) hx hb d_M_sizeOf_307 (by decide) ?_
    refine lv_icmp_ne (tgt := 323) hx hb d_M_sizeOf_309 (by decide) (fun hc => ?_) (fun hc => ?_)
    · have hG := zf hG hc
      refine lv_iload_n hx hb d_M_sizeOf_323 rfl (lv_at hl 2 rfl) ?_
      exact k_M_sizeOf_324 X hA zz N sM v2 _ hG adM adM_tape adM_frameAt adM_field adM_draft adM_given adM_low adM_high adM_packet adM_known _ _ hP hD hS _ (lv_sub hl [] rfl)
    · have hG := zt hG hc
      refine lv_iload_n hx hb d_M_sizeOf_312 rfl (lv_at hl 2 rfl) ?_
      refine lv_iconst (v := (1 : Int32)) hx hb d_M_sizeOf_313 (by decide) ?_
      refine lv_iadd hx hb d_M_sizeOf_314 ?_
      refine lv_aload_n hx hb d_M_sizeOf_315 rfl (lv_at hl 0 rfl) ?_
      refine va_get (D := (dC, dI)) (ci := 8) (v := .int (zM_gives sM)) (C := R_M) (T := F_M) (N := 26) hx hb hts zi_M hown zz.1 hP 0 rfl rfl 19 (by decide) (hts (.fieldLink R_M 211 "WireCodecModel" "gives" "I") zin_M_211) (fun _ h9 => h9) rfl d_M_sizeOf_316 ?_
      refine lv_iadd hx hb d_M_sizeOf_319 ?_
      refine lv_goto (tgt := 324) hx hb d_M_sizeOf_320 (by decide) ?_
      exact k_M_sizeOf_324 X hA zz N sM ((v2 + (1 : Int32)) + (zM_gives sM)) _ hG adM adM_tape adM_frameAt adM_field adM_draft adM_given adM_low adM_high adM_packet adM_known _ _ hP hD hS _ (lv_sub hl [] rfl)
  · have hG := zf hG hc
    refine lv_iload_n hx hb d_M_sizeOf_244 rfl (lv_at hl 3 rfl) ?_
    refine lv_bipush (v := (10 : Int32)) hx hb d_M_sizeOf_245 (by decide) ?_
    refine lv_irem hx hb d_M_sizeOf_247 (by decide) ?_
    refine lv_istore (lv' := [(4, .int (v3 - v3 / (10 : Int32) * (10 : Int32))), (0, .ref adM), (1, .int v1), (2, .int v2), (3, .int v3)]) hx hb d_M_sizeOf_248 hl (by decide) rfl (fun ls hl => ?_)
    refine lv_iload_n hx hb d_M_sizeOf_250 rfl (lv_at hl 3 rfl) ?_
    refine lv_iload hx hb d_M_sizeOf_251 (lv_at hl 0 rfl) ?_
    refine lv_iconst (v := (5 : Int32)) hx hb d_M_sizeOf_253 (by decide) ?_
    refine lv_icmp_ne (tgt := 262) hx hb d_M_sizeOf_254 (by decide) (fun hc => ?_) (fun hc => ?_)
    · have hG := zf hG hc
      refine lv_iload hx hb d_M_sizeOf_262 (lv_at hl 0 rfl) ?_
      refine lv_iconst (v := (4 : Int32)) hx hb d_M_sizeOf_264 (by decide) ?_
      refine lv_icmp_ne (tgt := 284) hx hb d_M_sizeOf_265 (by decide) (fun hc => ?_) (fun hc => ?_)
      · have hG := zf hG hc
        refine lv_aload_n hx hb d_M_sizeOf_284 rfl (lv_at hl 1 rfl) ?_
        refine va_get (D := (dC, dI)) (ci := 8) (v := .ref adM_draft) (C := R_M) (T := F_M) (N := 26) hx hb hts zi_M hown zz.1 hP 0 rfl rfl 17 (by decide) (hts (.fieldLink R_M 26 "WireCodecModel" "draft" "[J") zin_M_26) (fun _ h9 => h9) rfl d_M_sizeOf_285 ?_
        refine lv_iload hx hb d_M_sizeOf_288 (lv_at hl 0 rfl) ?_
        refine lv_iconst (v := (1 : Int32)) hx hb d_M_sizeOf_290 (by decide) ?_
        refine lv_isub hx hb d_M_sizeOf_291 ?_
        obtain ⟨hin, hG⟩ := zgd hG
        refine va_lald hx hb zz.1 hP 4 2 rfl rfl hin d_M_sizeOf_292 ?_
        obtain ⟨a_293, hx_293, hG⟩ := zb hG
        have hr_293 := zrunS (p := p) (e := e) (below := below) (meth := meth) (As := [.long ((zM_draft sM) ((v3 - v3 / (10 : Int32) * (10 : Int32)) - (1 : Int32)).toNatClampNeg)]) (rest := [.int v2]) (st0 := [.long ((zM_draft sM) ((v3 - v3 / (10 : Int32) * (10 : Int32)) - (1 : Int32)).toNatClampNeg), .int v2]) (cells := 0) (slots := 0) X zz hP hD hS hA [] (by decide) rfl (c_M_needs l dC dI cB cI cL H.size ((zM_draft sM) ((v3 - v3 / (10 : Int32) * (10 : Int32)) - (1 : Int32)).toNatClampNeg) _ hx_293) zy_M_needs zv_M_needs (hts (.methodLink R_M 84 y_M_needs) zin_M_84) hl rfl rfl d_M_sizeOf_293 (lv_room (Nat.le_of_ble_eq_true rfl)) rfl rfl ⟨Nat.le_trans (Nat.le_of_ble_eq_true rfl) hRf, Nat.le_trans (Nat.le_of_ble_eq_true rfl) hRl⟩ ⟨Nat.zero_le _, Nat.zero_le _⟩
        refine zcalli (wr := (zwM adM adM_tape adM_frameAt adM_field adM_draft adM_given adM_low adM_high adM_packet adM_known cB cI cL sM)) hr_293 hP hD hS hA [] [0, 1, 2, 3, 4, 5, 6, 7, 8, 9] rfl rfl (by decide) (by decide) (fun r_293 u_293 H locs hw_293 hP hD hS => ?_)
        subst hw_293
        have hP : va_P (dC, dI) zcl (zwM adM adM_tape adM_frameAt adM_field adM_draft adM_given adM_low adM_high adM_packet adM_known cB cI cL sM) H := hP
        have hD : va_D A (zwM adM adM_tape adM_frameAt adM_field adM_draft adM_given adM_low adM_high adM_packet adM_known cB cI cL sM) := hD
        have hG : g_M_sizeOf_c293 N kr sM v1 v2 v3 r_293 = some a := hG
        unfold g_M_sizeOf_c293 at hG
        exact k_M_sizeOf_296 kr hrec X hA zz N sM v1 v3 r_293 v2 _ hG adM adM_tape adM_frameAt adM_field adM_draft adM_given adM_low adM_high adM_packet adM_known _ _ hP hD hS _ (lv_sub hl [1, 2, 4] rfl)
      · have hG := zt hG hc
        refine lv_aload_n hx hb d_M_sizeOf_268 rfl (lv_at hl 1 rfl) ?_
        refine va_get (D := (dC, dI)) (ci := 8) (v := .int (zM_gives sM)) (C := R_M) (T := F_M) (N := 26) hx hb hts zi_M hown zz.1 hP 0 rfl rfl 19 (by decide) (hts (.fieldLink R_M 211 "WireCodecModel" "gives" "I") zin_M_211) (fun _ h9 => h9) rfl d_M_sizeOf_269 ?_
        refine lv_i2l hx hb d_M_sizeOf_272 rfl ?_
        obtain ⟨a_273, hx_273, hG⟩ := zb hG
        have hr_273 := zrunS (p := p) (e := e) (below := below) (meth := meth) (As := [.long ((zM_gives sM).toInt64)]) (rest := [.int v2]) (st0 := [.long ((zM_gives sM).toInt64), .int v2]) (cells := 0) (slots := 0) X zz hP hD hS hA [] (by decide) rfl (c_M_needs l dC dI cB cI cL H.size ((zM_gives sM).toInt64) _ hx_273) zy_M_needs zv_M_needs (hts (.methodLink R_M 84 y_M_needs) zin_M_84) hl rfl rfl d_M_sizeOf_273 (lv_room (Nat.le_of_ble_eq_true rfl)) rfl rfl ⟨Nat.le_trans (Nat.le_of_ble_eq_true rfl) hRf, Nat.le_trans (Nat.le_of_ble_eq_true rfl) hRl⟩ ⟨Nat.zero_le _, Nat.zero_le _⟩
        refine zcalli (wr := (zwM adM adM_tape adM_frameAt adM_field adM_draft adM_given adM_low adM_high adM_packet adM_known cB cI cL sM)) hr_273 hP hD hS hA [] [0, 1, 2, 3, 4, 5, 6, 7, 8, 9] rfl rfl (by decide) (by decide) (fun r_273 u_273 H locs hw_273 hP hD hS => ?_)
        subst hw_273
        have hP : va_P (dC, dI) zcl (zwM adM adM_tape adM_frameAt adM_field adM_draft adM_given adM_low adM_high adM_packet adM_known cB cI cL sM) H := hP
        have hD : va_D A (zwM adM adM_tape adM_frameAt adM_field adM_draft adM_given adM_low adM_high adM_packet adM_known cB cI cL sM) := hD
        have hG : g_M_sizeOf_c273 N kr sM v1 v2 v3 r_273 = some a := hG
        unfold g_M_sizeOf_c273 at hG
        refine lv_aload_n hx hb d_M_sizeOf_276 rfl (lv_at hl 1 rfl) ?_
        refine va_get (D := (dC, dI)) (ci := 8) (v := .int (zM_gives sM)) (C := R_M) (T := F_M) (N := 26) hx hb hts zi_M hown zz.1 hP 0 rfl rfl 19 (by decide) (hts (.fieldLink R_M 211 "WireCodecModel" "gives" "I") zin_M_211) (fun _ h9 => h9) rfl d_M_sizeOf_277 ?_
        refine lv_iadd hx hb d_M_sizeOf_280 ?_
        refine lv_goto (tgt := 296) hx hb d_M_sizeOf_281 (by decide) ?_
        exact k_M_sizeOf_296 kr hrec X hA zz N sM v1 v3 (r_273 + (zM_gives sM)) v2 _ hG adM adM_tape adM_frameAt adM_field adM_draft adM_given adM_low adM_high adM_packet adM_known _ _ hP hD hS _ (lv_sub hl [1, 2, 4] rfl)
    · have hG := zt hG hc
      refine lv_bipush (v := (8 : Int32)) hx hb d_M_sizeOf_257 (by decide) ?_
      refine lv_goto (tgt := 296) hx hb d_M_sizeOf_259 (by decide) ?_
      exact k_M_sizeOf_296 kr hrec X hA zz N sM v1 v3 (8 : Int32) v2 _ hG adM adM_tape adM_frameAt adM_field adM_draft adM_given adM_low adM_high adM_packet adM_known _ _ hP hD hS _ (lv_sub hl [1, 2, 4] rfl)
theorem k_M_sizeOf_240 {p : Program} {l : Launch} {e : Env} {R : Room} {s : State} {m : MethodId} {args : Array Value} {below : List Frame} {meth : Method} {c : Code} {dC : Nat → ClassId} {dI : Nat → Nat → Nat} {cB cI cL : ClassId} {A : Nat → Prop} (X : zx p s m args meth c R R_M b_M_sizeOf (some .int) 5 1 21) (hA : ∀ q, s.heap.size ≤ q → A q) (zz : zk dC dI cB cI cL A s)  (N : Nat) : ∀ (k : Nat) (sM : zM) (v1 : Int32) (v2 : Int32) (v3 : Int32) (a : Int32) (hG : g_M_sizeOf_240 N k sM v1 v2 v3 = some a) (adM adM_tape adM_frameAt adM_field adM_draft adM_given adM_low adM_high adM_packet adM_known : Nat) (H : Heap) (locs : List Loc) (hP : va_P (dC, dI) zcl (zwM adM adM_tape adM_frameAt adM_field adM_draft adM_given adM_low adM_high adM_packet adM_known cB cI cL sM) H) (hD : va_D A (zwM adM adM_tape adM_frameAt adM_field adM_draft adM_given adM_low adM_high adM_packet adM_known cB cI cL sM)) (hS : va_S A s.heap H locs) (ls : Array Slot) (hl : lv_has ls 5 [(0, .ref adM), (1, .int v1), (2, .int v2), (3, .int v3)]), W p l e R s m args below meth c H locs 0 0 (MQ below (q_M_sizeOf dC dI cB cI cL A adM adM_tape adM_frameAt adM_field adM_draft adM_given adM_low adM_high adM_packet adM_known sM a) args s 0 0 A) (F0 m 240 ls []) := by
  intro k
  induction k with
  | zero => intro sM v1 v2 v3 a hG; exact absurd hG (by unfold g_M_sizeOf_240; simp)
  | succ k ih => intro sM v1 v2 v3 a hG adM adM_tape adM_frameAt adM_field adM_draft adM_given adM_low adM_high adM_packet adM_known H locs hP hD hS ls hl; exact k_M_sizeOf_240_b _ ih X hA zz N sM v1 v2 v3 a hG adM adM_tape adM_frameAt adM_field adM_draft adM_given adM_low adM_high adM_packet adM_known H locs hP hD hS ls hl
set_option maxRecDepth 100000 in
set_option maxHeartbeats 4000000 in
theorem k_M_sizeOf_226 {p : Program} {l : Launch} {e : Env} {R : Room} {s : State} {m : MethodId} {args : Array Value} {below : List Frame} {meth : Method} {c : Code} {dC : Nat → ClassId} {dI : Nat → Nat → Nat} {cB cI cL : ClassId} {A : Nat → Prop} (X : zx p s m args meth c R R_M b_M_sizeOf (some .int) 5 1 21) (hA : ∀ q, s.heap.size ≤ q → A q) (zz : zk dC dI cB cI cL A s)  (N : Nat) (sM : zM) (s0 : Int32) (s1 : Int32) (a : Int32) (hG : g_M_sizeOf_226 N sM s0 s1 = some a) (adM adM_tape adM_frameAt adM_field adM_draft adM_given adM_low adM_high adM_packet adM_known : Nat) (H : Heap) (locs : List Loc) (hP : va_P (dC, dI) zcl (zwM adM adM_tape adM_frameAt adM_field adM_draft adM_given adM_low adM_high adM_packet adM_known cB cI cL sM) H) (hD : va_D A (zwM adM adM_tape adM_frameAt adM_field adM_draft adM_given adM_low adM_high adM_packet adM_known cB cI cL sM)) (hS : va_S A s.heap H locs) (ls : Array Slot) (hl : lv_has ls 5 [(0, .ref adM)]) : W p l e R s m args below meth c H locs 0 0 (MQ below (q_M_sizeOf dC dI cB cI cL A adM adM_tape adM_frameAt adM_field adM_draft adM_given adM_low adM_high adM_packet adM_known sM a) args s 0 0 A) (F0 m 226 ls [.int s0, .int s1]) := by
  obtain ⟨hx, hb, hr, hml, hown, hts, hlocks, hRf, hRl⟩ := id X
  unfold g_M_sizeOf_226 at hG
  refine lv_iadd hx hb d_M_sizeOf_226 ?_
  refine lv_aload_n hx hb d_M_sizeOf_227 rfl (lv_at hl 0 rfl) ?_
  refine va_get (D := (dC, dI)) (ci := 8) (v := .int (zM_gives sM)) (C := R_M) (T := F_M) (N := 26) hx hb hts zi_M hown zz.1 hP 0 rfl rfl 19 (by decide) (hts (.fieldLink R_M 211 "WireCodecModel" "gives" "I") zin_M_211) (fun _ h9 => h9) rfl d_M_sizeOf_228 ?_
  refine lv_iadd hx hb d_M_sizeOf_231 ?_
  exact W.iret (v := (s1 + s0) + (zM_gives sM)) hx hb hr (fun t9 ht9 hW9 => ⟨⟨(s1 + s0) + (zM_gives sM), (), rfl, Option.some.inj hG, by rw [ht9]; exact hP, hD⟩, hS.F ht9⟩) hS.2.2 d_M_sizeOf_232
set_option maxRecDepth 100000 in
set_option maxHeartbeats 4000000 in
theorem k_M_sizeOf_202 {p : Program} {l : Launch} {e : Env} {R : Room} {s : State} {m : MethodId} {args : Array Value} {below : List Frame} {meth : Method} {c : Code} {dC : Nat → ClassId} {dI : Nat → Nat → Nat} {cB cI cL : ClassId} {A : Nat → Prop} (X : zx p s m args meth c R R_M b_M_sizeOf (some .int) 5 1 21) (hA : ∀ q, s.heap.size ≤ q → A q) (zz : zk dC dI cB cI cL A s)  (N : Nat) (sM : zM) (s0 : Int32) (s1 : Int32) (a : Int32) (hG : g_M_sizeOf_202 N sM s0 s1 = some a) (adM adM_tape adM_frameAt adM_field adM_draft adM_given adM_low adM_high adM_packet adM_known : Nat) (H : Heap) (locs : List Loc) (hP : va_P (dC, dI) zcl (zwM adM adM_tape adM_frameAt adM_field adM_draft adM_given adM_low adM_high adM_packet adM_known cB cI cL sM) H) (hD : va_D A (zwM adM adM_tape adM_frameAt adM_field adM_draft adM_given adM_low adM_high adM_packet adM_known cB cI cL sM)) (hS : va_S A s.heap H locs) (ls : Array Slot) (hl : lv_has ls 5 [(0, .ref adM)]) : W p l e R s m args below meth c H locs 0 0 (MQ below (q_M_sizeOf dC dI cB cI cL A adM adM_tape adM_frameAt adM_field adM_draft adM_given adM_low adM_high adM_packet adM_known sM a) args s 0 0 A) (F0 m 202 ls [.int s0, .int s1]) := by
  obtain ⟨hx, hb, hr, hml, hown, hts, hlocks, hRf, hRl⟩ := id X
  unfold g_M_sizeOf_202 at hG
  refine lv_iadd hx hb d_M_sizeOf_202 ?_
  refine lv_aload_n hx hb d_M_sizeOf_203 rfl (lv_at hl 0 rfl) ?_
  refine va_get (D := (dC, dI)) (ci := 8) (v := .ref adM_draft) (C := R_M) (T := F_M) (N := 26) hx hb hts zi_M hown zz.1 hP 0 rfl rfl 17 (by decide) (hts (.fieldLink R_M 26 "WireCodecModel" "draft" "[J") zin_M_26) (fun _ h9 => h9) rfl d_M_sizeOf_204 ?_
  refine lv_iconst (v := (3 : Int32)) hx hb d_M_sizeOf_207 (by decide) ?_
  obtain ⟨hin, hG⟩ := zgd hG
  refine va_lald hx hb zz.1 hP 4 2 rfl rfl hin d_M_sizeOf_208 ?_
  refine lv_lconst (v := (1 : Int64)) hx hb d_M_sizeOf_209 (by decide) ?_
  refine W.lcmp hx hb d_M_sizeOf_210 ?_
  refine lv_if_ne (tgt := 225) hx hb d_M_sizeOf_211 (by decide) (fun hc => ?_) (fun hc => ?_)
  · have hG := zf hG hc
    refine lv_iconst (v := (0 : Int32)) hx hb d_M_sizeOf_225 (by decide) ?_
    exact k_M_sizeOf_226 X hA zz N sM (0 : Int32) (s1 + s0) _ hG adM adM_tape adM_frameAt adM_field adM_draft adM_given adM_low adM_high adM_packet adM_known _ _ hP hD hS _ (lv_sub hl [0] rfl)
  · have hG := zt hG hc
    refine lv_aload_n hx hb d_M_sizeOf_214 rfl (lv_at hl 0 rfl) ?_
    refine va_get (D := (dC, dI)) (ci := 8) (v := .int (zM_gives sM)) (C := R_M) (T := F_M) (N := 26) hx hb hts zi_M hown zz.1 hP 0 rfl rfl 19 (by decide) (hts (.fieldLink R_M 211 "WireCodecModel" "gives" "I") zin_M_211) (fun _ h9 => h9) rfl d_M_sizeOf_215 ?_
    refine lv_i2l hx hb d_M_sizeOf_218 rfl ?_
    obtain ⟨a_219, hx_219, hG⟩ := zb hG
    have hr_219 := zrunS (p := p) (e := e) (below := below) (meth := meth) (As := [.long ((zM_gives sM).toInt64)]) (rest := [.int (s1 + s0)]) (st0 := [.long ((zM_gives sM).toInt64), .int (s1 + s0)]) (cells := 0) (slots := 0) X zz hP hD hS hA [] (by decide) rfl (c_M_needs l dC dI cB cI cL H.size ((zM_gives sM).toInt64) _ hx_219) zy_M_needs zv_M_needs (hts (.methodLink R_M 84 y_M_needs) zin_M_84) hl rfl rfl d_M_sizeOf_219 (lv_room (Nat.le_of_ble_eq_true rfl)) rfl rfl ⟨Nat.le_trans (Nat.le_of_ble_eq_true rfl) hRf, Nat.le_trans (Nat.le_of_ble_eq_true rfl) hRl⟩ ⟨Nat.zero_le _, Nat.zero_le _⟩
    refine zcalli (wr := (zwM adM adM_tape adM_frameAt adM_field adM_draft adM_given adM_low adM_high adM_packet adM_known cB cI cL sM)) hr_219 hP hD hS hA [] [0, 1, 2, 3, 4, 5, 6, 7, 8, 9] rfl rfl (by decide) (by decide) (fun r_219 u_219 H locs hw_219 hP hD hS => ?_)
    subst hw_219
    have hP : va_P (dC, dI) zcl (zwM adM adM_tape adM_frameAt adM_field adM_draft adM_given adM_low adM_high adM_packet adM_known cB cI cL sM) H := hP
    have hD : va_D A (zwM adM adM_tape adM_frameAt adM_field adM_draft adM_given adM_low adM_high adM_packet adM_known cB cI cL sM) := hD
    have hG : g_M_sizeOf_c219 N sM s0 s1 r_219 = some a := hG
    unfold g_M_sizeOf_c219 at hG
    refine lv_goto (tgt := 226) hx hb d_M_sizeOf_222 (by decide) ?_
    exact k_M_sizeOf_226 X hA zz N sM r_219 (s1 + s0) _ hG adM adM_tape adM_frameAt adM_field adM_draft adM_given adM_low adM_high adM_packet adM_known _ _ hP hD hS _ (lv_sub hl [0] rfl)
set_option maxRecDepth 100000 in
set_option maxHeartbeats 4000000 in
theorem k_M_sizeOf_159 {p : Program} {l : Launch} {e : Env} {R : Room} {s : State} {m : MethodId} {args : Array Value} {below : List Frame} {meth : Method} {c : Code} {dC : Nat → ClassId} {dI : Nat → Nat → Nat} {cB cI cL : ClassId} {A : Nat → Prop} (X : zx p s m args meth c R R_M b_M_sizeOf (some .int) 5 1 21) (hA : ∀ q, s.heap.size ≤ q → A q) (zz : zk dC dI cB cI cL A s)  (N : Nat) (sM : zM) (v2 : Int32) (a : Int32) (hG : g_M_sizeOf_159 N sM v2 = some a) (adM adM_tape adM_frameAt adM_field adM_draft adM_given adM_low adM_high adM_packet adM_known : Nat) (H : Heap) (locs : List Loc) (hP : va_P (dC, dI) zcl (zwM adM adM_tape adM_frameAt adM_field adM_draft adM_given adM_low adM_high adM_packet adM_known cB cI cL sM) H) (hD : va_D A (zwM adM adM_tape adM_frameAt adM_field adM_draft adM_given adM_low adM_high adM_packet adM_known cB cI cL sM)) (hS : va_S A s.heap H locs) (ls : Array Slot) (hl : lv_has ls 5 [(2, .int v2)]) : W p l e R s m args below meth c H locs 0 0 (MQ below (q_M_sizeOf dC dI cB cI cL A adM adM_tape adM_frameAt adM_field adM_draft adM_given adM_low adM_high adM_packet adM_known sM a) args s 0 0 A) (F0 m 159 ls []) := by
  obtain ⟨hx, hb, hr, hml, hown, hts, hlocks, hRf, hRl⟩ := id X
  unfold g_M_sizeOf_159 at hG
  refine lv_iload_n hx hb d_M_sizeOf_159 rfl (lv_at hl 0 rfl) ?_
  exact W.iret (v := v2) hx hb hr (fun t9 ht9 hW9 => ⟨⟨v2, (), rfl, Option.some.inj hG, by rw [ht9]; exact hP, hD⟩, hS.F ht9⟩) hS.2.2 d_M_sizeOf_160
set_option maxRecDepth 100000 in
set_option maxHeartbeats 4000000 in
theorem k_M_sizeOf_130_b {p : Program} {l : Launch} {e : Env} {R : Room} {s : State} {m : MethodId} {args : Array Value} {below : List Frame} {meth : Method} {c : Code} {dC : Nat → ClassId} {dI : Nat → Nat → Nat} {cB cI cL : ClassId} {A : Nat → Prop} (kr : zM → Int32 → Int32 → Int32 → Option (Int32)) (hrec : ∀ (sM : zM) (v1 : Int32) (v2 : Int32) (v3 : Int32) (a : Int32), kr sM v1 v2 v3 = some a → ∀ (adM adM_tape adM_frameAt adM_field adM_draft adM_given adM_low adM_high adM_packet adM_known : Nat) (H : Heap) (locs : List Loc), va_P (dC, dI) zcl (zwM adM adM_tape adM_frameAt adM_field adM_draft adM_given adM_low adM_high adM_packet adM_known cB cI cL sM) H → va_D A (zwM adM adM_tape adM_frameAt adM_field adM_draft adM_given adM_low adM_high adM_packet adM_known cB cI cL sM) → va_S A s.heap H locs → ∀ ls : Array Slot, lv_has ls 5 [(0, .ref adM), (1, .int v1), (2, .int v2), (3, .int v3)] → W p l e R s m args below meth c H locs 0 0 (MQ below (q_M_sizeOf dC dI cB cI cL A adM adM_tape adM_frameAt adM_field adM_draft adM_given adM_low adM_high adM_packet adM_known sM a) args s 0 0 A) (F0 m 130 ls [])) (X : zx p s m args meth c R R_M b_M_sizeOf (some .int) 5 1 21) (hA : ∀ q, s.heap.size ≤ q → A q) (zz : zk dC dI cB cI cL A s)  (N : Nat) (sM : zM) (v1 : Int32) (v2 : Int32) (v3 : Int32) (a : Int32) (hG : g_M_sizeOf_130_b N kr sM v1 v2 v3 = some a) (adM adM_tape adM_frameAt adM_field adM_draft adM_given adM_low adM_high adM_packet adM_known : Nat) (H : Heap) (locs : List Loc) (hP : va_P (dC, dI) zcl (zwM adM adM_tape adM_frameAt adM_field adM_draft adM_given adM_low adM_high adM_packet adM_known cB cI cL sM) H) (hD : va_D A (zwM adM adM_tape adM_frameAt adM_field adM_draft adM_given adM_low adM_high adM_packet adM_known cB cI cL sM)) (hS : va_S A s.heap H locs) (ls : Array Slot) (hl : lv_has ls 5 [(0, .ref adM), (1, .int v1), (2, .int v2), (3, .int v3)]) : W p l e R s m args below meth c H locs 0 0 (MQ below (q_M_sizeOf dC dI cB cI cL A adM adM_tape adM_frameAt adM_field adM_draft adM_given adM_low adM_high adM_packet adM_known sM a) args s 0 0 A) (F0 m 130 ls []) := by
  obtain ⟨hx, hb, hr, hml, hown, hts, hlocks, hRf, hRl⟩ := id X
  unfold g_M_sizeOf_130_b at hG
  refine lv_iload_n hx hb d_M_sizeOf_130 rfl (lv_at hl 3 rfl) ?_
  refine lv_bipush (v := (12 : Int32)) hx hb d_M_sizeOf_131 (by decide) ?_
  refine lv_icmp_ge (tgt := 159) hx hb d_M_sizeOf_133 (by decide) (fun hc => ?_) (fun hc => ?_)
  · have hG := zt hG hc
    exact k_M_sizeOf_159 X hA zz N sM v2 _ hG adM adM_tape adM_frameAt adM_field adM_draft adM_given adM_low adM_high adM_packet adM_known _ _ hP hD hS _ (lv_sub hl [2] rfl)
  · have hG := zf hG hc
    refine lv_iload_n hx hb d_M_sizeOf_136 rfl (lv_at hl 1 rfl) ?_
    refine lv_iconst (v := (3 : Int32)) hx hb d_M_sizeOf_137 (by decide) ?_
    refine lv_icmp_ne (tgt := 159) hx hb d_M_sizeOf_138 (by decide) (fun hc => ?_) (fun hc => ?_)
    · have hG := zf hG hc
      exact k_M_sizeOf_159 X hA zz N sM v2 _ hG adM adM_tape adM_frameAt adM_field adM_draft adM_given adM_low adM_high adM_packet adM_known _ _ hP hD hS _ (lv_sub hl [2] rfl)
    · have hG := zt hG hc
      refine lv_iload_n hx hb d_M_sizeOf_141 rfl (lv_at hl 2 rfl) ?_
      refine lv_aload_n hx hb d_M_sizeOf_142 rfl (lv_at hl 0 rfl) ?_
      refine va_get (D := (dC, dI)) (ci := 8) (v := .ref adM_draft) (C := R_M) (T := F_M) (N := 26) hx hb hts zi_M hown zz.1 hP 0 rfl rfl 17 (by decide) (hts (.fieldLink R_M 26 "WireCodecModel" "draft" "[J") zin_M_26) (fun _ h9 => h9) rfl d_M_sizeOf_143 ?_
      refine lv_iload_n hx hb d_M_sizeOf_146 rfl (lv_at hl 3 rfl) ?_
      obtain ⟨hin, hG⟩ := zgd hG
      refine va_lald hx hb zz.1 hP 4 2 rfl rfl hin d_M_sizeOf_147 ?_
      obtain ⟨a_148, hx_148, hG⟩ := zb hG
      have hr_148 := zrunS (p := p) (e := e) (below := below) (meth := meth) (As := [.long ((zM_draft sM) v3.toNatClampNeg)]) (rest := [.int v2]) (st0 := [.long ((zM_draft sM) v3.toNatClampNeg), .int v2]) (cells := 0) (slots := 0) X zz hP hD hS hA [] (by decide) rfl (c_M_needs l dC dI cB cI cL H.size ((zM_draft sM) v3.toNatClampNeg) _ hx_148) zy_M_needs zv_M_needs (hts (.methodLink R_M 84 y_M_needs) zin_M_84) hl rfl rfl d_M_sizeOf_148 (lv_room (Nat.le_of_ble_eq_true rfl)) rfl rfl ⟨Nat.le_trans (Nat.le_of_ble_eq_true rfl) hRf, Nat.le_trans (Nat.le_of_ble_eq_true rfl) hRl⟩ ⟨Nat.zero_le _, Nat.zero_le _⟩
      refine zcalli (wr := (zwM adM adM_tape adM_frameAt adM_field adM_draft adM_given adM_low adM_high adM_packet adM_known cB cI cL sM)) hr_148 hP hD hS hA [] [0, 1, 2, 3, 4, 5, 6, 7, 8, 9] rfl rfl (by decide) (by decide) (fun r_148 u_148 H locs hw_148 hP hD hS => ?_)
      subst hw_148
      have hP : va_P (dC, dI) zcl (zwM adM adM_tape adM_frameAt adM_field adM_draft adM_given adM_low adM_high adM_packet adM_known cB cI cL sM) H := hP
      have hD : va_D A (zwM adM adM_tape adM_frameAt adM_field adM_draft adM_given adM_low adM_high adM_packet adM_known cB cI cL sM) := hD
      have hG : g_M_sizeOf_c148 kr sM v1 v2 v3 r_148 = some a := hG
      unfold g_M_sizeOf_c148 at hG
      refine lv_iadd hx hb d_M_sizeOf_151 ?_
      refine lv_istore_n (lv' := [(2, .int (v2 + r_148)), (0, .ref adM), (1, .int v1), (3, .int v3)]) hx hb d_M_sizeOf_152 rfl hl (by decide) rfl (fun ls hl => ?_)
      refine lv_iinc (v := v3 + 1) (lv' := [(3, .int (v3 + 1)), (2, .int (v2 + r_148)), (0, .ref adM), (1, .int v1)]) hx hb d_M_sizeOf_153 hl (k := 3) rfl rfl (by decide) rfl (fun ls hl => ?_)
      refine lv_goto (tgt := 130) hx hb d_M_sizeOf_156 (by decide) ?_
      exact hrec sM v1 (v2 + r_148) (v3 + 1) _ hG adM adM_tape adM_frameAt adM_field adM_draft adM_given adM_low adM_high adM_packet adM_known _ _ hP hD hS _ (lv_sub hl [2, 3, 1, 0] rfl)
theorem k_M_sizeOf_130 {p : Program} {l : Launch} {e : Env} {R : Room} {s : State} {m : MethodId} {args : Array Value} {below : List Frame} {meth : Method} {c : Code} {dC : Nat → ClassId} {dI : Nat → Nat → Nat} {cB cI cL : ClassId} {A : Nat → Prop} (X : zx p s m args meth c R R_M b_M_sizeOf (some .int) 5 1 21) (hA : ∀ q, s.heap.size ≤ q → A q) (zz : zk dC dI cB cI cL A s)  (N : Nat) : ∀ (k : Nat) (sM : zM) (v1 : Int32) (v2 : Int32) (v3 : Int32) (a : Int32) (hG : g_M_sizeOf_130 N k sM v1 v2 v3 = some a) (adM adM_tape adM_frameAt adM_field adM_draft adM_given adM_low adM_high adM_packet adM_known : Nat) (H : Heap) (locs : List Loc) (hP : va_P (dC, dI) zcl (zwM adM adM_tape adM_frameAt adM_field adM_draft adM_given adM_low adM_high adM_packet adM_known cB cI cL sM) H) (hD : va_D A (zwM adM adM_tape adM_frameAt adM_field adM_draft adM_given adM_low adM_high adM_packet adM_known cB cI cL sM)) (hS : va_S A s.heap H locs) (ls : Array Slot) (hl : lv_has ls 5 [(0, .ref adM), (1, .int v1), (2, .int v2), (3, .int v3)]), W p l e R s m args below meth c H locs 0 0 (MQ below (q_M_sizeOf dC dI cB cI cL A adM adM_tape adM_frameAt adM_field adM_draft adM_given adM_low adM_high adM_packet adM_known sM a) args s 0 0 A) (F0 m 130 ls []) := by
  intro k
  induction k with
  | zero => intro sM v1 v2 v3 a hG; exact absurd hG (by unfold g_M_sizeOf_130; simp)
  | succ k ih => intro sM v1 v2 v3 a hG adM adM_tape adM_frameAt adM_field adM_draft adM_given adM_low adM_high adM_packet adM_known H locs hP hD hS ls hl; exact k_M_sizeOf_130_b _ ih X hA zz N sM v1 v2 v3 a hG adM adM_tape adM_frameAt adM_field adM_draft adM_given adM_low adM_high adM_packet adM_known H locs hP hD hS ls hl
set_option maxRecDepth 100000 in
set_option maxHeartbeats 4000000 in
theorem k_M_sizeOf_71_b {p : Program} {l : Launch} {e : Env} {R : Room} {s : State} {m : MethodId} {args : Array Value} {below : List Frame} {meth : Method} {c : Code} {dC : Nat → ClassId} {dI : Nat → Nat → Nat} {cB cI cL : ClassId} {A : Nat → Prop} (kr : zM → Int32 → Int32 → Int32 → Option (Int32)) (hrec : ∀ (sM : zM) (v1 : Int32) (v2 : Int32) (v3 : Int32) (a : Int32), kr sM v1 v2 v3 = some a → ∀ (adM adM_tape adM_frameAt adM_field adM_draft adM_given adM_low adM_high adM_packet adM_known : Nat) (H : Heap) (locs : List Loc), va_P (dC, dI) zcl (zwM adM adM_tape adM_frameAt adM_field adM_draft adM_given adM_low adM_high adM_packet adM_known cB cI cL sM) H → va_D A (zwM adM adM_tape adM_frameAt adM_field adM_draft adM_given adM_low adM_high adM_packet adM_known cB cI cL sM) → va_S A s.heap H locs → ∀ ls : Array Slot, lv_has ls 5 [(0, .ref adM), (1, .int v1), (2, .int v2), (3, .int v3)] → W p l e R s m args below meth c H locs 0 0 (MQ below (q_M_sizeOf dC dI cB cI cL A adM adM_tape adM_frameAt adM_field adM_draft adM_given adM_low adM_high adM_packet adM_known sM a) args s 0 0 A) (F0 m 71 ls [])) (X : zx p s m args meth c R R_M b_M_sizeOf (some .int) 5 1 21) (hA : ∀ q, s.heap.size ≤ q → A q) (zz : zk dC dI cB cI cL A s)  (N : Nat) (sM : zM) (v1 : Int32) (v2 : Int32) (v3 : Int32) (a : Int32) (hG : g_M_sizeOf_71_b N kr sM v1 v2 v3 = some a) (adM adM_tape adM_frameAt adM_field adM_draft adM_given adM_low adM_high adM_packet adM_known : Nat) (H : Heap) (locs : List Loc) (hP : va_P (dC, dI) zcl (zwM adM adM_tape adM_frameAt adM_field adM_draft adM_given adM_low adM_high adM_packet adM_known cB cI cL sM) H) (hD : va_D A (zwM adM adM_tape adM_frameAt adM_field adM_draft adM_given adM_low adM_high adM_packet adM_known cB cI cL sM)) (hS : va_S A s.heap H locs) (ls : Array Slot) (hl : lv_has ls 5 [(0, .ref adM), (1, .int v1), (2, .int v2), (3, .int v3)]) : W p l e R s m args below meth c H locs 0 0 (MQ below (q_M_sizeOf dC dI cB cI cL A adM adM_tape adM_frameAt adM_field adM_draft adM_given adM_low adM_high adM_packet adM_known sM a) args s 0 0 A) (F0 m 71 ls []) := by
  obtain ⟨hx, hb, hr, hml, hown, hts, hlocks, hRf, hRl⟩ := id X
  unfold g_M_sizeOf_71_b at hG
  refine lv_iload_n hx hb d_M_sizeOf_71 rfl (lv_at hl 3 rfl) ?_
  refine lv_aload_n hx hb d_M_sizeOf_72 rfl (lv_at hl 0 rfl) ?_
  refine va_get (D := (dC, dI)) (ci := 8) (v := .int (zM_spans sM)) (C := R_M) (T := F_M) (N := 26) hx hb hts zi_M hown zz.1 hP 0 rfl rfl 22 (by decide) (hts (.fieldLink R_M 214 "WireCodecModel" "spans" "I") zin_M_214) (fun _ h9 => h9) rfl d_M_sizeOf_73 ?_
  refine lv_icmp_ge (tgt := 127) hx hb d_M_sizeOf_76 (by decide) (fun hc => ?_) (fun hc => ?_)
  · have hG := zt hG hc
    refine lv_bipush (v := (9 : Int32)) hx hb d_M_sizeOf_127 (by decide) ?_
    refine lv_istore_n (lv' := [(3, .int (9 : Int32)), (0, .ref adM), (1, .int v1), (2, .int v2)]) hx hb d_M_sizeOf_129 rfl hl (by decide) rfl (fun ls hl => ?_)
    exact k_M_sizeOf_130 X hA zz N N sM v1 v2 (9 : Int32) _ hG adM adM_tape adM_frameAt adM_field adM_draft adM_given adM_low adM_high adM_packet adM_known _ _ hP hD hS _ (lv_sub hl [1, 2, 3, 0] rfl)
  · have hG := zf hG hc
    refine lv_iload_n hx hb d_M_sizeOf_79 rfl (lv_at hl 2 rfl) ?_
    refine lv_aload_n hx hb d_M_sizeOf_80 rfl (lv_at hl 0 rfl) ?_
    refine va_get (D := (dC, dI)) (ci := 8) (v := .ref adM_low) (C := R_M) (T := F_M) (N := 26) hx hb hts zi_M hown zz.1 hP 0 rfl rfl 20 (by decide) (hts (.fieldLink R_M 32 "WireCodecModel" "low" "[J") zin_M_32) (fun _ h9 => h9) rfl d_M_sizeOf_81 ?_
    refine lv_iload_n hx hb d_M_sizeOf_84 rfl (lv_at hl 3 rfl) ?_
    refine lv_iconst (v := (1 : Int32)) hx hb d_M_sizeOf_85 (by decide) ?_
    refine lv_isub hx hb d_M_sizeOf_86 ?_
    obtain ⟨hin, hG⟩ := zgd hG
    refine va_lald hx hb zz.1 hP 6 2 rfl rfl hin d_M_sizeOf_87 ?_
    refine lv_aload_n hx hb d_M_sizeOf_88 rfl (lv_at hl 0 rfl) ?_
    refine va_get (D := (dC, dI)) (ci := 8) (v := .ref adM_high) (C := R_M) (T := F_M) (N := 26) hx hb hts zi_M hown zz.1 hP 0 rfl rfl 21 (by decide) (hts (.fieldLink R_M 35 "WireCodecModel" "high" "[J") zin_M_35) (fun _ h9 => h9) rfl d_M_sizeOf_89 ?_
    refine lv_iload_n hx hb d_M_sizeOf_92 rfl (lv_at hl 3 rfl) ?_
    obtain ⟨hin, hG⟩ := zgd hG
    refine va_lald hx hb zz.1 hP 7 2 rfl rfl hin d_M_sizeOf_93 ?_
    refine lv_lsub hx hb d_M_sizeOf_94 ?_
    refine lv_ldc2 (v := (2 : Int64)) hx hb hown (hts (.constantLong R_M 76 (2 : Int64)) zin_M_76) d_M_sizeOf_95 ?_
    refine lv_lsub hx hb d_M_sizeOf_98 ?_
    obtain ⟨a_99, hx_99, hG⟩ := zb hG
    have hr_99 := zrunS (p := p) (e := e) (below := below) (meth := meth) (As := [.long ((((zM_low sM) (v3 - (1 : Int32)).toNatClampNeg) - ((zM_high sM) v3.toNatClampNeg)) - (2 : Int64))]) (rest := [.int v2]) (st0 := [.long ((((zM_low sM) (v3 - (1 : Int32)).toNatClampNeg) - ((zM_high sM) v3.toNatClampNeg)) - (2 : Int64)), .int v2]) (cells := 0) (slots := 0) X zz hP hD hS hA [] (by decide) rfl (c_M_needs l dC dI cB cI cL H.size ((((zM_low sM) (v3 - (1 : Int32)).toNatClampNeg) - ((zM_high sM) v3.toNatClampNeg)) - (2 : Int64)) _ hx_99) zy_M_needs zv_M_needs (hts (.methodLink R_M 84 y_M_needs) zin_M_84) hl rfl rfl d_M_sizeOf_99 (lv_room (Nat.le_of_ble_eq_true rfl)) rfl rfl ⟨Nat.le_trans (Nat.le_of_ble_eq_true rfl) hRf, Nat.le_trans (Nat.le_of_ble_eq_true rfl) hRl⟩ ⟨Nat.zero_le _, Nat.zero_le _⟩
    refine zcalli (wr := (zwM adM adM_tape adM_frameAt adM_field adM_draft adM_given adM_low adM_high adM_packet adM_known cB cI cL sM)) hr_99 hP hD hS hA [] [0, 1, 2, 3, 4, 5, 6, 7, 8, 9] rfl rfl (by decide) (by decide) (fun r_99 u_99 H locs hw_99 hP hD hS => ?_)
    subst hw_99
    have hP : va_P (dC, dI) zcl (zwM adM adM_tape adM_frameAt adM_field adM_draft adM_given adM_low adM_high adM_packet adM_known cB cI cL sM) H := hP
    have hD : va_D A (zwM adM adM_tape adM_frameAt adM_field adM_draft adM_given adM_low adM_high adM_packet adM_known cB cI cL sM) := hD
    have hG : g_M_sizeOf_c99 kr sM v1 v2 v3 r_99 = some a := hG
    unfold g_M_sizeOf_c99 at hG
    refine lv_aload_n hx hb d_M_sizeOf_102 rfl (lv_at hl 0 rfl) ?_
    refine va_get (D := (dC, dI)) (ci := 8) (v := .ref adM_high) (C := R_M) (T := F_M) (N := 26) hx hb hts zi_M hown zz.1 hP 0 rfl rfl 21 (by decide) (hts (.fieldLink R_M 35 "WireCodecModel" "high" "[J") zin_M_35) (fun _ h9 => h9) rfl d_M_sizeOf_103 ?_
    refine lv_iload_n hx hb d_M_sizeOf_106 rfl (lv_at hl 3 rfl) ?_
    obtain ⟨hin, hG⟩ := zgd hG
    refine va_lald hx hb zz.1 hP 7 2 rfl rfl hin d_M_sizeOf_107 ?_
    refine lv_aload_n hx hb d_M_sizeOf_108 rfl (lv_at hl 0 rfl) ?_
    refine va_get (D := (dC, dI)) (ci := 8) (v := .ref adM_low) (C := R_M) (T := F_M) (N := 26) hx hb hts zi_M hown zz.1 hP 0 rfl rfl 20 (by decide) (hts (.fieldLink R_M 32 "WireCodecModel" "low" "[J") zin_M_32) (fun _ h9 => h9) rfl d_M_sizeOf_109 ?_
    refine lv_iload_n hx hb d_M_sizeOf_112 rfl (lv_at hl 3 rfl) ?_
    obtain ⟨hin, hG⟩ := zgd hG
    refine va_lald hx hb zz.1 hP 6 2 rfl rfl hin d_M_sizeOf_113 ?_
    refine lv_lsub hx hb d_M_sizeOf_114 ?_
    obtain ⟨a_115, hx_115, hG⟩ := zb hG
    have hr_115 := zrunS (p := p) (e := e) (below := below) (meth := meth) (As := [.long (((zM_high sM) v3.toNatClampNeg) - ((zM_low sM) v3.toNatClampNeg))]) (rest := [.int r_99, .int v2]) (st0 := [.long (((zM_high sM) v3.toNatClampNeg) - ((zM_low sM) v3.toNatClampNeg)), .int r_99, .int v2]) (cells := 0) (slots := 0) X zz hP hD hS hA [] (by decide) rfl (c_M_needs l dC dI cB cI cL H.size (((zM_high sM) v3.toNatClampNeg) - ((zM_low sM) v3.toNatClampNeg)) _ hx_115) zy_M_needs zv_M_needs (hts (.methodLink R_M 84 y_M_needs) zin_M_84) hl rfl rfl d_M_sizeOf_115 (lv_room (Nat.le_of_ble_eq_true rfl)) rfl rfl ⟨Nat.le_trans (Nat.le_of_ble_eq_true rfl) hRf, Nat.le_trans (Nat.le_of_ble_eq_true rfl) hRl⟩ ⟨Nat.zero_le _, Nat.zero_le _⟩
    refine zcalli (wr := (zwM adM adM_tape adM_frameAt adM_field adM_draft adM_given adM_low adM_high adM_packet adM_known cB cI cL sM)) hr_115 hP hD hS hA [] [0, 1, 2, 3, 4, 5, 6, 7, 8, 9] rfl rfl (by decide) (by decide) (fun r_115 u_115 H locs hw_115 hP hD hS => ?_)
    subst hw_115
    have hP : va_P (dC, dI) zcl (zwM adM adM_tape adM_frameAt adM_field adM_draft adM_given adM_low adM_high adM_packet adM_known cB cI cL sM) H := hP
    have hD : va_D A (zwM adM adM_tape adM_frameAt adM_field adM_draft adM_given adM_low adM_high adM_packet adM_known cB cI cL sM) := hD
    have hG : g_M_sizeOf_c115 kr sM v1 v2 v3 r_99 r_115 = some a := hG
    unfold g_M_sizeOf_c115 at hG
    refine lv_iadd hx hb d_M_sizeOf_118 ?_
    refine lv_iadd hx hb d_M_sizeOf_119 ?_
    refine lv_istore_n (lv' := [(2, .int (v2 + (r_99 + r_115))), (0, .ref adM), (1, .int v1), (3, .int v3)]) hx hb d_M_sizeOf_120 rfl hl (by decide) rfl (fun ls hl => ?_)
    refine lv_iinc (v := v3 + 1) (lv' := [(3, .int (v3 + 1)), (2, .int (v2 + (r_99 + r_115))), (0, .ref adM), (1, .int v1)]) hx hb d_M_sizeOf_121 hl (k := 3) rfl rfl (by decide) rfl (fun ls hl => ?_)
    refine lv_goto (tgt := 71) hx hb d_M_sizeOf_124 (by decide) ?_
    exact hrec sM v1 (v2 + (r_99 + r_115)) (v3 + 1) _ hG adM adM_tape adM_frameAt adM_field adM_draft adM_given adM_low adM_high adM_packet adM_known _ _ hP hD hS _ (lv_sub hl [2, 3, 1, 0] rfl)
theorem k_M_sizeOf_71 {p : Program} {l : Launch} {e : Env} {R : Room} {s : State} {m : MethodId} {args : Array Value} {below : List Frame} {meth : Method} {c : Code} {dC : Nat → ClassId} {dI : Nat → Nat → Nat} {cB cI cL : ClassId} {A : Nat → Prop} (X : zx p s m args meth c R R_M b_M_sizeOf (some .int) 5 1 21) (hA : ∀ q, s.heap.size ≤ q → A q) (zz : zk dC dI cB cI cL A s)  (N : Nat) : ∀ (k : Nat) (sM : zM) (v1 : Int32) (v2 : Int32) (v3 : Int32) (a : Int32) (hG : g_M_sizeOf_71 N k sM v1 v2 v3 = some a) (adM adM_tape adM_frameAt adM_field adM_draft adM_given adM_low adM_high adM_packet adM_known : Nat) (H : Heap) (locs : List Loc) (hP : va_P (dC, dI) zcl (zwM adM adM_tape adM_frameAt adM_field adM_draft adM_given adM_low adM_high adM_packet adM_known cB cI cL sM) H) (hD : va_D A (zwM adM adM_tape adM_frameAt adM_field adM_draft adM_given adM_low adM_high adM_packet adM_known cB cI cL sM)) (hS : va_S A s.heap H locs) (ls : Array Slot) (hl : lv_has ls 5 [(0, .ref adM), (1, .int v1), (2, .int v2), (3, .int v3)]), W p l e R s m args below meth c H locs 0 0 (MQ below (q_M_sizeOf dC dI cB cI cL A adM adM_tape adM_frameAt adM_field adM_draft adM_given adM_low adM_high adM_packet adM_known sM a) args s 0 0 A) (F0 m 71 ls []) := by
  intro k
  induction k with
  | zero => intro sM v1 v2 v3 a hG; exact absurd hG (by unfold g_M_sizeOf_71; simp)
  | succ k ih => intro sM v1 v2 v3 a hG adM adM_tape adM_frameAt adM_field adM_draft adM_given adM_low adM_high adM_packet adM_known H locs hP hD hS ls hl; exact k_M_sizeOf_71_b _ ih X hA zz N sM v1 v2 v3 a hG adM adM_tape adM_frameAt adM_field adM_draft adM_given adM_low adM_high adM_packet adM_known H locs hP hD hS ls hl
set_option maxRecDepth 100000 in
set_option maxHeartbeats 4000000 in
theorem k_M_sizeOf_0 {p : Program} {l : Launch} {e : Env} {R : Room} {s : State} {m : MethodId} {args : Array Value} {below : List Frame} {meth : Method} {c : Code} {dC : Nat → ClassId} {dI : Nat → Nat → Nat} {cB cI cL : ClassId} {A : Nat → Prop} (X : zx p s m args meth c R R_M b_M_sizeOf (some .int) 5 1 21) (hA : ∀ q, s.heap.size ≤ q → A q) (zz : zk dC dI cB cI cL A s)  (N : Nat) (sM : zM) (v1 : Int32) (a : Int32) (hG : g_M_sizeOf N sM v1 = some a) (adM adM_tape adM_frameAt adM_field adM_draft adM_given adM_low adM_high adM_packet adM_known : Nat) (H : Heap) (locs : List Loc) (hP : va_P (dC, dI) zcl (zwM adM adM_tape adM_frameAt adM_field adM_draft adM_given adM_low adM_high adM_packet adM_known cB cI cL sM) H) (hD : va_D A (zwM adM adM_tape adM_frameAt adM_field adM_draft adM_given adM_low adM_high adM_packet adM_known cB cI cL sM)) (hS : va_S A s.heap H locs) (ls : Array Slot) (hl : lv_has ls 5 [(0, .ref adM), (1, .int v1)]) : W p l e R s m args below meth c H locs 0 0 (MQ below (q_M_sizeOf dC dI cB cI cL A adM adM_tape adM_frameAt adM_field adM_draft adM_given adM_low adM_high adM_packet adM_known sM a) args s 0 0 A) (F0 m 0 ls []) := by
  obtain ⟨hx, hb, hr, hml, hown, hts, hlocks, hRf, hRl⟩ := id X
  unfold g_M_sizeOf at hG
  refine lv_iload_n hx hb d_M_sizeOf_0 rfl (lv_at hl 1 rfl) ?_
  refine lv_if_ne (tgt := 12) hx hb d_M_sizeOf_1 (by decide) (fun hc => ?_) (fun hc => ?_)
  · have hG := zf hG hc
    refine lv_iload_n hx hb d_M_sizeOf_12 rfl (lv_at hl 1 rfl) ?_
    obtain ⟨a_13, hx_13, hG⟩ := zb hG
    have hr_13 := zrunS (p := p) (e := e) (below := below) (meth := meth) (As := [.int v1]) (rest := []) (st0 := [.int v1]) (cells := 0) (slots := 0) X zz hP hD hS hA [] (by decide) rfl (c_M_isAck l dC dI cB cI cL H.size v1 _ hx_13) zy_M_isAck zv_M_isAck (hts (.methodLink R_M 171 y_M_isAck) zin_M_171) hl rfl rfl d_M_sizeOf_13 (lv_room (Nat.le_of_ble_eq_true rfl)) rfl rfl ⟨Nat.le_trans (Nat.le_of_ble_eq_true rfl) hRf, Nat.le_trans (Nat.le_of_ble_eq_true rfl) hRl⟩ ⟨Nat.zero_le _, Nat.zero_le _⟩
    refine zcalli (wr := (zwM adM adM_tape adM_frameAt adM_field adM_draft adM_given adM_low adM_high adM_packet adM_known cB cI cL sM)) hr_13 hP hD hS hA [] [0, 1, 2, 3, 4, 5, 6, 7, 8, 9] rfl rfl (by decide) (by decide) (fun r_13 u_13 H locs hw_13 hP hD hS => ?_)
    subst hw_13
    have hP : va_P (dC, dI) zcl (zwM adM adM_tape adM_frameAt adM_field adM_draft adM_given adM_low adM_high adM_packet adM_known cB cI cL sM) H := hP
    have hD : va_D A (zwM adM adM_tape adM_frameAt adM_field adM_draft adM_given adM_low adM_high adM_packet adM_known cB cI cL sM) := hD
    have hG : g_M_sizeOf_c13 N sM v1 r_13 = some a := hG
    unfold g_M_sizeOf_c13 at hG
    refine lv_if_eq (tgt := 161) hx hb d_M_sizeOf_16 (by decide) (fun hc => ?_) (fun hc => ?_)
    · have hG := zt hG hc
      refine lv_iload_n hx hb d_M_sizeOf_161 rfl (lv_at hl 1 rfl) ?_
      refine lv_bipush (v := (8 : Int32)) hx hb d_M_sizeOf_162 (by decide) ?_
      refine lv_icmp_ne (tgt := 233) hx hb d_M_sizeOf_164 (by decide) (fun hc => ?_) (fun hc => ?_)
      · have hG := zf hG hc
        refine lv_iconst (v := (1 : Int32)) hx hb d_M_sizeOf_233 (by decide) ?_
        refine lv_istore_n (lv' := [(2, .int (1 : Int32)), (0, .ref adM), (1, .int v1)]) hx hb d_M_sizeOf_234 rfl hl (by decide) rfl (fun ls hl => ?_)
        refine lv_iload_n hx hb d_M_sizeOf_235 rfl (lv_at hl 2 rfl) ?_
        obtain ⟨a_236, hx_236, hG⟩ := zb hG
        have hr_236 := zrunS (p := p) (e := e) (below := below) (meth := meth) (As := [.int v1]) (rest := []) (st0 := [.int v1]) (cells := 0) (slots := 0) X zz hP hD hS hA [] (by decide) rfl (c_M_fields l dC dI cB cI cL H.size v1 _ hx_236) zy_M_fields zv_M_fields (hts (.methodLink R_M 134 y_M_fields) zin_M_134) hl rfl rfl d_M_sizeOf_236 (lv_room (Nat.le_of_ble_eq_true rfl)) rfl rfl ⟨Nat.le_trans (Nat.le_of_ble_eq_true rfl) hRf, Nat.le_trans (Nat.le_of_ble_eq_true rfl) hRl⟩ ⟨Nat.zero_le _, Nat.zero_le _⟩
        refine zcalli (wr := (zwM adM adM_tape adM_frameAt adM_field adM_draft adM_given adM_low adM_high adM_packet adM_known cB cI cL sM)) hr_236 hP hD hS hA [] [0, 1, 2, 3, 4, 5, 6, 7, 8, 9] rfl rfl (by decide) (by decide) (fun r_236 u_236 H locs hw_236 hP hD hS => ?_)
        subst hw_236
        have hP : va_P (dC, dI) zcl (zwM adM adM_tape adM_frameAt adM_field adM_draft adM_given adM_low adM_high adM_packet adM_known cB cI cL sM) H := hP
        have hD : va_D A (zwM adM adM_tape adM_frameAt adM_field adM_draft adM_given adM_low adM_high adM_packet adM_known cB cI cL sM) := hD
        have hG : g_M_sizeOf_c236 N sM v1 r_236 = some a := hG
        unfold g_M_sizeOf_c236 at hG
        refine lv_istore_n (lv' := [(3, .int r_236), (2, .int (1 : Int32)), (0, .ref adM), (1, .int v1)]) hx hb d_M_sizeOf_239 rfl hl (by decide) rfl (fun ls hl => ?_)
        exact k_M_sizeOf_240 X hA zz N N sM v1 (1 : Int32) r_236 _ hG adM adM_tape adM_frameAt adM_field adM_draft adM_given adM_low adM_high adM_packet adM_known _ _ hP hD hS _ (lv_sub hl [2, 3, 1, 0] rfl)
      · have hG := zt hG hc
        refine lv_iconst (v := (1 : Int32)) hx hb d_M_sizeOf_167 (by decide) ?_
        refine lv_aload_n hx hb d_M_sizeOf_168 rfl (lv_at hl 0 rfl) ?_
        refine va_get (D := (dC, dI)) (ci := 8) (v := .ref adM_draft) (C := R_M) (T := F_M) (N := 26) hx hb hts zi_M hown zz.1 hP 0 rfl rfl 17 (by decide) (hts (.fieldLink R_M 26 "WireCodecModel" "draft" "[J") zin_M_26) (fun _ h9 => h9) rfl d_M_sizeOf_169 ?_
        refine lv_iconst (v := (0 : Int32)) hx hb d_M_sizeOf_172 (by decide) ?_
        obtain ⟨hin, hG⟩ := zgd hG
        refine va_lald hx hb zz.1 hP 4 2 rfl rfl hin d_M_sizeOf_173 ?_
        obtain ⟨a_174, hx_174, hG⟩ := zb hG
        have hr_174 := zrunS (p := p) (e := e) (below := below) (meth := meth) (As := [.long ((zM_draft sM) (0 : Int32).toNatClampNeg)]) (rest := [.int (1 : Int32)]) (st0 := [.long ((zM_draft sM) (0 : Int32).toNatClampNeg), .int (1 : Int32)]) (cells := 0) (slots := 0) X zz hP hD hS hA [] (by decide) rfl (c_M_needs l dC dI cB cI cL H.size ((zM_draft sM) (0 : Int32).toNatClampNeg) _ hx_174) zy_M_needs zv_M_needs (hts (.methodLink R_M 84 y_M_needs) zin_M_84) hl rfl rfl d_M_sizeOf_174 (lv_room (Nat.le_of_ble_eq_true rfl)) rfl rfl ⟨Nat.le_trans (Nat.le_of_ble_eq_true rfl) hRf, Nat.le_trans (Nat.le_of_ble_eq_true rfl) hRl⟩ ⟨Nat.zero_le _, Nat.zero_le _⟩
        refine zcalli (wr := (zwM adM adM_tape adM_frameAt adM_field adM_draft adM_given adM_low adM_high adM_packet adM_known cB cI cL sM)) hr_174 hP hD hS hA [] [0, 1, 2, 3, 4, 5, 6, 7, 8, 9] rfl rfl (by decide) (by decide) (fun r_174 u_174 H locs hw_174 hP hD hS => ?_)
        subst hw_174
        have hP : va_P (dC, dI) zcl (zwM adM adM_tape adM_frameAt adM_field adM_draft adM_given adM_low adM_high adM_packet adM_known cB cI cL sM) H := hP
        have hD : va_D A (zwM adM adM_tape adM_frameAt adM_field adM_draft adM_given adM_low adM_high adM_packet adM_known cB cI cL sM) := hD
        have hG : g_M_sizeOf_c174 N sM r_174 = some a := hG
        unfold g_M_sizeOf_c174 at hG
        refine lv_iadd hx hb d_M_sizeOf_177 ?_
        refine lv_aload_n hx hb d_M_sizeOf_178 rfl (lv_at hl 0 rfl) ?_
        refine va_get (D := (dC, dI)) (ci := 8) (v := .ref adM_draft) (C := R_M) (T := F_M) (N := 26) hx hb hts zi_M hown zz.1 hP 0 rfl rfl 17 (by decide) (hts (.fieldLink R_M 26 "WireCodecModel" "draft" "[J") zin_M_26) (fun _ h9 => h9) rfl d_M_sizeOf_179 ?_
        refine lv_iconst (v := (1 : Int32)) hx hb d_M_sizeOf_182 (by decide) ?_
        obtain ⟨hin, hG⟩ := zgd hG
        refine va_lald hx hb zz.1 hP 4 2 rfl rfl hin d_M_sizeOf_183 ?_
        refine lv_lconst (v := (0 : Int64)) hx hb d_M_sizeOf_184 (by decide) ?_
        refine W.lcmp hx hb d_M_sizeOf_185 ?_
        refine lv_if_ne (tgt := 193) hx hb d_M_sizeOf_186 (by decide) (fun hc => ?_) (fun hc => ?_)
        · have hG := zf hG hc
          refine lv_aload_n hx hb d_M_sizeOf_193 rfl (lv_at hl 0 rfl) ?_
          refine va_get (D := (dC, dI)) (ci := 8) (v := .ref adM_draft) (C := R_M) (T := F_M) (N := 26) hx hb hts zi_M hown zz.1 hP 0 rfl rfl 17 (by decide) (hts (.fieldLink R_M 26 "WireCodecModel" "draft" "[J") zin_M_26) (fun _ h9 => h9) rfl d_M_sizeOf_194 ?_
          refine lv_iconst (v := (1 : Int32)) hx hb d_M_sizeOf_197 (by decide) ?_
          obtain ⟨hin, hG⟩ := zgd hG
          refine va_lald hx hb zz.1 hP 4 2 rfl rfl hin d_M_sizeOf_198 ?_
          obtain ⟨a_199, hx_199, hG⟩ := zb hG
          have hr_199 := zrunS (p := p) (e := e) (below := below) (meth := meth) (As := [.long ((zM_draft sM) (1 : Int32).toNatClampNeg)]) (rest := [.int ((1 : Int32) + r_174)]) (st0 := [.long ((zM_draft sM) (1 : Int32).toNatClampNeg), .int ((1 : Int32) + r_174)]) (cells := 0) (slots := 0) X zz hP hD hS hA [] (by decide) rfl (c_M_needs l dC dI cB cI cL H.size ((zM_draft sM) (1 : Int32).toNatClampNeg) _ hx_199) zy_M_needs zv_M_needs (hts (.methodLink R_M 84 y_M_needs) zin_M_84) hl rfl rfl d_M_sizeOf_199 (lv_room (Nat.le_of_ble_eq_true rfl)) rfl rfl ⟨Nat.le_trans (Nat.le_of_ble_eq_true rfl) hRf, Nat.le_trans (Nat.le_of_ble_eq_true rfl) hRl⟩ ⟨Nat.zero_le _, Nat.zero_le _⟩
          refine zcalli (wr := (zwM adM adM_tape adM_frameAt adM_field adM_draft adM_given adM_low adM_high adM_packet adM_known cB cI cL sM)) hr_199 hP hD hS hA [] [0, 1, 2, 3, 4, 5, 6, 7, 8, 9] rfl rfl (by decide) (by decide) (fun r_199 u_199 H locs hw_199 hP hD hS => ?_)
          subst hw_199
          have hP : va_P (dC, dI) zcl (zwM adM adM_tape adM_frameAt adM_field adM_draft adM_given adM_low adM_high adM_packet adM_known cB cI cL sM) H := hP
          have hD : va_D A (zwM adM adM_tape adM_frameAt adM_field adM_draft adM_given adM_low adM_high adM_packet adM_known cB cI cL sM) := hD
          have hG : g_M_sizeOf_c199 N sM r_174 r_199 = some a := hG
          unfold g_M_sizeOf_c199 at hG
          exact k_M_sizeOf_202 X hA zz N sM r_199 ((1 : Int32) + r_174) _ hG adM adM_tape adM_frameAt adM_field adM_draft adM_given adM_low adM_high adM_packet adM_known _ _ hP hD hS _ (lv_sub hl [0] rfl)
        · have hG := zt hG hc
          refine lv_iconst (v := (0 : Int32)) hx hb d_M_sizeOf_189 (by decide) ?_
          refine lv_goto (tgt := 202) hx hb d_M_sizeOf_190 (by decide) ?_
          exact k_M_sizeOf_202 X hA zz N sM (0 : Int32) ((1 : Int32) + r_174) _ hG adM adM_tape adM_frameAt adM_field adM_draft adM_given adM_low adM_high adM_packet adM_known _ _ hP hD hS _ (lv_sub hl [0] rfl)
    · have hG := zf hG hc
      refine lv_iconst (v := (1 : Int32)) hx hb d_M_sizeOf_19 (by decide) ?_
      refine lv_aload_n hx hb d_M_sizeOf_20 rfl (lv_at hl 0 rfl) ?_
      refine va_get (D := (dC, dI)) (ci := 8) (v := .ref adM_high) (C := R_M) (T := F_M) (N := 26) hx hb hts zi_M hown zz.1 hP 0 rfl rfl 21 (by decide) (hts (.fieldLink R_M 35 "WireCodecModel" "high" "[J") zin_M_35) (fun _ h9 => h9) rfl d_M_sizeOf_21 ?_
      refine lv_iconst (v := (0 : Int32)) hx hb d_M_sizeOf_24 (by decide) ?_
      obtain ⟨hin, hG⟩ := zgd hG
      refine va_lald hx hb zz.1 hP 7 2 rfl rfl hin d_M_sizeOf_25 ?_
      obtain ⟨a_26, hx_26, hG⟩ := zb hG
      have hr_26 := zrunS (p := p) (e := e) (below := below) (meth := meth) (As := [.long ((zM_high sM) (0 : Int32).toNatClampNeg)]) (rest := [.int (1 : Int32)]) (st0 := [.long ((zM_high sM) (0 : Int32).toNatClampNeg), .int (1 : Int32)]) (cells := 0) (slots := 0) X zz hP hD hS hA [] (by decide) rfl (c_M_needs l dC dI cB cI cL H.size ((zM_high sM) (0 : Int32).toNatClampNeg) _ hx_26) zy_M_needs zv_M_needs (hts (.methodLink R_M 84 y_M_needs) zin_M_84) hl rfl rfl d_M_sizeOf_26 (lv_room (Nat.le_of_ble_eq_true rfl)) rfl rfl ⟨Nat.le_trans (Nat.le_of_ble_eq_true rfl) hRf, Nat.le_trans (Nat.le_of_ble_eq_true rfl) hRl⟩ ⟨Nat.zero_le _, Nat.zero_le _⟩
      refine zcalli (wr := (zwM adM adM_tape adM_frameAt adM_field adM_draft adM_given adM_low adM_high adM_packet adM_known cB cI cL sM)) hr_26 hP hD hS hA [] [0, 1, 2, 3, 4, 5, 6, 7, 8, 9] rfl rfl (by decide) (by decide) (fun r_26 u_26 H locs hw_26 hP hD hS => ?_)
      subst hw_26
      have hP : va_P (dC, dI) zcl (zwM adM adM_tape adM_frameAt adM_field adM_draft adM_given adM_low adM_high adM_packet adM_known cB cI cL sM) H := hP
      have hD : va_D A (zwM adM adM_tape adM_frameAt adM_field adM_draft adM_given adM_low adM_high adM_packet adM_known cB cI cL sM) := hD
      have hG : g_M_sizeOf_c26 N sM v1 r_26 = some a := hG
      unfold g_M_sizeOf_c26 at hG
      refine lv_iadd hx hb d_M_sizeOf_29 ?_
      refine lv_aload_n hx hb d_M_sizeOf_30 rfl (lv_at hl 0 rfl) ?_
      refine va_get (D := (dC, dI)) (ci := 8) (v := .ref adM_draft) (C := R_M) (T := F_M) (N := 26) hx hb hts zi_M hown zz.1 hP 0 rfl rfl 17 (by decide) (hts (.fieldLink R_M 26 "WireCodecModel" "draft" "[J") zin_M_26) (fun _ h9 => h9) rfl d_M_sizeOf_31 ?_
      refine lv_iconst (v := (1 : Int32)) hx hb d_M_sizeOf_34 (by decide) ?_
      obtain ⟨hin, hG⟩ := zgd hG
      refine va_lald hx hb zz.1 hP 4 2 rfl rfl hin d_M_sizeOf_35 ?_
      obtain ⟨a_36, hx_36, hG⟩ := zb hG
      have hr_36 := zrunS (p := p) (e := e) (below := below) (meth := meth) (As := [.long ((zM_draft sM) (1 : Int32).toNatClampNeg)]) (rest := [.int ((1 : Int32) + r_26)]) (st0 := [.long ((zM_draft sM) (1 : Int32).toNatClampNeg), .int ((1 : Int32) + r_26)]) (cells := 0) (slots := 0) X zz hP hD hS hA [] (by decide) rfl (c_M_needs l dC dI cB cI cL H.size ((zM_draft sM) (1 : Int32).toNatClampNeg) _ hx_36) zy_M_needs zv_M_needs (hts (.methodLink R_M 84 y_M_needs) zin_M_84) hl rfl rfl d_M_sizeOf_36 (lv_room (Nat.le_of_ble_eq_true rfl)) rfl rfl ⟨Nat.le_trans (Nat.le_of_ble_eq_true rfl) hRf, Nat.le_trans (Nat.le_of_ble_eq_true rfl) hRl⟩ ⟨Nat.zero_le _, Nat.zero_le _⟩
      refine zcalli (wr := (zwM adM adM_tape adM_frameAt adM_field adM_draft adM_given adM_low adM_high adM_packet adM_known cB cI cL sM)) hr_36 hP hD hS hA [] [0, 1, 2, 3, 4, 5, 6, 7, 8, 9] rfl rfl (by decide) (by decide) (fun r_36 u_36 H locs hw_36 hP hD hS => ?_)
      subst hw_36
      have hP : va_P (dC, dI) zcl (zwM adM adM_tape adM_frameAt adM_field adM_draft adM_given adM_low adM_high adM_packet adM_known cB cI cL sM) H := hP
      have hD : va_D A (zwM adM adM_tape adM_frameAt adM_field adM_draft adM_given adM_low adM_high adM_packet adM_known cB cI cL sM) := hD
      have hG : g_M_sizeOf_c36 N sM v1 r_26 r_36 = some a := hG
      unfold g_M_sizeOf_c36 at hG
      refine lv_iadd hx hb d_M_sizeOf_39 ?_
      refine lv_aload_n hx hb d_M_sizeOf_40 rfl (lv_at hl 0 rfl) ?_
      refine va_get (D := (dC, dI)) (ci := 8) (v := .int (zM_spans sM)) (C := R_M) (T := F_M) (N := 26) hx hb hts zi_M hown zz.1 hP 0 rfl rfl 22 (by decide) (hts (.fieldLink R_M 214 "WireCodecModel" "spans" "I") zin_M_214) (fun _ h9 => h9) rfl d_M_sizeOf_41 ?_
      refine lv_i2l hx hb d_M_sizeOf_44 rfl ?_
      refine lv_lconst (v := (1 : Int64)) hx hb d_M_sizeOf_45 (by decide) ?_
      refine lv_lsub hx hb d_M_sizeOf_46 ?_
      obtain ⟨a_47, hx_47, hG⟩ := zb hG
      have hr_47 := zrunS (p := p) (e := e) (below := below) (meth := meth) (As := [.long (((zM_spans sM).toInt64) - (1 : Int64))]) (rest := [.int (((1 : Int32) + r_26) + r_36)]) (st0 := [.long (((zM_spans sM).toInt64) - (1 : Int64)), .int (((1 : Int32) + r_26) + r_36)]) (cells := 0) (slots := 0) X zz hP hD hS hA [] (by decide) rfl (c_M_needs l dC dI cB cI cL H.size (((zM_spans sM).toInt64) - (1 : Int64)) _ hx_47) zy_M_needs zv_M_needs (hts (.methodLink R_M 84 y_M_needs) zin_M_84) hl rfl rfl d_M_sizeOf_47 (lv_room (Nat.le_of_ble_eq_true rfl)) rfl rfl ⟨Nat.le_trans (Nat.le_of_ble_eq_true rfl) hRf, Nat.le_trans (Nat.le_of_ble_eq_true rfl) hRl⟩ ⟨Nat.zero_le _, Nat.zero_le _⟩
      refine zcalli (wr := (zwM adM adM_tape adM_frameAt adM_field adM_draft adM_given adM_low adM_high adM_packet adM_known cB cI cL sM)) hr_47 hP hD hS hA [] [0, 1, 2, 3, 4, 5, 6, 7, 8, 9] rfl rfl (by decide) (by decide) (fun r_47 u_47 H locs hw_47 hP hD hS => ?_)
      subst hw_47
      have hP : va_P (dC, dI) zcl (zwM adM adM_tape adM_frameAt adM_field adM_draft adM_given adM_low adM_high adM_packet adM_known cB cI cL sM) H := hP
      have hD : va_D A (zwM adM adM_tape adM_frameAt adM_field adM_draft adM_given adM_low adM_high adM_packet adM_known cB cI cL sM) := hD
      have hG : g_M_sizeOf_c47 N sM v1 r_26 r_36 r_47 = some a := hG
      unfold g_M_sizeOf_c47 at hG
      refine lv_iadd hx hb d_M_sizeOf_50 ?_
      refine lv_aload_n hx hb d_M_sizeOf_51 rfl (lv_at hl 0 rfl) ?_
      refine va_get (D := (dC, dI)) (ci := 8) (v := .ref adM_high) (C := R_M) (T := F_M) (N := 26) hx hb hts zi_M hown zz.1 hP 0 rfl rfl 21 (by decide) (hts (.fieldLink R_M 35 "WireCodecModel" "high" "[J") zin_M_35) (fun _ h9 => h9) rfl d_M_sizeOf_52 ?_
      refine lv_iconst (v := (0 : Int32)) hx hb d_M_sizeOf_55 (by decide) ?_
      obtain ⟨hin, hG⟩ := zgd hG
      refine va_lald hx hb zz.1 hP 7 2 rfl rfl hin d_M_sizeOf_56 ?_
      refine lv_aload_n hx hb d_M_sizeOf_57 rfl (lv_at hl 0 rfl) ?_
      refine va_get (D := (dC, dI)) (ci := 8) (v := .ref adM_low) (C := R_M) (T := F_M) (N := 26) hx hb hts zi_M hown zz.1 hP 0 rfl rfl 20 (by decide) (hts (.fieldLink R_M 32 "WireCodecModel" "low" "[J") zin_M_32) (fun _ h9 => h9) rfl d_M_sizeOf_58 ?_
      refine lv_iconst (v := (0 : Int32)) hx hb d_M_sizeOf_61 (by decide) ?_
      obtain ⟨hin, hG⟩ := zgd hG
      refine va_lald hx hb zz.1 hP 6 2 rfl rfl hin d_M_sizeOf_62 ?_
      refine lv_lsub hx hb d_M_sizeOf_63 ?_
      obtain ⟨a_64, hx_64, hG⟩ := zb hG
      have hr_64 := zrunS (p := p) (e := e) (below := below) (meth := meth) (As := [.long (((zM_high sM) (0 : Int32).toNatClampNeg) - ((zM_low sM) (0 : Int32).toNatClampNeg))]) (rest := [.int ((((1 : Int32) + r_26) + r_36) + r_47)]) (st0 := [.long (((zM_high sM) (0 : Int32).toNatClampNeg) - ((zM_low sM) (0 : Int32).toNatClampNeg)), .int ((((1 : Int32) + r_26) + r_36) + r_47)]) (cells := 0) (slots := 0) X zz hP hD hS hA [] (by decide) rfl (c_M_needs l dC dI cB cI cL H.size (((zM_high sM) (0 : Int32).toNatClampNeg) - ((zM_low sM) (0 : Int32).toNatClampNeg)) _ hx_64) zy_M_needs zv_M_needs (hts (.methodLink R_M 84 y_M_needs) zin_M_84) hl rfl rfl d_M_sizeOf_64 (lv_room (Nat.le_of_ble_eq_true rfl)) rfl rfl ⟨Nat.le_trans (Nat.le_of_ble_eq_true rfl) hRf, Nat.le_trans (Nat.le_of_ble_eq_true rfl) hRl⟩ ⟨Nat.zero_le _, Nat.zero_le _⟩
      refine zcalli (wr := (zwM adM adM_tape adM_frameAt adM_field adM_draft adM_given adM_low adM_high adM_packet adM_known cB cI cL sM)) hr_64 hP hD hS hA [] [0, 1, 2, 3, 4, 5, 6, 7, 8, 9] rfl rfl (by decide) (by decide) (fun r_64 u_64 H locs hw_64 hP hD hS => ?_)
      subst hw_64
      have hP : va_P (dC, dI) zcl (zwM adM adM_tape adM_frameAt adM_field adM_draft adM_given adM_low adM_high adM_packet adM_known cB cI cL sM) H := hP
      have hD : va_D A (zwM adM adM_tape adM_frameAt adM_field adM_draft adM_given adM_low adM_high adM_packet adM_known cB cI cL sM) := hD
      have hG : g_M_sizeOf_c64 N sM v1 r_26 r_36 r_47 r_64 = some a := hG
      unfold g_M_sizeOf_c64 at hG
      refine lv_iadd hx hb d_M_sizeOf_67 ?_
      refine lv_istore_n (lv' := [(2, .int (((((1 : Int32) + r_26) + r_36) + r_47) + r_64)), (0, .ref adM), (1, .int v1)]) hx hb d_M_sizeOf_68 rfl hl (by decide) rfl (fun ls hl => ?_)
      refine lv_iconst (v := (1 : Int32)) hx hb d_M_sizeOf_69 (by decide) ?_
      refine lv_istore_n (lv' := [(3, .int (1 : Int32)), (2, .int (((((1 : Int32) + r_26) + r_36) + r_47) + r_64)), (0, .ref adM), (1, .int v1)]) hx hb d_M_sizeOf_70 rfl hl (by decide) rfl (fun ls hl => ?_)
      exact k_M_sizeOf_71 X hA zz N N sM v1 (((((1 : Int32) + r_26) + r_36) + r_47) + r_64) (1 : Int32) _ hG adM adM_tape adM_frameAt adM_field adM_draft adM_given adM_low adM_high adM_packet adM_known _ _ hP hD hS _ (lv_sub hl [2, 3, 1, 0] rfl)
  · have hG := zt hG hc
    refine lv_aload_n hx hb d_M_sizeOf_4 rfl (lv_at hl 0 rfl) ?_
    refine va_get (D := (dC, dI)) (ci := 8) (v := .ref adM_draft) (C := R_M) (T := F_M) (N := 26) hx hb hts zi_M hown zz.1 hP 0 rfl rfl 17 (by decide) (hts (.fieldLink R_M 26 "WireCodecModel" "draft" "[J") zin_M_26) (fun _ h9 => h9) rfl d_M_sizeOf_5 ?_
    refine lv_iconst (v := (0 : Int32)) hx hb d_M_sizeOf_8 (by decide) ?_
    obtain ⟨hin, hG⟩ := zgd hG
    refine va_lald hx hb zz.1 hP 4 2 rfl rfl hin d_M_sizeOf_9 ?_
    refine lv_l2i hx hb d_M_sizeOf_10 rfl ?_
    exact W.iret (v := ((zM_draft sM) (0 : Int32).toNatClampNeg).toInt32) hx hb hr (fun t9 ht9 hW9 => ⟨⟨((zM_draft sM) (0 : Int32).toNatClampNeg).toInt32, (), rfl, Option.some.inj hG, by rw [ht9]; exact hP, hD⟩, hS.F ht9⟩) hS.2.2 d_M_sizeOf_11
set_option maxRecDepth 100000 in
set_option maxHeartbeats 4000000 in
theorem c_M_sizeOf (l : Launch) (dC : Nat → ClassId) (dI : Nat → Nat → Nat) (cB cI cL : ClassId) (sz : Nat) (adM adM_tape adM_frameAt adM_field adM_draft adM_given adM_low adM_high adM_packet adM_known : Nat) (N : Nat) (sM : zM) (v1 : Int32) (a : Int32) (hG : g_M_sizeOf N sM v1 = some a) : Met l y_M_sizeOf (zw y_M_sizeOf b_M_sizeOf 5 (some .int)) ({ frames := 1, cells := 0, slots := 0, locals := 21 }) (va_Pc [.ref adM, .int v1] (zpre dC dI cB cI cL sz (zwM adM adM_tape adM_frameAt adM_field adM_draft adM_given adM_low adM_high adM_packet adM_known cB cI cL sM))) (q_M_sizeOf dC dI cB cI cL (va_A (zwM adM adM_tape adM_frameAt adM_field adM_draft adM_given adM_low adM_high adM_packet adM_known cB cI cL sM) sz) adM adM_tape adM_frameAt adM_field adM_draft adM_given adM_low adM_high adM_packet adM_known sM a) 0 0 (va_A (zwM adM adM_tape adM_frameAt adM_field adM_draft adM_given adM_low adM_high adM_packet adM_known cB cI cL sM) sz) := by
  refine Met.ofW (cc := b_M_sizeOf) (maxL := 5) (ret := (some .int)) (by decide) rfl ?_
  intro p e s m args below meth c s₁ B hml hv
  obtain ⟨rfl, hsz, hP, zz, hD0⟩ := hv
  subst hsz
  have X := zx_of (F := 1) (L := 21) B hml (Nat.le_refl _) (Nat.le_refl _)
  have hD := hD0.self (sz := s.heap.size)
  have hA : ∀ q : Nat, s.heap.size ≤ q → va_A (zwM adM adM_tape adM_frameAt adM_field adM_draft adM_given adM_low adM_high adM_packet adM_known cB cI cL sM) s.heap.size q := fun q h => Or.inr h
  have hl := lv_entry ([.ref adM, .int v1]) (n := 5) (Nat.le_of_ble_eq_true rfl)
  rw [lg_entry_eq]
  generalize (lg_sl ([.ref adM, .int v1]) ++ List.replicate (5 - (lg_sl ([.ref adM, .int v1])).length) Slot.unset).toArray = ls at hl ⊢
  exact k_M_sizeOf_0 X hA zz N sM v1 a hG adM adM_tape adM_frameAt adM_field adM_draft adM_given adM_low adM_high adM_packet adM_known _ _ hP hD va_S.rf ls hl
noncomputable def g_M_writeAck_181 (N : Nat) (sM : zM) : Option (zM) := some (sM)
noncomputable def g_M_writeAck_c172 (kr : zM → Int32 → Int32 → Option (zM)) (v1 : Int32) (v2 : Int32) (sM_172 : zM) : Option (zM) := kr sM_172 v1 (v2 + 1)
noncomputable def g_M_writeAck_c169 (N : Nat) (kr : zM → Int32 → Int32 → Option (zM)) (sM : zM) (v1 : Int32) (v2 : Int32) (r_169 : Int32) : Option (zM) := (g_M_writeNumber N sM ((zM_draft sM) v2.toNatClampNeg) r_169).bind (fun a => g_M_writeAck_c172 kr v1 v2 a)
noncomputable def g_M_writeAck_145_b (N : Nat) (kr : zM → Int32 → Int32 → Option (zM)) (sM : zM) (v1 : Int32) (v2 : Int32) : Option (zM) := if (12 : Int32) ≤ v2 then (g_M_writeAck_181 N sM) else (if v1 = (3 : Int32) then (zg (vp_in v2 12) (zg (vp_in v2 12) ((g_M_needs ((zM_draft sM) v2.toNatClampNeg)).bind (fun a => g_M_writeAck_c169 N kr sM v1 v2 a)))) else (g_M_writeAck_181 N sM))
noncomputable def g_M_writeAck_145 (N : Nat) : Nat → zM → Int32 → Int32 → Option (zM)
  | 0 => fun _ _ _ => none
  | k + 1 => fun sM v1 v2 => g_M_writeAck_145_b N (g_M_writeAck_145 N k) sM v1 v2
noncomputable def g_M_writeAck_c133 (kr : zM → Int32 → Int32 → Option (zM)) (v1 : Int32) (v2 : Int32) (sM_133 : zM) : Option (zM) := kr sM_133 v1 (v2 + 1)
noncomputable def g_M_writeAck_c130 (N : Nat) (kr : zM → Int32 → Int32 → Option (zM)) (sM : zM) (v1 : Int32) (v2 : Int32) (r_130 : Int32) : Option (zM) := (g_M_writeNumber N sM (((zM_high sM) v2.toNatClampNeg) - ((zM_low sM) v2.toNatClampNeg)) r_130).bind (fun a => g_M_writeAck_c133 kr v1 v2 a)
noncomputable def g_M_writeAck_110 (N : Nat) (kr : zM → Int32 → Int32 → Option (zM)) (sM : zM) (v1 : Int32) (v2 : Int32) : Option (zM) := zg (vp_in v2 500) (zg (vp_in v2 500) ((g_M_needs (((zM_high sM) v2.toNatClampNeg) - ((zM_low sM) v2.toNatClampNeg))).bind (fun a => g_M_writeAck_c130 N kr sM v1 v2 a)))
noncomputable def g_M_writeAck_c107 (N : Nat) (kr : zM → Int32 → Int32 → Option (zM)) (v1 : Int32) (v2 : Int32) (sM_107 : zM) : Option (zM) := g_M_writeAck_110 N kr sM_107 v1 v2
noncomputable def g_M_writeAck_c104 (N : Nat) (kr : zM → Int32 → Int32 → Option (zM)) (sM : zM) (v1 : Int32) (v2 : Int32) (s0 : Int64) (r_104 : Int32) : Option (zM) := (g_M_writeNumber N sM s0 r_104).bind (fun a => g_M_writeAck_c107 N kr v1 v2 a)
noncomputable def g_M_writeAck_96 (N : Nat) (kr : zM → Int32 → Int32 → Option (zM)) (sM : zM) (v1 : Int32) (v2 : Int32) (s0 : Int64) : Option (zM) := if v2 ≤ (0 : Int32) then (g_M_writeAck_110 N kr sM v1 v2) else ((g_M_needs s0).bind (fun a => g_M_writeAck_c104 N kr sM v1 v2 s0 a))
noncomputable def g_M_writeAck_61_b (N : Nat) (kr : zM → Int32 → Int32 → Option (zM)) (sM : zM) (v1 : Int32) (v2 : Int32) : Option (zM) := if (zM_spans sM) ≤ v2 then (g_M_writeAck_145 N N sM v1 (9 : Int32)) else (if v2 = (0 : Int32) then (g_M_writeAck_96 N kr sM v1 v2 (0 : Int64)) else (zg (vp_in (v2 - (1 : Int32)) 500) (zg (vp_in v2 500) (g_M_writeAck_96 N kr sM v1 v2 ((((zM_low sM) (v2 - (1 : Int32)).toNatClampNeg) - ((zM_high sM) v2.toNatClampNeg)) - (2 : Int64))))))
noncomputable def g_M_writeAck_61 (N : Nat) : Nat → zM → Int32 → Int32 → Option (zM)
  | 0 => fun _ _ _ => none
  | k + 1 => fun sM v1 v2 => g_M_writeAck_61_b N (g_M_writeAck_61 N k) sM v1 v2
noncomputable def g_M_writeAck_c56 (N : Nat) (v1 : Int32) (sM_56 : zM) : Option (zM) := g_M_writeAck_61 N N sM_56 v1 (0 : Int32)
noncomputable def g_M_writeAck_c53 (N : Nat) (v1 : Int32) (sM_35 : zM) (r_53 : Int32) : Option (zM) := (g_M_writeNumber N sM_35 (((zM_spans sM_35).toInt64) - (1 : Int64)) r_53).bind (fun a => g_M_writeAck_c56 N v1 a)
noncomputable def g_M_writeAck_c35 (N : Nat) (v1 : Int32) (sM_35 : zM) : Option (zM) := (g_M_needs (((zM_spans sM_35).toInt64) - (1 : Int64))).bind (fun a => g_M_writeAck_c53 N v1 sM_35 a)
noncomputable def g_M_writeAck_c32 (N : Nat) (v1 : Int32) (sM_16 : zM) (r_32 : Int32) : Option (zM) := (g_M_writeNumber N sM_16 ((zM_draft sM_16) (1 : Int32).toNatClampNeg) r_32).bind (fun a => g_M_writeAck_c35 N v1 a)
noncomputable def g_M_writeAck_c16 (N : Nat) (v1 : Int32) (sM_16 : zM) : Option (zM) := zg (vp_in (1 : Int32) 12) (zg (vp_in (1 : Int32) 12) ((g_M_needs ((zM_draft sM_16) (1 : Int32).toNatClampNeg)).bind (fun a => g_M_writeAck_c32 N v1 sM_16 a)))
noncomputable def g_M_writeAck_c13 (N : Nat) (sM : zM) (v1 : Int32) (r_13 : Int32) : Option (zM) := (g_M_writeNumber N sM ((zM_high sM) (0 : Int32).toNatClampNeg) r_13).bind (fun a => g_M_writeAck_c16 N v1 a)
noncomputable def g_M_writeAck (N : Nat) (sM : zM) (v1 : Int32) : Option (zM) := zg (vp_in (0 : Int32) 500) (zg (vp_in (0 : Int32) 500) ((g_M_needs ((zM_high sM) (0 : Int32).toNatClampNeg)).bind (fun a => g_M_writeAck_c13 N sM v1 a)))
def q_M_writeAck (dC : Nat → ClassId) (dI : Nat → Nat → Nat) (cB cI cL : ClassId) (A : Nat → Prop) (adM : Nat) (adM_tape : Nat) (adM_frameAt : Nat) (adM_field : Nat) (adM_draft : Nat) (adM_given : Nat) (adM_low : Nat) (adM_high : Nat) (adM_packet : Nat) (adM_known : Nat) (a : zM) : Array Value → State → Outcome → State → Prop := va_Qv (fun (u : zM) => (u) = a) (fun u U => va_P (dC, dI) zcl (zwM adM adM_tape adM_frameAt adM_field adM_draft adM_given adM_low adM_high adM_packet adM_known cB cI cL u) U.heap ∧ va_D A (zwM adM adM_tape adM_frameAt adM_field adM_draft adM_given adM_low adM_high adM_packet adM_known cB cI cL u)) A
set_option maxRecDepth 100000 in
set_option maxHeartbeats 4000000 in
theorem k_M_writeAck_181 {p : Program} {l : Launch} {e : Env} {R : Room} {s : State} {m : MethodId} {args : Array Value} {below : List Frame} {meth : Method} {c : Code} {dC : Nat → ClassId} {dI : Nat → Nat → Nat} {cB cI cL : ClassId} {A : Nat → Prop} (X : zx p s m args meth c R R_M b_M_writeAck none 7 2 49) (hA : ∀ q, s.heap.size ≤ q → A q) (zz : zk dC dI cB cI cL A s)  (N : Nat) (sM : zM) (a : zM) (hG : g_M_writeAck_181 N sM = some a) (adM adM_tape adM_frameAt adM_field adM_draft adM_given adM_low adM_high adM_packet adM_known : Nat) (H : Heap) (locs : List Loc) (hP : va_P (dC, dI) zcl (zwM adM adM_tape adM_frameAt adM_field adM_draft adM_given adM_low adM_high adM_packet adM_known cB cI cL sM) H) (hD : va_D A (zwM adM adM_tape adM_frameAt adM_field adM_draft adM_given adM_low adM_high adM_packet adM_known cB cI cL sM)) (hS : va_S A s.heap H locs) (ls : Array Slot) (hl : lv_has ls 7 []) : W p l e R s m args below meth c H locs 0 0 (MQ below (q_M_writeAck dC dI cB cI cL A adM adM_tape adM_frameAt adM_field adM_draft adM_given adM_low adM_high adM_packet adM_known a) args s 0 0 A) (F0 m 181 ls []) := by
  obtain ⟨hx, hb, hr, hml, hown, hts, hlocks, hRf, hRl⟩ := id X
  unfold g_M_writeAck_181 at hG
  exact W.vret hx hb hr (fun t9 ht9 hW9 => ⟨⟨(sM), rfl, Option.some.inj hG, by rw [ht9]; exact hP, hD⟩, hS.F ht9⟩) hS.2.2 d_M_writeAck_181
set_option maxRecDepth 100000 in
set_option maxHeartbeats 4000000 in
theorem k_M_writeAck_145_b {p : Program} {l : Launch} {e : Env} {R : Room} {s : State} {m : MethodId} {args : Array Value} {below : List Frame} {meth : Method} {c : Code} {dC : Nat → ClassId} {dI : Nat → Nat → Nat} {cB cI cL : ClassId} {A : Nat → Prop} (kr : zM → Int32 → Int32 → Option (zM)) (hrec : ∀ (sM : zM) (v1 : Int32) (v2 : Int32) (a : zM), kr sM v1 v2 = some a → ∀ (adM adM_tape adM_frameAt adM_field adM_draft adM_given adM_low adM_high adM_packet adM_known : Nat) (H : Heap) (locs : List Loc), va_P (dC, dI) zcl (zwM adM adM_tape adM_frameAt adM_field adM_draft adM_given adM_low adM_high adM_packet adM_known cB cI cL sM) H → va_D A (zwM adM adM_tape adM_frameAt adM_field adM_draft adM_given adM_low adM_high adM_packet adM_known cB cI cL sM) → va_S A s.heap H locs → ∀ ls : Array Slot, lv_has ls 7 [(0, .ref adM), (1, .int v1), (2, .int v2)] → W p l e R s m args below meth c H locs 0 0 (MQ below (q_M_writeAck dC dI cB cI cL A adM adM_tape adM_frameAt adM_field adM_draft adM_given adM_low adM_high adM_packet adM_known a) args s 0 0 A) (F0 m 145 ls [])) (X : zx p s m args meth c R R_M b_M_writeAck none 7 2 49) (hA : ∀ q, s.heap.size ≤ q → A q) (zz : zk dC dI cB cI cL A s)  (N : Nat) (sM : zM) (v1 : Int32) (v2 : Int32) (a : zM) (hG : g_M_writeAck_145_b N kr sM v1 v2 = some a) (adM adM_tape adM_frameAt adM_field adM_draft adM_given adM_low adM_high adM_packet adM_known : Nat) (H : Heap) (locs : List Loc) (hP : va_P (dC, dI) zcl (zwM adM adM_tape adM_frameAt adM_field adM_draft adM_given adM_low adM_high adM_packet adM_known cB cI cL sM) H) (hD : va_D A (zwM adM adM_tape adM_frameAt adM_field adM_draft adM_given adM_low adM_high adM_packet adM_known cB cI cL sM)) (hS : va_S A s.heap H locs) (ls : Array Slot) (hl : lv_has ls 7 [(0, .ref adM), (1, .int v1), (2, .int v2)]) : W p l e R s m args below meth c H locs 0 0 (MQ below (q_M_writeAck dC dI cB cI cL A adM adM_tape adM_frameAt adM_field adM_draft adM_given adM_low adM_high adM_packet adM_known a) args s 0 0 A) (F0 m 145 ls []) := by
  obtain ⟨hx, hb, hr, hml, hown, hts, hlocks, hRf, hRl⟩ := id X
  unfold g_M_writeAck_145_b at hG
  refine lv_iload_n hx hb d_M_writeAck_145 rfl (lv_at hl 2 rfl) ?_
  refine lv_bipush (v := (12 : Int32)) hx hb d_M_writeAck_146 (by decide) ?_
  refine lv_icmp_ge (tgt := 181) hx hb d_M_writeAck_148 (by decide) (fun hc => ?_) (fun hc => ?_)
  · have hG := zt hG hc
    exact k_M_writeAck_181 X hA zz N sM _ hG adM adM_tape adM_frameAt adM_field adM_draft adM_given adM_low adM_high adM_packet adM_known _ _ hP hD hS _ (lv_sub hl [] rfl)
  · have hG := zf hG hc
    refine lv_iload_n hx hb d_M_writeAck_151 rfl (lv_at hl 1 rfl) ?_
    refine lv_iconst (v := (3 : Int32)) hx hb d_M_writeAck_152 (by decide) ?_
    refine lv_icmp_ne (tgt := 181) hx hb d_M_writeAck_153 (by decide) (fun hc => ?_) (fun hc => ?_)
    · have hG := zf hG hc
      exact k_M_writeAck_181 X hA zz N sM _ hG adM adM_tape adM_frameAt adM_field adM_draft adM_given adM_low adM_high adM_packet adM_known _ _ hP hD hS _ (lv_sub hl [] rfl)
    · have hG := zt hG hc
      refine lv_aload_n hx hb d_M_writeAck_156 rfl (lv_at hl 0 rfl) ?_
      refine lv_aload_n hx hb d_M_writeAck_157 rfl (lv_at hl 0 rfl) ?_
      refine va_get (D := (dC, dI)) (ci := 8) (v := .ref adM_draft) (C := R_M) (T := F_M) (N := 26) hx hb hts zi_M hown zz.1 hP 0 rfl rfl 17 (by decide) (hts (.fieldLink R_M 26 "WireCodecModel" "draft" "[J") zin_M_26) (fun _ h9 => h9) rfl d_M_writeAck_158 ?_
      refine lv_iload_n hx hb d_M_writeAck_161 rfl (lv_at hl 2 rfl) ?_
      obtain ⟨hin, hG⟩ := zgd hG
      refine va_lald hx hb zz.1 hP 4 2 rfl rfl hin d_M_writeAck_162 ?_
      refine lv_aload_n hx hb d_M_writeAck_163 rfl (lv_at hl 0 rfl) ?_
      refine va_get (D := (dC, dI)) (ci := 8) (v := .ref adM_draft) (C := R_M) (T := F_M) (N := 26) hx hb hts zi_M hown zz.1 hP 0 rfl rfl 17 (by decide) (hts (.fieldLink R_M 26 "WireCodecModel" "draft" "[J") zin_M_26) (fun _ h9 => h9) rfl d_M_writeAck_164 ?_
      refine lv_iload_n hx hb d_M_writeAck_167 rfl (lv_at hl 2 rfl) ?_
      obtain ⟨hin, hG⟩ := zgd hG
      refine va_lald hx hb zz.1 hP 4 2 rfl rfl hin d_M_writeAck_168 ?_
      obtain ⟨a_169, hx_169, hG⟩ := zb hG
      have hr_169 := zrunS (p := p) (e := e) (below := below) (meth := meth) (As := [.long ((zM_draft sM) v2.toNatClampNeg)]) (rest := [.long ((zM_draft sM) v2.toNatClampNeg), .ref adM]) (st0 := [.long ((zM_draft sM) v2.toNatClampNeg), .long ((zM_draft sM) v2.toNatClampNeg), .ref adM]) (cells := 0) (slots := 0) X zz hP hD hS hA [] (by decide) rfl (c_M_needs l dC dI cB cI cL H.size ((zM_draft sM) v2.toNatClampNeg) _ hx_169) zy_M_needs zv_M_needs (hts (.methodLink R_M 84 y_M_needs) zin_M_84) hl rfl rfl d_M_writeAck_169 (lv_room (Nat.le_of_ble_eq_true rfl)) rfl rfl ⟨Nat.le_trans (Nat.le_of_ble_eq_true rfl) hRf, Nat.le_trans (Nat.le_of_ble_eq_true rfl) hRl⟩ ⟨Nat.zero_le _, Nat.zero_le _⟩
      refine zcalli (wr := (zwM adM adM_tape adM_frameAt adM_field adM_draft adM_given adM_low adM_high adM_packet adM_known cB cI cL sM)) hr_169 hP hD hS hA [] [0, 1, 2, 3, 4, 5, 6, 7, 8, 9] rfl rfl (by decide) (by decide) (fun r_169 u_169 H locs hw_169 hP hD hS => ?_)
      subst hw_169
      have hP : va_P (dC, dI) zcl (zwM adM adM_tape adM_frameAt adM_field adM_draft adM_given adM_low adM_high adM_packet adM_known cB cI cL sM) H := hP
      have hD : va_D A (zwM adM adM_tape adM_frameAt adM_field adM_draft adM_given adM_low adM_high adM_packet adM_known cB cI cL sM) := hD
      have hG : g_M_writeAck_c169 N kr sM v1 v2 r_169 = some a := hG
      unfold g_M_writeAck_c169 at hG
      obtain ⟨a_172, hx_172, hG⟩ := zb hG
      have hr_172 := zrunV (p := p) (e := e) (below := below) (meth := meth) (As := [.long ((zM_draft sM) v2.toNatClampNeg), .int r_169]) (rest := []) (st0 := [.int r_169, .long ((zM_draft sM) v2.toNatClampNeg), .ref adM]) (cells := 0) (slots := 0) X zz hP hD hS hA [0, 1, 2, 3, 4, 5, 6, 7, 8, 9] (by decide) rfl (c_M_writeNumber l dC dI cB cI cL H.size adM adM_tape adM_frameAt adM_field adM_draft adM_given adM_low adM_high adM_packet adM_known N sM ((zM_draft sM) v2.toNatClampNeg) r_169 _ hx_172) zy_M_writeNumber zv_M_writeNumber (hts (.methodLink R_M 88 y_M_writeNumber) zin_M_88) hl rfl rfl d_M_writeAck_172 (lv_room (Nat.le_of_ble_eq_true rfl)) rfl rfl ⟨Nat.le_trans (Nat.le_of_ble_eq_true rfl) hRf, Nat.le_trans (Nat.le_of_ble_eq_true rfl) hRl⟩ ⟨Nat.zero_le _, Nat.zero_le _⟩ 0 8 rfl rfl
      refine zcallv (wr := ([] : va_W)) hr_172 hP hD hS hA [0, 1, 2, 3, 4, 5, 6, 7, 8, 9] [] rfl rfl (by decide) (by decide) (fun u_172 H locs hw_172 hP hD hS => ?_)
      obtain ⟨sM_172, rfl⟩ : ∃ z, z = u_172 := ⟨_, rfl⟩
      subst hw_172
      have hP : va_P (dC, dI) zcl (zwM adM adM_tape adM_frameAt adM_field adM_draft adM_given adM_low adM_high adM_packet adM_known cB cI cL sM_172) H := hP
      have hD : va_D A (zwM adM adM_tape adM_frameAt adM_field adM_draft adM_given adM_low adM_high adM_packet adM_known cB cI cL sM_172) := hD
      have hG : g_M_writeAck_c172 kr v1 v2 sM_172 = some a := hG
      unfold g_M_writeAck_c172 at hG
      refine lv_iinc (v := v2 + 1) (lv' := [(2, .int (v2 + 1)), (0, .ref adM), (1, .int v1)]) hx hb d_M_writeAck_175 hl (k := 2) rfl rfl (by decide) rfl (fun ls hl => ?_)
      refine lv_goto (tgt := 145) hx hb d_M_writeAck_178 (by decide) ?_
      exact hrec sM_172 v1 (v2 + 1) _ hG adM adM_tape adM_frameAt adM_field adM_draft adM_given adM_low adM_high adM_packet adM_known _ _ hP hD hS _ (lv_sub hl [1, 2, 0] rfl)
theorem k_M_writeAck_145 {p : Program} {l : Launch} {e : Env} {R : Room} {s : State} {m : MethodId} {args : Array Value} {below : List Frame} {meth : Method} {c : Code} {dC : Nat → ClassId} {dI : Nat → Nat → Nat} {cB cI cL : ClassId} {A : Nat → Prop} (X : zx p s m args meth c R R_M b_M_writeAck none 7 2 49) (hA : ∀ q, s.heap.size ≤ q → A q) (zz : zk dC dI cB cI cL A s)  (N : Nat) : ∀ (k : Nat) (sM : zM) (v1 : Int32) (v2 : Int32) (a : zM) (hG : g_M_writeAck_145 N k sM v1 v2 = some a) (adM adM_tape adM_frameAt adM_field adM_draft adM_given adM_low adM_high adM_packet adM_known : Nat) (H : Heap) (locs : List Loc) (hP : va_P (dC, dI) zcl (zwM adM adM_tape adM_frameAt adM_field adM_draft adM_given adM_low adM_high adM_packet adM_known cB cI cL sM) H) (hD : va_D A (zwM adM adM_tape adM_frameAt adM_field adM_draft adM_given adM_low adM_high adM_packet adM_known cB cI cL sM)) (hS : va_S A s.heap H locs) (ls : Array Slot) (hl : lv_has ls 7 [(0, .ref adM), (1, .int v1), (2, .int v2)]), W p l e R s m args below meth c H locs 0 0 (MQ below (q_M_writeAck dC dI cB cI cL A adM adM_tape adM_frameAt adM_field adM_draft adM_given adM_low adM_high adM_packet adM_known a) args s 0 0 A) (F0 m 145 ls []) := by
  intro k
  induction k with
  | zero => intro sM v1 v2 a hG; exact absurd hG (by unfold g_M_writeAck_145; simp)
  | succ k ih => intro sM v1 v2 a hG adM adM_tape adM_frameAt adM_field adM_draft adM_given adM_low adM_high adM_packet adM_known H locs hP hD hS ls hl; exact k_M_writeAck_145_b _ ih X hA zz N sM v1 v2 a hG adM adM_tape adM_frameAt adM_field adM_draft adM_given adM_low adM_high adM_packet adM_known H locs hP hD hS ls hl
set_option maxRecDepth 100000 in
set_option maxHeartbeats 4000000 in
theorem k_M_writeAck_110 {p : Program} {l : Launch} {e : Env} {R : Room} {s : State} {m : MethodId} {args : Array Value} {below : List Frame} {meth : Method} {c : Code} {dC : Nat → ClassId} {dI : Nat → Nat → Nat} {cB cI cL : ClassId} {A : Nat → Prop} (kr : zM → Int32 → Int32 → Option (zM)) (hrec : ∀ (sM : zM) (v1 : Int32) (v2 : Int32) (a : zM), kr sM v1 v2 = some a → ∀ (adM adM_tape adM_frameAt adM_field adM_draft adM_given adM_low adM_high adM_packet adM_known : Nat) (H : Heap) (locs : List Loc), va_P (dC, dI) zcl (zwM adM adM_tape adM_frameAt adM_field adM_draft adM_given adM_low adM_high adM_packet adM_known cB cI cL sM) H → va_D A (zwM adM adM_tape adM_frameAt adM_field adM_draft adM_given adM_low adM_high adM_packet adM_known cB cI cL sM) → va_S A s.heap H locs → ∀ ls : Array Slot, lv_has ls 7 [(0, .ref adM), (1, .int v1), (2, .int v2)] → W p l e R s m args below meth c H locs 0 0 (MQ below (q_M_writeAck dC dI cB cI cL A adM adM_tape adM_frameAt adM_field adM_draft adM_given adM_low adM_high adM_packet adM_known a) args s 0 0 A) (F0 m 61 ls [])) (X : zx p s m args meth c R R_M b_M_writeAck none 7 2 49) (hA : ∀ q, s.heap.size ≤ q → A q) (zz : zk dC dI cB cI cL A s)  (N : Nat) (sM : zM) (v1 : Int32) (v2 : Int32) (a : zM) (hG : g_M_writeAck_110 N kr sM v1 v2 = some a) (adM adM_tape adM_frameAt adM_field adM_draft adM_given adM_low adM_high adM_packet adM_known : Nat) (H : Heap) (locs : List Loc) (hP : va_P (dC, dI) zcl (zwM adM adM_tape adM_frameAt adM_field adM_draft adM_given adM_low adM_high adM_packet adM_known cB cI cL sM) H) (hD : va_D A (zwM adM adM_tape adM_frameAt adM_field adM_draft adM_given adM_low adM_high adM_packet adM_known cB cI cL sM)) (hS : va_S A s.heap H locs) (ls : Array Slot) (hl : lv_has ls 7 [(0, .ref adM), (1, .int v1), (2, .int v2)]) : W p l e R s m args below meth c H locs 0 0 (MQ below (q_M_writeAck dC dI cB cI cL A adM adM_tape adM_frameAt adM_field adM_draft adM_given adM_low adM_high adM_packet adM_known a) args s 0 0 A) (F0 m 110 ls []) := by
  obtain ⟨hx, hb, hr, hml, hown, hts, hlocks, hRf, hRl⟩ := id X
  unfold g_M_writeAck_110 at hG
  refine lv_aload_n hx hb d_M_writeAck_110 rfl (lv_at hl 0 rfl) ?_
  refine va_get (D := (dC, dI)) (ci := 8) (v := .ref adM_high) (C := R_M) (T := F_M) (N := 26) hx hb hts zi_M hown zz.1 hP 0 rfl rfl 21 (by decide) (hts (.fieldLink R_M 35 "WireCodecModel" "high" "[J") zin_M_35) (fun _ h9 => h9) rfl d_M_writeAck_111 ?_
  refine lv_iload_n hx hb d_M_writeAck_114 rfl (lv_at hl 2 rfl) ?_
  obtain ⟨hin, hG⟩ := zgd hG
  refine va_lald hx hb zz.1 hP 7 2 rfl rfl hin d_M_writeAck_115 ?_
  refine lv_aload_n hx hb d_M_writeAck_116 rfl (lv_at hl 0 rfl) ?_
  refine va_get (D := (dC, dI)) (ci := 8) (v := .ref adM_low) (C := R_M) (T := F_M) (N := 26) hx hb hts zi_M hown zz.1 hP 0 rfl rfl 20 (by decide) (hts (.fieldLink R_M 32 "WireCodecModel" "low" "[J") zin_M_32) (fun _ h9 => h9) rfl d_M_writeAck_117 ?_
  refine lv_iload_n hx hb d_M_writeAck_120 rfl (lv_at hl 2 rfl) ?_
  obtain ⟨hin, hG⟩ := zgd hG
  refine va_lald hx hb zz.1 hP 6 2 rfl rfl hin d_M_writeAck_121 ?_
  refine lv_lsub hx hb d_M_writeAck_122 ?_
  refine lv_lstore (lv' := [(5, .long (((zM_high sM) v2.toNatClampNeg) - ((zM_low sM) v2.toNatClampNeg))), (0, .ref adM), (1, .int v1), (2, .int v2)]) hx hb d_M_writeAck_123 hl (by decide) rfl (fun ls hl => ?_)
  refine lv_aload_n hx hb d_M_writeAck_125 rfl (lv_at hl 1 rfl) ?_
  refine lv_lload hx hb d_M_writeAck_126 (lv_at hl 0 rfl) ?_
  refine lv_lload hx hb d_M_writeAck_128 (lv_at hl 0 rfl) ?_
  obtain ⟨a_130, hx_130, hG⟩ := zb hG
  have hr_130 := zrunS (p := p) (e := e) (below := below) (meth := meth) (As := [.long (((zM_high sM) v2.toNatClampNeg) - ((zM_low sM) v2.toNatClampNeg))]) (rest := [.long (((zM_high sM) v2.toNatClampNeg) - ((zM_low sM) v2.toNatClampNeg)), .ref adM]) (st0 := [.long (((zM_high sM) v2.toNatClampNeg) - ((zM_low sM) v2.toNatClampNeg)), .long (((zM_high sM) v2.toNatClampNeg) - ((zM_low sM) v2.toNatClampNeg)), .ref adM]) (cells := 0) (slots := 0) X zz hP hD hS hA [] (by decide) rfl (c_M_needs l dC dI cB cI cL H.size (((zM_high sM) v2.toNatClampNeg) - ((zM_low sM) v2.toNatClampNeg)) _ hx_130) zy_M_needs zv_M_needs (hts (.methodLink R_M 84 y_M_needs) zin_M_84) hl rfl rfl d_M_writeAck_130 (lv_room (Nat.le_of_ble_eq_true rfl)) rfl rfl ⟨Nat.le_trans (Nat.le_of_ble_eq_true rfl) hRf, Nat.le_trans (Nat.le_of_ble_eq_true rfl) hRl⟩ ⟨Nat.zero_le _, Nat.zero_le _⟩
  refine zcalli (wr := (zwM adM adM_tape adM_frameAt adM_field adM_draft adM_given adM_low adM_high adM_packet adM_known cB cI cL sM)) hr_130 hP hD hS hA [] [0, 1, 2, 3, 4, 5, 6, 7, 8, 9] rfl rfl (by decide) (by decide) (fun r_130 u_130 H locs hw_130 hP hD hS => ?_)
  subst hw_130
  have hP : va_P (dC, dI) zcl (zwM adM adM_tape adM_frameAt adM_field adM_draft adM_given adM_low adM_high adM_packet adM_known cB cI cL sM) H := hP
  have hD : va_D A (zwM adM adM_tape adM_frameAt adM_field adM_draft adM_given adM_low adM_high adM_packet adM_known cB cI cL sM) := hD
  have hG : g_M_writeAck_c130 N kr sM v1 v2 r_130 = some a := hG
  unfold g_M_writeAck_c130 at hG
  obtain ⟨a_133, hx_133, hG⟩ := zb hG
  have hr_133 := zrunV (p := p) (e := e) (below := below) (meth := meth) (As := [.long (((zM_high sM) v2.toNatClampNeg) - ((zM_low sM) v2.toNatClampNeg)), .int r_130]) (rest := []) (st0 := [.int r_130, .long (((zM_high sM) v2.toNatClampNeg) - ((zM_low sM) v2.toNatClampNeg)), .ref adM]) (cells := 0) (slots := 0) X zz hP hD hS hA [0, 1, 2, 3, 4, 5, 6, 7, 8, 9] (by decide) rfl (c_M_writeNumber l dC dI cB cI cL H.size adM adM_tape adM_frameAt adM_field adM_draft adM_given adM_low adM_high adM_packet adM_known N sM (((zM_high sM) v2.toNatClampNeg) - ((zM_low sM) v2.toNatClampNeg)) r_130 _ hx_133) zy_M_writeNumber zv_M_writeNumber (hts (.methodLink R_M 88 y_M_writeNumber) zin_M_88) hl rfl rfl d_M_writeAck_133 (lv_room (Nat.le_of_ble_eq_true rfl)) rfl rfl ⟨Nat.le_trans (Nat.le_of_ble_eq_true rfl) hRf, Nat.le_trans (Nat.le_of_ble_eq_true rfl) hRl⟩ ⟨Nat.zero_le _, Nat.zero_le _⟩ 0 8 rfl rfl
  refine zcallv (wr := ([] : va_W)) hr_133 hP hD hS hA [0, 1, 2, 3, 4, 5, 6, 7, 8, 9] [] rfl rfl (by decide) (by decide) (fun u_133 H locs hw_133 hP hD hS => ?_)
  obtain ⟨sM_133, rfl⟩ : ∃ z, z = u_133 := ⟨_, rfl⟩
  subst hw_133
  have hP : va_P (dC, dI) zcl (zwM adM adM_tape adM_frameAt adM_field adM_draft adM_given adM_low adM_high adM_packet adM_known cB cI cL sM_133) H := hP
  have hD : va_D A (zwM adM adM_tape adM_frameAt adM_field adM_draft adM_given adM_low adM_high adM_packet adM_known cB cI cL sM_133) := hD
  have hG : g_M_writeAck_c133 kr v1 v2 sM_133 = some a := hG
  unfold g_M_writeAck_c133 at hG
  refine lv_iinc (v := v2 + 1) (lv' := [(2, .int (v2 + 1)), (5, .long (((zM_high sM) v2.toNatClampNeg) - ((zM_low sM) v2.toNatClampNeg))), (0, .ref adM), (1, .int v1)]) hx hb d_M_writeAck_136 hl (k := 3) rfl rfl (by decide) rfl (fun ls hl => ?_)
  refine lv_goto (tgt := 61) hx hb d_M_writeAck_139 (by decide) ?_
  exact hrec sM_133 v1 (v2 + 1) _ hG adM adM_tape adM_frameAt adM_field adM_draft adM_given adM_low adM_high adM_packet adM_known _ _ hP hD hS _ (lv_sub hl [2, 3, 0] rfl)
set_option maxRecDepth 100000 in
set_option maxHeartbeats 4000000 in
theorem k_M_writeAck_96 {p : Program} {l : Launch} {e : Env} {R : Room} {s : State} {m : MethodId} {args : Array Value} {below : List Frame} {meth : Method} {c : Code} {dC : Nat → ClassId} {dI : Nat → Nat → Nat} {cB cI cL : ClassId} {A : Nat → Prop} (kr : zM → Int32 → Int32 → Option (zM)) (hrec : ∀ (sM : zM) (v1 : Int32) (v2 : Int32) (a : zM), kr sM v1 v2 = some a → ∀ (adM adM_tape adM_frameAt adM_field adM_draft adM_given adM_low adM_high adM_packet adM_known : Nat) (H : Heap) (locs : List Loc), va_P (dC, dI) zcl (zwM adM adM_tape adM_frameAt adM_field adM_draft adM_given adM_low adM_high adM_packet adM_known cB cI cL sM) H → va_D A (zwM adM adM_tape adM_frameAt adM_field adM_draft adM_given adM_low adM_high adM_packet adM_known cB cI cL sM) → va_S A s.heap H locs → ∀ ls : Array Slot, lv_has ls 7 [(0, .ref adM), (1, .int v1), (2, .int v2)] → W p l e R s m args below meth c H locs 0 0 (MQ below (q_M_writeAck dC dI cB cI cL A adM adM_tape adM_frameAt adM_field adM_draft adM_given adM_low adM_high adM_packet adM_known a) args s 0 0 A) (F0 m 61 ls [])) (X : zx p s m args meth c R R_M b_M_writeAck none 7 2 49) (hA : ∀ q, s.heap.size ≤ q → A q) (zz : zk dC dI cB cI cL A s)  (N : Nat) (sM : zM) (v1 : Int32) (v2 : Int32) (s0 : Int64) (a : zM) (hG : g_M_writeAck_96 N kr sM v1 v2 s0 = some a) (adM adM_tape adM_frameAt adM_field adM_draft adM_given adM_low adM_high adM_packet adM_known : Nat) (H : Heap) (locs : List Loc) (hP : va_P (dC, dI) zcl (zwM adM adM_tape adM_frameAt adM_field adM_draft adM_given adM_low adM_high adM_packet adM_known cB cI cL sM) H) (hD : va_D A (zwM adM adM_tape adM_frameAt adM_field adM_draft adM_given adM_low adM_high adM_packet adM_known cB cI cL sM)) (hS : va_S A s.heap H locs) (ls : Array Slot) (hl : lv_has ls 7 [(0, .ref adM), (1, .int v1), (2, .int v2)]) : W p l e R s m args below meth c H locs 0 0 (MQ below (q_M_writeAck dC dI cB cI cL A adM adM_tape adM_frameAt adM_field adM_draft adM_given adM_low adM_high adM_packet adM_known a) args s 0 0 A) (F0 m 96 ls [.long s0]) := by
  obtain ⟨hx, hb, hr, hml, hown, hts, hlocks, hRf, hRl⟩ := id X
  unfold g_M_writeAck_96 at hG
  refine lv_lstore_n (lv' := [(3, .long s0), (0, .ref adM), (1, .int v1), (2, .int v2)]) hx hb d_M_writeAck_96 rfl hl (by decide) rfl (fun ls hl => ?_)
  refine lv_iload_n hx hb d_M_writeAck_97 rfl (lv_at hl 3 rfl) ?_
  refine lv_if_le (tgt := 110) hx hb d_M_writeAck_98 (by decide) (fun hc => ?_) (fun hc => ?_)
  · have hG := zt hG hc
    exact k_M_writeAck_110 kr hrec X hA zz N sM v1 v2 _ hG adM adM_tape adM_frameAt adM_field adM_draft adM_given adM_low adM_high adM_packet adM_known _ _ hP hD hS _ (lv_sub hl [1, 2, 3] rfl)
  · have hG := zf hG hc
    refine lv_aload_n hx hb d_M_writeAck_101 rfl (lv_at hl 1 rfl) ?_
    refine lv_lload_n hx hb d_M_writeAck_102 rfl (lv_at hl 0 rfl) ?_
    refine lv_lload_n hx hb d_M_writeAck_103 rfl (lv_at hl 0 rfl) ?_
    obtain ⟨a_104, hx_104, hG⟩ := zb hG
    have hr_104 := zrunS (p := p) (e := e) (below := below) (meth := meth) (As := [.long s0]) (rest := [.long s0, .ref adM]) (st0 := [.long s0, .long s0, .ref adM]) (cells := 0) (slots := 0) X zz hP hD hS hA [] (by decide) rfl (c_M_needs l dC dI cB cI cL H.size s0 _ hx_104) zy_M_needs zv_M_needs (hts (.methodLink R_M 84 y_M_needs) zin_M_84) hl rfl rfl d_M_writeAck_104 (lv_room (Nat.le_of_ble_eq_true rfl)) rfl rfl ⟨Nat.le_trans (Nat.le_of_ble_eq_true rfl) hRf, Nat.le_trans (Nat.le_of_ble_eq_true rfl) hRl⟩ ⟨Nat.zero_le _, Nat.zero_le _⟩
    refine zcalli (wr := (zwM adM adM_tape adM_frameAt adM_field adM_draft adM_given adM_low adM_high adM_packet adM_known cB cI cL sM)) hr_104 hP hD hS hA [] [0, 1, 2, 3, 4, 5, 6, 7, 8, 9] rfl rfl (by decide) (by decide) (fun r_104 u_104 H locs hw_104 hP hD hS => ?_)
    subst hw_104
    have hP : va_P (dC, dI) zcl (zwM adM adM_tape adM_frameAt adM_field adM_draft adM_given adM_low adM_high adM_packet adM_known cB cI cL sM) H := hP
    have hD : va_D A (zwM adM adM_tape adM_frameAt adM_field adM_draft adM_given adM_low adM_high adM_packet adM_known cB cI cL sM) := hD
    have hG : g_M_writeAck_c104 N kr sM v1 v2 s0 r_104 = some a := hG
    unfold g_M_writeAck_c104 at hG
    obtain ⟨a_107, hx_107, hG⟩ := zb hG
    have hr_107 := zrunV (p := p) (e := e) (below := below) (meth := meth) (As := [.long s0, .int r_104]) (rest := []) (st0 := [.int r_104, .long s0, .ref adM]) (cells := 0) (slots := 0) X zz hP hD hS hA [0, 1, 2, 3, 4, 5, 6, 7, 8, 9] (by decide) rfl (c_M_writeNumber l dC dI cB cI cL H.size adM adM_tape adM_frameAt adM_field adM_draft adM_given adM_low adM_high adM_packet adM_known N sM s0 r_104 _ hx_107) zy_M_writeNumber zv_M_writeNumber (hts (.methodLink R_M 88 y_M_writeNumber) zin_M_88) hl rfl rfl d_M_writeAck_107 (lv_room (Nat.le_of_ble_eq_true rfl)) rfl rfl ⟨Nat.le_trans (Nat.le_of_ble_eq_true rfl) hRf, Nat.le_trans (Nat.le_of_ble_eq_true rfl) hRl⟩ ⟨Nat.zero_le _, Nat.zero_le _⟩ 0 8 rfl rfl
    refine zcallv (wr := ([] : va_W)) hr_107 hP hD hS hA [0, 1, 2, 3, 4, 5, 6, 7, 8, 9] [] rfl rfl (by decide) (by decide) (fun u_107 H locs hw_107 hP hD hS => ?_)
    obtain ⟨sM_107, rfl⟩ : ∃ z, z = u_107 := ⟨_, rfl⟩
    subst hw_107
    have hP : va_P (dC, dI) zcl (zwM adM adM_tape adM_frameAt adM_field adM_draft adM_given adM_low adM_high adM_packet adM_known cB cI cL sM_107) H := hP
    have hD : va_D A (zwM adM adM_tape adM_frameAt adM_field adM_draft adM_given adM_low adM_high adM_packet adM_known cB cI cL sM_107) := hD
    have hG : g_M_writeAck_c107 N kr v1 v2 sM_107 = some a := hG
    unfold g_M_writeAck_c107 at hG
    exact k_M_writeAck_110 kr hrec X hA zz N sM_107 v1 v2 _ hG adM adM_tape adM_frameAt adM_field adM_draft adM_given adM_low adM_high adM_packet adM_known _ _ hP hD hS _ (lv_sub hl [1, 2, 3] rfl)
set_option maxRecDepth 100000 in
set_option maxHeartbeats 4000000 in
theorem k_M_writeAck_61_b {p : Program} {l : Launch} {e : Env} {R : Room} {s : State} {m : MethodId} {args : Array Value} {below : List Frame} {meth : Method} {c : Code} {dC : Nat → ClassId} {dI : Nat → Nat → Nat} {cB cI cL : ClassId} {A : Nat → Prop} (kr : zM → Int32 → Int32 → Option (zM)) (hrec : ∀ (sM : zM) (v1 : Int32) (v2 : Int32) (a : zM), kr sM v1 v2 = some a → ∀ (adM adM_tape adM_frameAt adM_field adM_draft adM_given adM_low adM_high adM_packet adM_known : Nat) (H : Heap) (locs : List Loc), va_P (dC, dI) zcl (zwM adM adM_tape adM_frameAt adM_field adM_draft adM_given adM_low adM_high adM_packet adM_known cB cI cL sM) H → va_D A (zwM adM adM_tape adM_frameAt adM_field adM_draft adM_given adM_low adM_high adM_packet adM_known cB cI cL sM) → va_S A s.heap H locs → ∀ ls : Array Slot, lv_has ls 7 [(0, .ref adM), (1, .int v1), (2, .int v2)] → W p l e R s m args below meth c H locs 0 0 (MQ below (q_M_writeAck dC dI cB cI cL A adM adM_tape adM_frameAt adM_field adM_draft adM_given adM_low adM_high adM_packet adM_known a) args s 0 0 A) (F0 m 61 ls [])) (X : zx p s m args meth c R R_M b_M_writeAck none 7 2 49) (hA : ∀ q, s.heap.size ≤ q → A q) (zz : zk dC dI cB cI cL A s)  (N : Nat) (sM : zM) (v1 : Int32) (v2 : Int32) (a : zM) (hG : g_M_writeAck_61_b N kr sM v1 v2 = some a) (adM adM_tape adM_frameAt adM_field adM_draft adM_given adM_low adM_high adM_packet adM_known : Nat) (H : Heap) (locs : List Loc) (hP : va_P (dC, dI) zcl (zwM adM adM_tape adM_frameAt adM_field adM_draft adM_given adM_low adM_high adM_packet adM_known cB cI cL sM) H) (hD : va_D A (zwM adM adM_tape adM_frameAt adM_field adM_draft adM_given adM_low adM_high adM_packet adM_known cB cI cL sM)) (hS : va_S A s.heap H locs) (ls : Array Slot) (hl : lv_has ls 7 [(0, .ref adM), (1, .int v1), (2, .int v2)]) : W p l e R s m args below meth c H locs 0 0 (MQ below (q_M_writeAck dC dI cB cI cL A adM adM_tape adM_frameAt adM_field adM_draft adM_given adM_low adM_high adM_packet adM_known a) args s 0 0 A) (F0 m 61 ls []) := by
  obtain ⟨hx, hb, hr, hml, hown, hts, hlocks, hRf, hRl⟩ := id X
  unfold g_M_writeAck_61_b at hG
  refine lv_iload_n hx hb d_M_writeAck_61 rfl (lv_at hl 2 rfl) ?_
  refine lv_aload_n hx hb d_M_writeAck_62 rfl (lv_at hl 0 rfl) ?_
  refine va_get (D := (dC, dI)) (ci := 8) (v := .int (zM_spans sM)) (C := R_M) (T := F_M) (N := 26) hx hb hts zi_M hown zz.1 hP 0 rfl rfl 22 (by decide) (hts (.fieldLink R_M 214 "WireCodecModel" "spans" "I") zin_M_214) (fun _ h9 => h9) rfl d_M_writeAck_63 ?_
  refine lv_icmp_ge (tgt := 142) hx hb d_M_writeAck_66 (by decide) (fun hc => ?_) (fun hc => ?_)
  · have hG := zt hG hc
    refine lv_bipush (v := (9 : Int32)) hx hb d_M_writeAck_142 (by decide) ?_
    refine lv_istore_n (lv' := [(2, .int (9 : Int32)), (0, .ref adM), (1, .int v1)]) hx hb d_M_writeAck_144 rfl hl (by decide) rfl (fun ls hl => ?_)
    exact k_M_writeAck_145 X hA zz N N sM v1 (9 : Int32) _ hG adM adM_tape adM_frameAt adM_field adM_draft adM_given adM_low adM_high adM_packet adM_known _ _ hP hD hS _ (lv_sub hl [1, 2, 0] rfl)
  · have hG := zf hG hc
    refine lv_iload_n hx hb d_M_writeAck_69 rfl (lv_at hl 2 rfl) ?_
    refine lv_if_ne (tgt := 77) hx hb d_M_writeAck_70 (by decide) (fun hc => ?_) (fun hc => ?_)
    · have hG := zf hG hc
      refine lv_aload_n hx hb d_M_writeAck_77 rfl (lv_at hl 0 rfl) ?_
      refine va_get (D := (dC, dI)) (ci := 8) (v := .ref adM_low) (C := R_M) (T := F_M) (N := 26) hx hb hts zi_M hown zz.1 hP 0 rfl rfl 20 (by decide) (hts (.fieldLink R_M 32 "WireCodecModel" "low" "[J") zin_M_32) (fun _ h9 => h9) rfl d_M_writeAck_78 ?_
      refine lv_iload_n hx hb d_M_writeAck_81 rfl (lv_at hl 2 rfl) ?_
      refine lv_iconst (v := (1 : Int32)) hx hb d_M_writeAck_82 (by decide) ?_
      refine lv_isub hx hb d_M_writeAck_83 ?_
      obtain ⟨hin, hG⟩ := zgd hG
      refine va_lald hx hb zz.1 hP 6 2 rfl rfl hin d_M_writeAck_84 ?_
      refine lv_aload_n hx hb d_M_writeAck_85 rfl (lv_at hl 0 rfl) ?_
      refine va_get (D := (dC, dI)) (ci := 8) (v := .ref adM_high) (C := R_M) (T := F_M) (N := 26) hx hb hts zi_M hown zz.1 hP 0 rfl rfl 21 (by decide) (hts (.fieldLink R_M 35 "WireCodecModel" "high" "[J") zin_M_35) (fun _ h9 => h9) rfl d_M_writeAck_86 ?_
      refine lv_iload_n hx hb d_M_writeAck_89 rfl (lv_at hl 2 rfl) ?_
      obtain ⟨hin, hG⟩ := zgd hG
      refine va_lald hx hb zz.1 hP 7 2 rfl rfl hin d_M_writeAck_90 ?_
      refine lv_lsub hx hb d_M_writeAck_91 ?_
      refine lv_ldc2 (v := (2 : Int64)) hx hb hown (hts (.constantLong R_M 76 (2 : Int64)) zin_M_76) d_M_writeAck_92 ?_
      refine lv_lsub hx hb d_M_writeAck_95 ?_
      exact k_M_writeAck_96 kr hrec X hA zz N sM v1 v2 ((((zM_low sM) (v2 - (1 : Int32)).toNatClampNeg) - ((zM_high sM) v2.toNatClampNeg)) - (2 : Int64)) _ hG adM adM_tape adM_frameAt adM_field adM_draft adM_given adM_low adM_high adM_packet adM_known _ _ hP hD hS _ (lv_sub hl [0, 1, 2] rfl)
    · have hG := zt hG hc
      refine lv_lconst (v := (0 : Int64)) hx hb d_M_writeAck_73 (by decide) ?_
      refine lv_goto (tgt := 96) hx hb d_M_writeAck_74 (by decide) ?_
      exact k_M_writeAck_96 kr hrec X hA zz N sM v1 v2 (0 : Int64) _ hG adM adM_tape adM_frameAt adM_field adM_draft adM_given adM_low adM_high adM_packet adM_known _ _ hP hD hS _ (lv_sub hl [0, 1, 2] rfl)
theorem k_M_writeAck_61 {p : Program} {l : Launch} {e : Env} {R : Room} {s : State} {m : MethodId} {args : Array Value} {below : List Frame} {meth : Method} {c : Code} {dC : Nat → ClassId} {dI : Nat → Nat → Nat} {cB cI cL : ClassId} {A : Nat → Prop} (X : zx p s m args meth c R R_M b_M_writeAck none 7 2 49) (hA : ∀ q, s.heap.size ≤ q → A q) (zz : zk dC dI cB cI cL A s)  (N : Nat) : ∀ (k : Nat) (sM : zM) (v1 : Int32) (v2 : Int32) (a : zM) (hG : g_M_writeAck_61 N k sM v1 v2 = some a) (adM adM_tape adM_frameAt adM_field adM_draft adM_given adM_low adM_high adM_packet adM_known : Nat) (H : Heap) (locs : List Loc) (hP : va_P (dC, dI) zcl (zwM adM adM_tape adM_frameAt adM_field adM_draft adM_given adM_low adM_high adM_packet adM_known cB cI cL sM) H) (hD : va_D A (zwM adM adM_tape adM_frameAt adM_field adM_draft adM_given adM_low adM_high adM_packet adM_known cB cI cL sM)) (hS : va_S A s.heap H locs) (ls : Array Slot) (hl : lv_has ls 7 [(0, .ref adM), (1, .int v1), (2, .int v2)]), W p l e R s m args below meth c H locs 0 0 (MQ below (q_M_writeAck dC dI cB cI cL A adM adM_tape adM_frameAt adM_field adM_draft adM_given adM_low adM_high adM_packet adM_known a) args s 0 0 A) (F0 m 61 ls []) := by
  intro k
  induction k with
  | zero => intro sM v1 v2 a hG; exact absurd hG (by unfold g_M_writeAck_61; simp)
  | succ k ih => intro sM v1 v2 a hG adM adM_tape adM_frameAt adM_field adM_draft adM_given adM_low adM_high adM_packet adM_known H locs hP hD hS ls hl; exact k_M_writeAck_61_b _ ih X hA zz N sM v1 v2 a hG adM adM_tape adM_frameAt adM_field adM_draft adM_given adM_low adM_high adM_packet adM_known H locs hP hD hS ls hl
set_option maxRecDepth 100000 in
set_option maxHeartbeats 4000000 in
theorem k_M_writeAck_0 {p : Program} {l : Launch} {e : Env} {R : Room} {s : State} {m : MethodId} {args : Array Value} {below : List Frame} {meth : Method} {c : Code} {dC : Nat → ClassId} {dI : Nat → Nat → Nat} {cB cI cL : ClassId} {A : Nat → Prop} (X : zx p s m args meth c R R_M b_M_writeAck none 7 2 49) (hA : ∀ q, s.heap.size ≤ q → A q) (zz : zk dC dI cB cI cL A s)  (N : Nat) (sM : zM) (v1 : Int32) (a : zM) (hG : g_M_writeAck N sM v1 = some a) (adM adM_tape adM_frameAt adM_field adM_draft adM_given adM_low adM_high adM_packet adM_known : Nat) (H : Heap) (locs : List Loc) (hP : va_P (dC, dI) zcl (zwM adM adM_tape adM_frameAt adM_field adM_draft adM_given adM_low adM_high adM_packet adM_known cB cI cL sM) H) (hD : va_D A (zwM adM adM_tape adM_frameAt adM_field adM_draft adM_given adM_low adM_high adM_packet adM_known cB cI cL sM)) (hS : va_S A s.heap H locs) (ls : Array Slot) (hl : lv_has ls 7 [(0, .ref adM), (1, .int v1)]) : W p l e R s m args below meth c H locs 0 0 (MQ below (q_M_writeAck dC dI cB cI cL A adM adM_tape adM_frameAt adM_field adM_draft adM_given adM_low adM_high adM_packet adM_known a) args s 0 0 A) (F0 m 0 ls []) := by
  obtain ⟨hx, hb, hr, hml, hown, hts, hlocks, hRf, hRl⟩ := id X
  unfold g_M_writeAck at hG
  refine lv_aload_n hx hb d_M_writeAck_0 rfl (lv_at hl 0 rfl) ?_
  refine lv_aload_n hx hb d_M_writeAck_1 rfl (lv_at hl 0 rfl) ?_
  refine va_get (D := (dC, dI)) (ci := 8) (v := .ref adM_high) (C := R_M) (T := F_M) (N := 26) hx hb hts zi_M hown zz.1 hP 0 rfl rfl 21 (by decide) (hts (.fieldLink R_M 35 "WireCodecModel" "high" "[J") zin_M_35) (fun _ h9 => h9) rfl d_M_writeAck_2 ?_
  refine lv_iconst (v := (0 : Int32)) hx hb d_M_writeAck_5 (by decide) ?_
  obtain ⟨hin, hG⟩ := zgd hG
  refine va_lald hx hb zz.1 hP 7 2 rfl rfl hin d_M_writeAck_6 ?_
  refine lv_aload_n hx hb d_M_writeAck_7 rfl (lv_at hl 0 rfl) ?_
  refine va_get (D := (dC, dI)) (ci := 8) (v := .ref adM_high) (C := R_M) (T := F_M) (N := 26) hx hb hts zi_M hown zz.1 hP 0 rfl rfl 21 (by decide) (hts (.fieldLink R_M 35 "WireCodecModel" "high" "[J") zin_M_35) (fun _ h9 => h9) rfl d_M_writeAck_8 ?_
  refine lv_iconst (v := (0 : Int32)) hx hb d_M_writeAck_11 (by decide) ?_
  obtain ⟨hin, hG⟩ := zgd hG
  refine va_lald hx hb zz.1 hP 7 2 rfl rfl hin d_M_writeAck_12 ?_
  obtain ⟨a_13, hx_13, hG⟩ := zb hG
  have hr_13 := zrunS (p := p) (e := e) (below := below) (meth := meth) (As := [.long ((zM_high sM) (0 : Int32).toNatClampNeg)]) (rest := [.long ((zM_high sM) (0 : Int32).toNatClampNeg), .ref adM]) (st0 := [.long ((zM_high sM) (0 : Int32).toNatClampNeg), .long ((zM_high sM) (0 : Int32).toNatClampNeg), .ref adM]) (cells := 0) (slots := 0) X zz hP hD hS hA [] (by decide) rfl (c_M_needs l dC dI cB cI cL H.size ((zM_high sM) (0 : Int32).toNatClampNeg) _ hx_13) zy_M_needs zv_M_needs (hts (.methodLink R_M 84 y_M_needs) zin_M_84) hl rfl rfl d_M_writeAck_13 (lv_room (Nat.le_of_ble_eq_true rfl)) rfl rfl ⟨Nat.le_trans (Nat.le_of_ble_eq_true rfl) hRf, Nat.le_trans (Nat.le_of_ble_eq_true rfl) hRl⟩ ⟨Nat.zero_le _, Nat.zero_le _⟩
  refine zcalli (wr := (zwM adM adM_tape adM_frameAt adM_field adM_draft adM_given adM_low adM_high adM_packet adM_known cB cI cL sM)) hr_13 hP hD hS hA [] [0, 1, 2, 3, 4, 5, 6, 7, 8, 9] rfl rfl (by decide) (by decide) (fun r_13 u_13 H locs hw_13 hP hD hS => ?_)
  subst hw_13
  have hP : va_P (dC, dI) zcl (zwM adM adM_tape adM_frameAt adM_field adM_draft adM_given adM_low adM_high adM_packet adM_known cB cI cL sM) H := hP
  have hD : va_D A (zwM adM adM_tape adM_frameAt adM_field adM_draft adM_given adM_low adM_high adM_packet adM_known cB cI cL sM) := hD
  have hG : g_M_writeAck_c13 N sM v1 r_13 = some a := hG
  unfold g_M_writeAck_c13 at hG
  obtain ⟨a_16, hx_16, hG⟩ := zb hG
  have hr_16 := zrunV (p := p) (e := e) (below := below) (meth := meth) (As := [.long ((zM_high sM) (0 : Int32).toNatClampNeg), .int r_13]) (rest := []) (st0 := [.int r_13, .long ((zM_high sM) (0 : Int32).toNatClampNeg), .ref adM]) (cells := 0) (slots := 0) X zz hP hD hS hA [0, 1, 2, 3, 4, 5, 6, 7, 8, 9] (by decide) rfl (c_M_writeNumber l dC dI cB cI cL H.size adM adM_tape adM_frameAt adM_field adM_draft adM_given adM_low adM_high adM_packet adM_known N sM ((zM_high sM) (0 : Int32).toNatClampNeg) r_13 _ hx_16) zy_M_writeNumber zv_M_writeNumber (hts (.methodLink R_M 88 y_M_writeNumber) zin_M_88) hl rfl rfl d_M_writeAck_16 (lv_room (Nat.le_of_ble_eq_true rfl)) rfl rfl ⟨Nat.le_trans (Nat.le_of_ble_eq_true rfl) hRf, Nat.le_trans (Nat.le_of_ble_eq_true rfl) hRl⟩ ⟨Nat.zero_le _, Nat.zero_le _⟩ 0 8 rfl rfl
  refine zcallv (wr := ([] : va_W)) hr_16 hP hD hS hA [0, 1, 2, 3, 4, 5, 6, 7, 8, 9] [] rfl rfl (by decide) (by decide) (fun u_16 H locs hw_16 hP hD hS => ?_)
  obtain ⟨sM_16, rfl⟩ : ∃ z, z = u_16 := ⟨_, rfl⟩
  subst hw_16
  have hP : va_P (dC, dI) zcl (zwM adM adM_tape adM_frameAt adM_field adM_draft adM_given adM_low adM_high adM_packet adM_known cB cI cL sM_16) H := hP
  have hD : va_D A (zwM adM adM_tape adM_frameAt adM_field adM_draft adM_given adM_low adM_high adM_packet adM_known cB cI cL sM_16) := hD
  have hG : g_M_writeAck_c16 N v1 sM_16 = some a := hG
  unfold g_M_writeAck_c16 at hG
  refine lv_aload_n hx hb d_M_writeAck_19 rfl (lv_at hl 0 rfl) ?_
  refine lv_aload_n hx hb d_M_writeAck_20 rfl (lv_at hl 0 rfl) ?_
  refine va_get (D := (dC, dI)) (ci := 8) (v := .ref adM_draft) (C := R_M) (T := F_M) (N := 26) hx hb hts zi_M hown zz.1 hP 0 rfl rfl 17 (by decide) (hts (.fieldLink R_M 26 "WireCodecModel" "draft" "[J") zin_M_26) (fun _ h9 => h9) rfl d_M_writeAck_21 ?_
  refine lv_iconst (v := (1 : Int32)) hx hb d_M_writeAck_24 (by decide) ?_
  obtain ⟨hin, hG⟩ := zgd hG
  refine va_lald hx hb zz.1 hP 4 2 rfl rfl hin d_M_writeAck_25 ?_
  refine lv_aload_n hx hb d_M_writeAck_26 rfl (lv_at hl 0 rfl) ?_
  refine va_get (D := (dC, dI)) (ci := 8) (v := .ref adM_draft) (C := R_M) (T := F_M) (N := 26) hx hb hts zi_M hown zz.1 hP 0 rfl rfl 17 (by decide) (hts (.fieldLink R_M 26 "WireCodecModel" "draft" "[J") zin_M_26) (fun _ h9 => h9) rfl d_M_writeAck_27 ?_
  refine lv_iconst (v := (1 : Int32)) hx hb d_M_writeAck_30 (by decide) ?_
  obtain ⟨hin, hG⟩ := zgd hG
  refine va_lald hx hb zz.1 hP 4 2 rfl rfl hin d_M_writeAck_31 ?_
  obtain ⟨a_32, hx_32, hG⟩ := zb hG
  have hr_32 := zrunS (p := p) (e := e) (below := below) (meth := meth) (As := [.long ((zM_draft sM_16) (1 : Int32).toNatClampNeg)]) (rest := [.long ((zM_draft sM_16) (1 : Int32).toNatClampNeg), .ref adM]) (st0 := [.long ((zM_draft sM_16) (1 : Int32).toNatClampNeg), .long ((zM_draft sM_16) (1 : Int32).toNatClampNeg), .ref adM]) (cells := 0) (slots := 0) X zz hP hD hS hA [] (by decide) rfl (c_M_needs l dC dI cB cI cL H.size ((zM_draft sM_16) (1 : Int32).toNatClampNeg) _ hx_32) zy_M_needs zv_M_needs (hts (.methodLink R_M 84 y_M_needs) zin_M_84) hl rfl rfl d_M_writeAck_32 (lv_room (Nat.le_of_ble_eq_true rfl)) rfl rfl ⟨Nat.le_trans (Nat.le_of_ble_eq_true rfl) hRf, Nat.le_trans (Nat.le_of_ble_eq_true rfl) hRl⟩ ⟨Nat.zero_le _, Nat.zero_le _⟩
  refine zcalli (wr := (zwM adM adM_tape adM_frameAt adM_field adM_draft adM_given adM_low adM_high adM_packet adM_known cB cI cL sM_16)) hr_32 hP hD hS hA [] [0, 1, 2, 3, 4, 5, 6, 7, 8, 9] rfl rfl (by decide) (by decide) (fun r_32 u_32 H locs hw_32 hP hD hS => ?_)
  subst hw_32
  have hP : va_P (dC, dI) zcl (zwM adM adM_tape adM_frameAt adM_field adM_draft adM_given adM_low adM_high adM_packet adM_known cB cI cL sM_16) H := hP
  have hD : va_D A (zwM adM adM_tape adM_frameAt adM_field adM_draft adM_given adM_low adM_high adM_packet adM_known cB cI cL sM_16) := hD
  have hG : g_M_writeAck_c32 N v1 sM_16 r_32 = some a := hG
  unfold g_M_writeAck_c32 at hG
  obtain ⟨a_35, hx_35, hG⟩ := zb hG
  have hr_35 := zrunV (p := p) (e := e) (below := below) (meth := meth) (As := [.long ((zM_draft sM_16) (1 : Int32).toNatClampNeg), .int r_32]) (rest := []) (st0 := [.int r_32, .long ((zM_draft sM_16) (1 : Int32).toNatClampNeg), .ref adM]) (cells := 0) (slots := 0) X zz hP hD hS hA [0, 1, 2, 3, 4, 5, 6, 7, 8, 9] (by decide) rfl (c_M_writeNumber l dC dI cB cI cL H.size adM adM_tape adM_frameAt adM_field adM_draft adM_given adM_low adM_high adM_packet adM_known N sM_16 ((zM_draft sM_16) (1 : Int32).toNatClampNeg) r_32 _ hx_35) zy_M_writeNumber zv_M_writeNumber (hts (.methodLink R_M 88 y_M_writeNumber) zin_M_88) hl rfl rfl d_M_writeAck_35 (lv_room (Nat.le_of_ble_eq_true rfl)) rfl rfl ⟨Nat.le_trans (Nat.le_of_ble_eq_true rfl) hRf, Nat.le_trans (Nat.le_of_ble_eq_true rfl) hRl⟩ ⟨Nat.zero_le _, Nat.zero_le _⟩ 0 8 rfl rfl
  refine zcallv (wr := ([] : va_W)) hr_35 hP hD hS hA [0, 1, 2, 3, 4, 5, 6, 7, 8, 9] [] rfl rfl (by decide) (by decide) (fun u_35 H locs hw_35 hP hD hS => ?_)
  obtain ⟨sM_35, rfl⟩ : ∃ z, z = u_35 := ⟨_, rfl⟩
  subst hw_35
  have hP : va_P (dC, dI) zcl (zwM adM adM_tape adM_frameAt adM_field adM_draft adM_given adM_low adM_high adM_packet adM_known cB cI cL sM_35) H := hP
  have hD : va_D A (zwM adM adM_tape adM_frameAt adM_field adM_draft adM_given adM_low adM_high adM_packet adM_known cB cI cL sM_35) := hD
  have hG : g_M_writeAck_c35 N v1 sM_35 = some a := hG
  unfold g_M_writeAck_c35 at hG
  refine lv_aload_n hx hb d_M_writeAck_38 rfl (lv_at hl 0 rfl) ?_
  refine lv_aload_n hx hb d_M_writeAck_39 rfl (lv_at hl 0 rfl) ?_
  refine va_get (D := (dC, dI)) (ci := 8) (v := .int (zM_spans sM_35)) (C := R_M) (T := F_M) (N := 26) hx hb hts zi_M hown zz.1 hP 0 rfl rfl 22 (by decide) (hts (.fieldLink R_M 214 "WireCodecModel" "spans" "I") zin_M_214) (fun _ h9 => h9) rfl d_M_writeAck_40 ?_
  refine lv_i2l hx hb d_M_writeAck_43 rfl ?_
  refine lv_lconst (v := (1 : Int64)) hx hb d_M_writeAck_44 (by decide) ?_
  refine lv_lsub hx hb d_M_writeAck_45 ?_
  refine lv_aload_n hx hb d_M_writeAck_46 rfl (lv_at hl 0 rfl) ?_
  refine va_get (D := (dC, dI)) (ci := 8) (v := .int (zM_spans sM_35)) (C := R_M) (T := F_M) (N := 26) hx hb hts zi_M hown zz.1 hP 0 rfl rfl 22 (by decide) (hts (.fieldLink R_M 214 "WireCodecModel" "spans" "I") zin_M_214) (fun _ h9 => h9) rfl d_M_writeAck_47 ?_
  refine lv_i2l hx hb d_M_writeAck_50 rfl ?_
  refine lv_lconst (v := (1 : Int64)) hx hb d_M_writeAck_51 (by decide) ?_
  refine lv_lsub hx hb d_M_writeAck_52 ?_
  obtain ⟨a_53, hx_53, hG⟩ := zb hG
  have hr_53 := zrunS (p := p) (e := e) (below := below) (meth := meth) (As := [.long (((zM_spans sM_35).toInt64) - (1 : Int64))]) (rest := [.long (((zM_spans sM_35).toInt64) - (1 : Int64)), .ref adM]) (st0 := [.long (((zM_spans sM_35).toInt64) - (1 : Int64)), .long (((zM_spans sM_35).toInt64) - (1 : Int64)), .ref adM]) (cells := 0) (slots := 0) X zz hP hD hS hA [] (by decide) rfl (c_M_needs l dC dI cB cI cL H.size (((zM_spans sM_35).toInt64) - (1 : Int64)) _ hx_53) zy_M_needs zv_M_needs (hts (.methodLink R_M 84 y_M_needs) zin_M_84) hl rfl rfl d_M_writeAck_53 (lv_room (Nat.le_of_ble_eq_true rfl)) rfl rfl ⟨Nat.le_trans (Nat.le_of_ble_eq_true rfl) hRf, Nat.le_trans (Nat.le_of_ble_eq_true rfl) hRl⟩ ⟨Nat.zero_le _, Nat.zero_le _⟩
  refine zcalli (wr := (zwM adM adM_tape adM_frameAt adM_field adM_draft adM_given adM_low adM_high adM_packet adM_known cB cI cL sM_35)) hr_53 hP hD hS hA [] [0, 1, 2, 3, 4, 5, 6, 7, 8, 9] rfl rfl (by decide) (by decide) (fun r_53 u_53 H locs hw_53 hP hD hS => ?_)
  subst hw_53
  have hP : va_P (dC, dI) zcl (zwM adM adM_tape adM_frameAt adM_field adM_draft adM_given adM_low adM_high adM_packet adM_known cB cI cL sM_35) H := hP
  have hD : va_D A (zwM adM adM_tape adM_frameAt adM_field adM_draft adM_given adM_low adM_high adM_packet adM_known cB cI cL sM_35) := hD
  have hG : g_M_writeAck_c53 N v1 sM_35 r_53 = some a := hG
  unfold g_M_writeAck_c53 at hG
  obtain ⟨a_56, hx_56, hG⟩ := zb hG
  have hr_56 := zrunV (p := p) (e := e) (below := below) (meth := meth) (As := [.long (((zM_spans sM_35).toInt64) - (1 : Int64)), .int r_53]) (rest := []) (st0 := [.int r_53, .long (((zM_spans sM_35).toInt64) - (1 : Int64)), .ref adM]) (cells := 0) (slots := 0) X zz hP hD hS hA [0, 1, 2, 3, 4, 5, 6, 7, 8, 9] (by decide) rfl (c_M_writeNumber l dC dI cB cI cL H.size adM adM_tape adM_frameAt adM_field adM_draft adM_given adM_low adM_high adM_packet adM_known N sM_35 (((zM_spans sM_35).toInt64) - (1 : Int64)) r_53 _ hx_56) zy_M_writeNumber zv_M_writeNumber (hts (.methodLink R_M 88 y_M_writeNumber) zin_M_88) hl rfl rfl d_M_writeAck_56 (lv_room (Nat.le_of_ble_eq_true rfl)) rfl rfl ⟨Nat.le_trans (Nat.le_of_ble_eq_true rfl) hRf, Nat.le_trans (Nat.le_of_ble_eq_true rfl) hRl⟩ ⟨Nat.zero_le _, Nat.zero_le _⟩ 0 8 rfl rfl
  refine zcallv (wr := ([] : va_W)) hr_56 hP hD hS hA [0, 1, 2, 3, 4, 5, 6, 7, 8, 9] [] rfl rfl (by decide) (by decide) (fun u_56 H locs hw_56 hP hD hS => ?_)
  obtain ⟨sM_56, rfl⟩ : ∃ z, z = u_56 := ⟨_, rfl⟩
  subst hw_56
  have hP : va_P (dC, dI) zcl (zwM adM adM_tape adM_frameAt adM_field adM_draft adM_given adM_low adM_high adM_packet adM_known cB cI cL sM_56) H := hP
  have hD : va_D A (zwM adM adM_tape adM_frameAt adM_field adM_draft adM_given adM_low adM_high adM_packet adM_known cB cI cL sM_56) := hD
  have hG : g_M_writeAck_c56 N v1 sM_56 = some a := hG
  unfold g_M_writeAck_c56 at hG
  refine lv_iconst (v := (0 : Int32)) hx hb d_M_writeAck_59 (by decide) ?_
  refine lv_istore_n (lv' := [(2, .int (0 : Int32)), (0, .ref adM), (1, .int v1)]) hx hb d_M_writeAck_60 rfl hl (by decide) rfl (fun ls hl => ?_)
  exact k_M_writeAck_61 X hA zz N N sM_56 v1 (0 : Int32) _ hG adM adM_tape adM_frameAt adM_field adM_draft adM_given adM_low adM_high adM_packet adM_known _ _ hP hD hS _ (lv_sub hl [1, 2, 0] rfl)
set_option maxRecDepth 100000 in
set_option maxHeartbeats 4000000 in
theorem c_M_writeAck (l : Launch) (dC : Nat → ClassId) (dI : Nat → Nat → Nat) (cB cI cL : ClassId) (sz : Nat) (adM adM_tape adM_frameAt adM_field adM_draft adM_given adM_low adM_high adM_packet adM_known : Nat) (N : Nat) (sM : zM) (v1 : Int32) (a : zM) (hG : g_M_writeAck N sM v1 = some a) : Met l y_M_writeAck (zw y_M_writeAck b_M_writeAck 7 none) ({ frames := 2, cells := 0, slots := 0, locals := 49 }) (va_Pc [.ref adM, .int v1] (zpre dC dI cB cI cL sz (zwM adM adM_tape adM_frameAt adM_field adM_draft adM_given adM_low adM_high adM_packet adM_known cB cI cL sM))) (q_M_writeAck dC dI cB cI cL (va_A (zwM adM adM_tape adM_frameAt adM_field adM_draft adM_given adM_low adM_high adM_packet adM_known cB cI cL sM) sz) adM adM_tape adM_frameAt adM_field adM_draft adM_given adM_low adM_high adM_packet adM_known a) 0 0 (va_A (zwM adM adM_tape adM_frameAt adM_field adM_draft adM_given adM_low adM_high adM_packet adM_known cB cI cL sM) sz) := by
  refine Met.ofW (cc := b_M_writeAck) (maxL := 7) (ret := none) (by decide) rfl ?_
  intro p e s m args below meth c s₁ B hml hv
  obtain ⟨rfl, hsz, hP, zz, hD0⟩ := hv
  subst hsz
  have X := zx_of (F := 2) (L := 49) B hml (Nat.le_refl _) (Nat.le_refl _)
  have hD := hD0.self (sz := s.heap.size)
  have hA : ∀ q : Nat, s.heap.size ≤ q → va_A (zwM adM adM_tape adM_frameAt adM_field adM_draft adM_given adM_low adM_high adM_packet adM_known cB cI cL sM) s.heap.size q := fun q h => Or.inr h
  have hl := lv_entry ([.ref adM, .int v1]) (n := 7) (Nat.le_of_ble_eq_true rfl)
  rw [lg_entry_eq]
  generalize (lg_sl ([.ref adM, .int v1]) ++ List.replicate (7 - (lg_sl ([.ref adM, .int v1])).length) Slot.unset).toArray = ls at hl ⊢
  exact k_M_writeAck_0 X hA zz N sM v1 a hG adM adM_tape adM_frameAt adM_field adM_draft adM_given adM_low adM_high adM_packet adM_known _ _ hP hD va_S.rf ls hl
noncomputable def g_M_writeStream_c82 (sM_82 : zM) : Option (zM) := some (sM_82)
noncomputable def g_M_writeStream_77 (N : Nat) (sM : zM) : Option (zM) := (g_M_writeGiven N sM (zM_gives sM)).bind (fun a => g_M_writeStream_c82 a)
noncomputable def g_M_writeStream_c74 (N : Nat) (sM_74 : zM) : Option (zM) := g_M_writeStream_77 N sM_74
noncomputable def g_M_writeStream_c71 (N : Nat) (sM : zM) (r_71 : Int32) : Option (zM) := (g_M_writeNumber N sM ((zM_gives sM).toInt64) r_71).bind (fun a => g_M_writeStream_c74 N a)
noncomputable def g_M_writeStream_49 (N : Nat) (sM : zM) : Option (zM) := zg (vp_in (3 : Int32) 12) (if (lg_cmp ((zM_draft sM) (3 : Int32).toNatClampNeg) (1 : Int64)) = (0 : Int32) then ((g_M_needs ((zM_gives sM).toInt64)).bind (fun a => g_M_writeStream_c71 N sM a)) else (g_M_writeStream_77 N sM))
noncomputable def g_M_writeStream_c46 (N : Nat) (sM_46 : zM) : Option (zM) := g_M_writeStream_49 N sM_46
noncomputable def g_M_writeStream_c43 (N : Nat) (sM_16 : zM) (r_43 : Int32) : Option (zM) := (g_M_writeNumber N sM_16 ((zM_draft sM_16) (1 : Int32).toNatClampNeg) r_43).bind (fun a => g_M_writeStream_c46 N a)
noncomputable def g_M_writeStream_c16 (N : Nat) (sM_16 : zM) : Option (zM) := zg (vp_in (1 : Int32) 12) (if (lg_cmp ((zM_draft sM_16) (1 : Int32).toNatClampNeg) (0 : Int64)) = (0 : Int32) then (g_M_writeStream_49 N sM_16) else (zg (vp_in (1 : Int32) 12) (zg (vp_in (1 : Int32) 12) ((g_M_needs ((zM_draft sM_16) (1 : Int32).toNatClampNeg)).bind (fun a => g_M_writeStream_c43 N sM_16 a)))))
noncomputable def g_M_writeStream_c13 (N : Nat) (sM : zM) (r_13 : Int32) : Option (zM) := (g_M_writeNumber N sM ((zM_draft sM) (0 : Int32).toNatClampNeg) r_13).bind (fun a => g_M_writeStream_c16 N a)
noncomputable def g_M_writeStream (N : Nat) (sM : zM) : Option (zM) := zg (vp_in (0 : Int32) 12) (zg (vp_in (0 : Int32) 12) ((g_M_needs ((zM_draft sM) (0 : Int32).toNatClampNeg)).bind (fun a => g_M_writeStream_c13 N sM a)))
def q_M_writeStream (dC : Nat → ClassId) (dI : Nat → Nat → Nat) (cB cI cL : ClassId) (A : Nat → Prop) (adM : Nat) (adM_tape : Nat) (adM_frameAt : Nat) (adM_field : Nat) (adM_draft : Nat) (adM_given : Nat) (adM_low : Nat) (adM_high : Nat) (adM_packet : Nat) (adM_known : Nat) (a : zM) : Array Value → State → Outcome → State → Prop := va_Qv (fun (u : zM) => (u) = a) (fun u U => va_P (dC, dI) zcl (zwM adM adM_tape adM_frameAt adM_field adM_draft adM_given adM_low adM_high adM_packet adM_known cB cI cL u) U.heap ∧ va_D A (zwM adM adM_tape adM_frameAt adM_field adM_draft adM_given adM_low adM_high adM_packet adM_known cB cI cL u)) A
set_option maxRecDepth 100000 in
set_option maxHeartbeats 4000000 in
theorem k_M_writeStream_77 {p : Program} {l : Launch} {e : Env} {R : Room} {s : State} {m : MethodId} {args : Array Value} {below : List Frame} {meth : Method} {c : Code} {dC : Nat → ClassId} {dI : Nat → Nat → Nat} {cB cI cL : ClassId} {A : Nat → Prop} (X : zx p s m args meth c R R_M b_M_writeStream none 1 2 49) (hA : ∀ q, s.heap.size ≤ q → A q) (zz : zk dC dI cB cI cL A s)  (N : Nat) (sM : zM) (a : zM) (hG : g_M_writeStream_77 N sM = some a) (adM adM_tape adM_frameAt adM_field adM_draft adM_given adM_low adM_high adM_packet adM_known : Nat) (H : Heap) (locs : List Loc) (hP : va_P (dC, dI) zcl (zwM adM adM_tape adM_frameAt adM_field adM_draft adM_given adM_low adM_high adM_packet adM_known cB cI cL sM) H) (hD : va_D A (zwM adM adM_tape adM_frameAt adM_field adM_draft adM_given adM_low adM_high adM_packet adM_known cB cI cL sM)) (hS : va_S A s.heap H locs) (ls : Array Slot) (hl : lv_has ls 1 [(0, .ref adM)]) : W p l e R s m args below meth c H locs 0 0 (MQ below (q_M_writeStream dC dI cB cI cL A adM adM_tape adM_frameAt adM_field adM_draft adM_given adM_low adM_high adM_packet adM_known a) args s 0 0 A) (F0 m 77 ls []) := by
  obtain ⟨hx, hb, hr, hml, hown, hts, hlocks, hRf, hRl⟩ := id X
  unfold g_M_writeStream_77 at hG
  refine lv_aload_n hx hb d_M_writeStream_77 rfl (lv_at hl 0 rfl) ?_
  refine lv_aload_n hx hb d_M_writeStream_78 rfl (lv_at hl 0 rfl) ?_
  refine va_get (D := (dC, dI)) (ci := 8) (v := .int (zM_gives sM)) (C := R_M) (T := F_M) (N := 26) hx hb hts zi_M hown zz.1 hP 0 rfl rfl 19 (by decide) (hts (.fieldLink R_M 211 "WireCodecModel" "gives" "I") zin_M_211) (fun _ h9 => h9) rfl d_M_writeStream_79 ?_
  obtain ⟨a_82, hx_82, hG⟩ := zb hG
  have hr_82 := zrunV (p := p) (e := e) (below := below) (meth := meth) (As := [.int (zM_gives sM)]) (rest := []) (st0 := [.int (zM_gives sM), .ref adM]) (cells := 0) (slots := 0) X zz hP hD hS hA [0, 1, 2, 3, 4, 5, 6, 7, 8, 9] (by decide) rfl (c_M_writeGiven l dC dI cB cI cL H.size adM adM_tape adM_frameAt adM_field adM_draft adM_given adM_low adM_high adM_packet adM_known N sM (zM_gives sM) _ hx_82) zy_M_writeGiven zv_M_writeGiven (hts (.methodLink R_M 225 y_M_writeGiven) zin_M_225) hl rfl rfl d_M_writeStream_82 (lv_room (Nat.le_of_ble_eq_true rfl)) rfl rfl ⟨Nat.le_trans (Nat.le_of_ble_eq_true rfl) hRf, Nat.le_trans (Nat.le_of_ble_eq_true rfl) hRl⟩ ⟨Nat.zero_le _, Nat.zero_le _⟩ 0 8 rfl rfl
  refine zcallv (wr := ([] : va_W)) hr_82 hP hD hS hA [0, 1, 2, 3, 4, 5, 6, 7, 8, 9] [] rfl rfl (by decide) (by decide) (fun u_82 H locs hw_82 hP hD hS => ?_)
  obtain ⟨sM_82, rfl⟩ : ∃ z, z = u_82 := ⟨_, rfl⟩
  subst hw_82
  have hP : va_P (dC, dI) zcl (zwM adM adM_tape adM_frameAt adM_field adM_draft adM_given adM_low adM_high adM_packet adM_known cB cI cL sM_82) H := hP
  have hD : va_D A (zwM adM adM_tape adM_frameAt adM_field adM_draft adM_given adM_low adM_high adM_packet adM_known cB cI cL sM_82) := hD
  have hG : g_M_writeStream_c82 sM_82 = some a := hG
  unfold g_M_writeStream_c82 at hG
  exact W.vret hx hb hr (fun t9 ht9 hW9 => ⟨⟨(sM_82), rfl, Option.some.inj hG, by rw [ht9]; exact hP, hD⟩, hS.F ht9⟩) hS.2.2 d_M_writeStream_85
set_option maxRecDepth 100000 in
set_option maxHeartbeats 4000000 in
theorem k_M_writeStream_49 {p : Program} {l : Launch} {e : Env} {R : Room} {s : State} {m : MethodId} {args : Array Value} {below : List Frame} {meth : Method} {c : Code} {dC : Nat → ClassId} {dI : Nat → Nat → Nat} {cB cI cL : ClassId} {A : Nat → Prop} (X : zx p s m args meth c R R_M b_M_writeStream none 1 2 49) (hA : ∀ q, s.heap.size ≤ q → A q) (zz : zk dC dI cB cI cL A s)  (N : Nat) (sM : zM) (a : zM) (hG : g_M_writeStream_49 N sM = some a) (adM adM_tape adM_frameAt adM_field adM_draft adM_given adM_low adM_high adM_packet adM_known : Nat) (H : Heap) (locs : List Loc) (hP : va_P (dC, dI) zcl (zwM adM adM_tape adM_frameAt adM_field adM_draft adM_given adM_low adM_high adM_packet adM_known cB cI cL sM) H) (hD : va_D A (zwM adM adM_tape adM_frameAt adM_field adM_draft adM_given adM_low adM_high adM_packet adM_known cB cI cL sM)) (hS : va_S A s.heap H locs) (ls : Array Slot) (hl : lv_has ls 1 [(0, .ref adM)]) : W p l e R s m args below meth c H locs 0 0 (MQ below (q_M_writeStream dC dI cB cI cL A adM adM_tape adM_frameAt adM_field adM_draft adM_given adM_low adM_high adM_packet adM_known a) args s 0 0 A) (F0 m 49 ls []) := by
  obtain ⟨hx, hb, hr, hml, hown, hts, hlocks, hRf, hRl⟩ := id X
  unfold g_M_writeStream_49 at hG
  refine lv_aload_n hx hb d_M_writeStream_49 rfl (lv_at hl 0 rfl) ?_
  refine va_get (D := (dC, dI)) (ci := 8) (v := .ref adM_draft) (C := R_M) (T := F_M) (N := 26) hx hb hts zi_M hown zz.1 hP 0 rfl rfl 17 (by decide) (hts (.fieldLink R_M 26 "WireCodecModel" "draft" "[J") zin_M_26) (fun _ h9 => h9) rfl d_M_writeStream_50 ?_
  refine lv_iconst (v := (3 : Int32)) hx hb d_M_writeStream_53 (by decide) ?_
  obtain ⟨hin, hG⟩ := zgd hG
  refine va_lald hx hb zz.1 hP 4 2 rfl rfl hin d_M_writeStream_54 ?_
  refine lv_lconst (v := (1 : Int64)) hx hb d_M_writeStream_55 (by decide) ?_
  refine W.lcmp hx hb d_M_writeStream_56 ?_
  refine lv_if_ne (tgt := 77) hx hb d_M_writeStream_57 (by decide) (fun hc => ?_) (fun hc => ?_)
  · have hG := zf hG hc
    exact k_M_writeStream_77 X hA zz N sM _ hG adM adM_tape adM_frameAt adM_field adM_draft adM_given adM_low adM_high adM_packet adM_known _ _ hP hD hS _ (lv_sub hl [0] rfl)
  · have hG := zt hG hc
    refine lv_aload_n hx hb d_M_writeStream_60 rfl (lv_at hl 0 rfl) ?_
    refine lv_aload_n hx hb d_M_writeStream_61 rfl (lv_at hl 0 rfl) ?_
    refine va_get (D := (dC, dI)) (ci := 8) (v := .int (zM_gives sM)) (C := R_M) (T := F_M) (N := 26) hx hb hts zi_M hown zz.1 hP 0 rfl rfl 19 (by decide) (hts (.fieldLink R_M 211 "WireCodecModel" "gives" "I") zin_M_211) (fun _ h9 => h9) rfl d_M_writeStream_62 ?_
    refine lv_i2l hx hb d_M_writeStream_65 rfl ?_
    refine lv_aload_n hx hb d_M_writeStream_66 rfl (lv_at hl 0 rfl) ?_
    refine va_get (D := (dC, dI)) (ci := 8) (v := .int (zM_gives sM)) (C := R_M) (T := F_M) (N := 26) hx hb hts zi_M hown zz.1 hP 0 rfl rfl 19 (by decide) (hts (.fieldLink R_M 211 "WireCodecModel" "gives" "I") zin_M_211) (fun _ h9 => h9) rfl d_M_writeStream_67 ?_
    refine lv_i2l hx hb d_M_writeStream_70 rfl ?_
    obtain ⟨a_71, hx_71, hG⟩ := zb hG
    have hr_71 := zrunS (p := p) (e := e) (below := below) (meth := meth) (As := [.long ((zM_gives sM).toInt64)]) (rest := [.long ((zM_gives sM).toInt64), .ref adM]) (st0 := [.long ((zM_gives sM).toInt64), .long ((zM_gives sM).toInt64), .ref adM]) (cells := 0) (slots := 0) X zz hP hD hS hA [] (by decide) rfl (c_M_needs l dC dI cB cI cL H.size ((zM_gives sM).toInt64) _ hx_71) zy_M_needs zv_M_needs (hts (.methodLink R_M 84 y_M_needs) zin_M_84) hl rfl rfl d_M_writeStream_71 (lv_room (Nat.le_of_ble_eq_true rfl)) rfl rfl ⟨Nat.le_trans (Nat.le_of_ble_eq_true rfl) hRf, Nat.le_trans (Nat.le_of_ble_eq_true rfl) hRl⟩ ⟨Nat.zero_le _, Nat.zero_le _⟩
    refine zcalli (wr := (zwM adM adM_tape adM_frameAt adM_field adM_draft adM_given adM_low adM_high adM_packet adM_known cB cI cL sM)) hr_71 hP hD hS hA [] [0, 1, 2, 3, 4, 5, 6, 7, 8, 9] rfl rfl (by decide) (by decide) (fun r_71 u_71 H locs hw_71 hP hD hS => ?_)
    subst hw_71
    have hP : va_P (dC, dI) zcl (zwM adM adM_tape adM_frameAt adM_field adM_draft adM_given adM_low adM_high adM_packet adM_known cB cI cL sM) H := hP
    have hD : va_D A (zwM adM adM_tape adM_frameAt adM_field adM_draft adM_given adM_low adM_high adM_packet adM_known cB cI cL sM) := hD
    have hG : g_M_writeStream_c71 N sM r_71 = some a := hG
    unfold g_M_writeStream_c71 at hG
    obtain ⟨a_74, hx_74, hG⟩ := zb hG
    have hr_74 := zrunV (p := p) (e := e) (below := below) (meth := meth) (As := [.long ((zM_gives sM).toInt64), .int r_71]) (rest := []) (st0 := [.int r_71, .long ((zM_gives sM).toInt64), .ref adM]) (cells := 0) (slots := 0) X zz hP hD hS hA [0, 1, 2, 3, 4, 5, 6, 7, 8, 9] (by decide) rfl (c_M_writeNumber l dC dI cB cI cL H.size adM adM_tape adM_frameAt adM_field adM_draft adM_given adM_low adM_high adM_packet adM_known N sM ((zM_gives sM).toInt64) r_71 _ hx_74) zy_M_writeNumber zv_M_writeNumber (hts (.methodLink R_M 88 y_M_writeNumber) zin_M_88) hl rfl rfl d_M_writeStream_74 (lv_room (Nat.le_of_ble_eq_true rfl)) rfl rfl ⟨Nat.le_trans (Nat.le_of_ble_eq_true rfl) hRf, Nat.le_trans (Nat.le_of_ble_eq_true rfl) hRl⟩ ⟨Nat.zero_le _, Nat.zero_le _⟩ 0 8 rfl rfl
    refine zcallv (wr := ([] : va_W)) hr_74 hP hD hS hA [0, 1, 2, 3, 4, 5, 6, 7, 8, 9] [] rfl rfl (by decide) (by decide) (fun u_74 H locs hw_74 hP hD hS => ?_)
    obtain ⟨sM_74, rfl⟩ : ∃ z, z = u_74 := ⟨_, rfl⟩
    subst hw_74
    have hP : va_P (dC, dI) zcl (zwM adM adM_tape adM_frameAt adM_field adM_draft adM_given adM_low adM_high adM_packet adM_known cB cI cL sM_74) H := hP
    have hD : va_D A (zwM adM adM_tape adM_frameAt adM_field adM_draft adM_given adM_low adM_high adM_packet adM_known cB cI cL sM_74) := hD
    have hG : g_M_writeStream_c74 N sM_74 = some a := hG
    unfold g_M_writeStream_c74 at hG
    exact k_M_writeStream_77 X hA zz N sM_74 _ hG adM adM_tape adM_frameAt adM_field adM_draft adM_given adM_low adM_high adM_packet adM_known _ _ hP hD hS _ (lv_sub hl [0] rfl)
set_option maxRecDepth 100000 in
set_option maxHeartbeats 4000000 in
theorem k_M_writeStream_0 {p : Program} {l : Launch} {e : Env} {R : Room} {s : State} {m : MethodId} {args : Array Value} {below : List Frame} {meth : Method} {c : Code} {dC : Nat → ClassId} {dI : Nat → Nat → Nat} {cB cI cL : ClassId} {A : Nat → Prop} (X : zx p s m args meth c R R_M b_M_writeStream none 1 2 49) (hA : ∀ q, s.heap.size ≤ q → A q) (zz : zk dC dI cB cI cL A s)  (N : Nat) (sM : zM) (a : zM) (hG : g_M_writeStream N sM = some a) (adM adM_tape adM_frameAt adM_field adM_draft adM_given adM_low adM_high adM_packet adM_known : Nat) (H : Heap) (locs : List Loc) (hP : va_P (dC, dI) zcl (zwM adM adM_tape adM_frameAt adM_field adM_draft adM_given adM_low adM_high adM_packet adM_known cB cI cL sM) H) (hD : va_D A (zwM adM adM_tape adM_frameAt adM_field adM_draft adM_given adM_low adM_high adM_packet adM_known cB cI cL sM)) (hS : va_S A s.heap H locs) (ls : Array Slot) (hl : lv_has ls 1 [(0, .ref adM)]) : W p l e R s m args below meth c H locs 0 0 (MQ below (q_M_writeStream dC dI cB cI cL A adM adM_tape adM_frameAt adM_field adM_draft adM_given adM_low adM_high adM_packet adM_known a) args s 0 0 A) (F0 m 0 ls []) := by
  obtain ⟨hx, hb, hr, hml, hown, hts, hlocks, hRf, hRl⟩ := id X
  unfold g_M_writeStream at hG
  refine lv_aload_n hx hb d_M_writeStream_0 rfl (lv_at hl 0 rfl) ?_
  refine lv_aload_n hx hb d_M_writeStream_1 rfl (lv_at hl 0 rfl) ?_
  refine va_get (D := (dC, dI)) (ci := 8) (v := .ref adM_draft) (C := R_M) (T := F_M) (N := 26) hx hb hts zi_M hown zz.1 hP 0 rfl rfl 17 (by decide) (hts (.fieldLink R_M 26 "WireCodecModel" "draft" "[J") zin_M_26) (fun _ h9 => h9) rfl d_M_writeStream_2 ?_
  refine lv_iconst (v := (0 : Int32)) hx hb d_M_writeStream_5 (by decide) ?_
  obtain ⟨hin, hG⟩ := zgd hG
  refine va_lald hx hb zz.1 hP 4 2 rfl rfl hin d_M_writeStream_6 ?_
  refine lv_aload_n hx hb d_M_writeStream_7 rfl (lv_at hl 0 rfl) ?_
  refine va_get (D := (dC, dI)) (ci := 8) (v := .ref adM_draft) (C := R_M) (T := F_M) (N := 26) hx hb hts zi_M hown zz.1 hP 0 rfl rfl 17 (by decide) (hts (.fieldLink R_M 26 "WireCodecModel" "draft" "[J") zin_M_26) (fun _ h9 => h9) rfl d_M_writeStream_8 ?_
  refine lv_iconst (v := (0 : Int32)) hx hb d_M_writeStream_11 (by decide) ?_
  obtain ⟨hin, hG⟩ := zgd hG
  refine va_lald hx hb zz.1 hP 4 2 rfl rfl hin d_M_writeStream_12 ?_
  obtain ⟨a_13, hx_13, hG⟩ := zb hG
  have hr_13 := zrunS (p := p) (e := e) (below := below) (meth := meth) (As := [.long ((zM_draft sM) (0 : Int32).toNatClampNeg)]) (rest := [.long ((zM_draft sM) (0 : Int32).toNatClampNeg), .ref adM]) (st0 := [.long ((zM_draft sM) (0 : Int32).toNatClampNeg), .long ((zM_draft sM) (0 : Int32).toNatClampNeg), .ref adM]) (cells := 0) (slots := 0) X zz hP hD hS hA [] (by decide) rfl (c_M_needs l dC dI cB cI cL H.size ((zM_draft sM) (0 : Int32).toNatClampNeg) _ hx_13) zy_M_needs zv_M_needs (hts (.methodLink R_M 84 y_M_needs) zin_M_84) hl rfl rfl d_M_writeStream_13 (lv_room (Nat.le_of_ble_eq_true rfl)) rfl rfl ⟨Nat.le_trans (Nat.le_of_ble_eq_true rfl) hRf, Nat.le_trans (Nat.le_of_ble_eq_true rfl) hRl⟩ ⟨Nat.zero_le _, Nat.zero_le _⟩
  refine zcalli (wr := (zwM adM adM_tape adM_frameAt adM_field adM_draft adM_given adM_low adM_high adM_packet adM_known cB cI cL sM)) hr_13 hP hD hS hA [] [0, 1, 2, 3, 4, 5, 6, 7, 8, 9] rfl rfl (by decide) (by decide) (fun r_13 u_13 H locs hw_13 hP hD hS => ?_)
  subst hw_13
  have hP : va_P (dC, dI) zcl (zwM adM adM_tape adM_frameAt adM_field adM_draft adM_given adM_low adM_high adM_packet adM_known cB cI cL sM) H := hP
  have hD : va_D A (zwM adM adM_tape adM_frameAt adM_field adM_draft adM_given adM_low adM_high adM_packet adM_known cB cI cL sM) := hD
  have hG : g_M_writeStream_c13 N sM r_13 = some a := hG
  unfold g_M_writeStream_c13 at hG
  obtain ⟨a_16, hx_16, hG⟩ := zb hG
  have hr_16 := zrunV (p := p) (e := e) (below := below) (meth := meth) (As := [.long ((zM_draft sM) (0 : Int32).toNatClampNeg), .int r_13]) (rest := []) (st0 := [.int r_13, .long ((zM_draft sM) (0 : Int32).toNatClampNeg), .ref adM]) (cells := 0) (slots := 0) X zz hP hD hS hA [0, 1, 2, 3, 4, 5, 6, 7, 8, 9] (by decide) rfl (c_M_writeNumber l dC dI cB cI cL H.size adM adM_tape adM_frameAt adM_field adM_draft adM_given adM_low adM_high adM_packet adM_known N sM ((zM_draft sM) (0 : Int32).toNatClampNeg) r_13 _ hx_16) zy_M_writeNumber zv_M_writeNumber (hts (.methodLink R_M 88 y_M_writeNumber) zin_M_88) hl rfl rfl d_M_writeStream_16 (lv_room (Nat.le_of_ble_eq_true rfl)) rfl rfl ⟨Nat.le_trans (Nat.le_of_ble_eq_true rfl) hRf, Nat.le_trans (Nat.le_of_ble_eq_true rfl) hRl⟩ ⟨Nat.zero_le _, Nat.zero_le _⟩ 0 8 rfl rfl
  refine zcallv (wr := ([] : va_W)) hr_16 hP hD hS hA [0, 1, 2, 3, 4, 5, 6, 7, 8, 9] [] rfl rfl (by decide) (by decide) (fun u_16 H locs hw_16 hP hD hS => ?_)
  obtain ⟨sM_16, rfl⟩ : ∃ z, z = u_16 := ⟨_, rfl⟩
  subst hw_16
  have hP : va_P (dC, dI) zcl (zwM adM adM_tape adM_frameAt adM_field adM_draft adM_given adM_low adM_high adM_packet adM_known cB cI cL sM_16) H := hP
  have hD : va_D A (zwM adM adM_tape adM_frameAt adM_field adM_draft adM_given adM_low adM_high adM_packet adM_known cB cI cL sM_16) := hD
  have hG : g_M_writeStream_c16 N sM_16 = some a := hG
  unfold g_M_writeStream_c16 at hG
  refine lv_aload_n hx hb d_M_writeStream_19 rfl (lv_at hl 0 rfl) ?_
  refine va_get (D := (dC, dI)) (ci := 8) (v := .ref adM_draft) (C := R_M) (T := F_M) (N := 26) hx hb hts zi_M hown zz.1 hP 0 rfl rfl 17 (by decide) (hts (.fieldLink R_M 26 "WireCodecModel" "draft" "[J") zin_M_26) (fun _ h9 => h9) rfl d_M_writeStream_20 ?_
  refine lv_iconst (v := (1 : Int32)) hx hb d_M_writeStream_23 (by decide) ?_
  obtain ⟨hin, hG⟩ := zgd hG
  refine va_lald hx hb zz.1 hP 4 2 rfl rfl hin d_M_writeStream_24 ?_
  refine lv_lconst (v := (0 : Int64)) hx hb d_M_writeStream_25 (by decide) ?_
  refine W.lcmp hx hb d_M_writeStream_26 ?_
  refine lv_if_eq (tgt := 49) hx hb d_M_writeStream_27 (by decide) (fun hc => ?_) (fun hc => ?_)
  · have hG := zt hG hc
    exact k_M_writeStream_49 X hA zz N sM_16 _ hG adM adM_tape adM_frameAt adM_field adM_draft adM_given adM_low adM_high adM_packet adM_known _ _ hP hD hS _ (lv_sub hl [0] rfl)
  · have hG := zf hG hc
    refine lv_aload_n hx hb d_M_writeStream_30 rfl (lv_at hl 0 rfl) ?_
    refine lv_aload_n hx hb d_M_writeStream_31 rfl (lv_at hl 0 rfl) ?_
    refine va_get (D := (dC, dI)) (ci := 8) (v := .ref adM_draft) (C := R_M) (T := F_M) (N := 26) hx hb hts zi_M hown zz.1 hP 0 rfl rfl 17 (by decide) (hts (.fieldLink R_M 26 "WireCodecModel" "draft" "[J") zin_M_26) (fun _ h9 => h9) rfl d_M_writeStream_32 ?_
    refine lv_iconst (v := (1 : Int32)) hx hb d_M_writeStream_35 (by decide) ?_
    obtain ⟨hin, hG⟩ := zgd hG
    refine va_lald hx hb zz.1 hP 4 2 rfl rfl hin d_M_writeStream_36 ?_
    refine lv_aload_n hx hb d_M_writeStream_37 rfl (lv_at hl 0 rfl) ?_
    refine va_get (D := (dC, dI)) (ci := 8) (v := .ref adM_draft) (C := R_M) (T := F_M) (N := 26) hx hb hts zi_M hown zz.1 hP 0 rfl rfl 17 (by decide) (hts (.fieldLink R_M 26 "WireCodecModel" "draft" "[J") zin_M_26) (fun _ h9 => h9) rfl d_M_writeStream_38 ?_
    refine lv_iconst (v := (1 : Int32)) hx hb d_M_writeStream_41 (by decide) ?_
    obtain ⟨hin, hG⟩ := zgd hG
    refine va_lald hx hb zz.1 hP 4 2 rfl rfl hin d_M_writeStream_42 ?_
    obtain ⟨a_43, hx_43, hG⟩ := zb hG
    have hr_43 := zrunS (p := p) (e := e) (below := below) (meth := meth) (As := [.long ((zM_draft sM_16) (1 : Int32).toNatClampNeg)]) (rest := [.long ((zM_draft sM_16) (1 : Int32).toNatClampNeg), .ref adM]) (st0 := [.long ((zM_draft sM_16) (1 : Int32).toNatClampNeg), .long ((zM_draft sM_16) (1 : Int32).toNatClampNeg), .ref adM]) (cells := 0) (slots := 0) X zz hP hD hS hA [] (by decide) rfl (c_M_needs l dC dI cB cI cL H.size ((zM_draft sM_16) (1 : Int32).toNatClampNeg) _ hx_43) zy_M_needs zv_M_needs (hts (.methodLink R_M 84 y_M_needs) zin_M_84) hl rfl rfl d_M_writeStream_43 (lv_room (Nat.le_of_ble_eq_true rfl)) rfl rfl ⟨Nat.le_trans (Nat.le_of_ble_eq_true rfl) hRf, Nat.le_trans (Nat.le_of_ble_eq_true rfl) hRl⟩ ⟨Nat.zero_le _, Nat.zero_le _⟩
    refine zcalli (wr := (zwM adM adM_tape adM_frameAt adM_field adM_draft adM_given adM_low adM_high adM_packet adM_known cB cI cL sM_16)) hr_43 hP hD hS hA [] [0, 1, 2, 3, 4, 5, 6, 7, 8, 9] rfl rfl (by decide) (by decide) (fun r_43 u_43 H locs hw_43 hP hD hS => ?_)
    subst hw_43
    have hP : va_P (dC, dI) zcl (zwM adM adM_tape adM_frameAt adM_field adM_draft adM_given adM_low adM_high adM_packet adM_known cB cI cL sM_16) H := hP
    have hD : va_D A (zwM adM adM_tape adM_frameAt adM_field adM_draft adM_given adM_low adM_high adM_packet adM_known cB cI cL sM_16) := hD
    have hG : g_M_writeStream_c43 N sM_16 r_43 = some a := hG
    unfold g_M_writeStream_c43 at hG
    obtain ⟨a_46, hx_46, hG⟩ := zb hG
    have hr_46 := zrunV (p := p) (e := e) (below := below) (meth := meth) (As := [.long ((zM_draft sM_16) (1 : Int32).toNatClampNeg), .int r_43]) (rest := []) (st0 := [.int r_43, .long ((zM_draft sM_16) (1 : Int32).toNatClampNeg), .ref adM]) (cells := 0) (slots := 0) X zz hP hD hS hA [0, 1, 2, 3, 4, 5, 6, 7, 8, 9] (by decide) rfl (c_M_writeNumber l dC dI cB cI cL H.size adM adM_tape adM_frameAt adM_field adM_draft adM_given adM_low adM_high adM_packet adM_known N sM_16 ((zM_draft sM_16) (1 : Int32).toNatClampNeg) r_43 _ hx_46) zy_M_writeNumber zv_M_writeNumber (hts (.methodLink R_M 88 y_M_writeNumber) zin_M_88) hl rfl rfl d_M_writeStream_46 (lv_room (Nat.le_of_ble_eq_true rfl)) rfl rfl ⟨Nat.le_trans (Nat.le_of_ble_eq_true rfl) hRf, Nat.le_trans (Nat.le_of_ble_eq_true rfl) hRl⟩ ⟨Nat.zero_le _, Nat.zero_le _⟩ 0 8 rfl rfl
    refine zcallv (wr := ([] : va_W)) hr_46 hP hD hS hA [0, 1, 2, 3, 4, 5, 6, 7, 8, 9] [] rfl rfl (by decide) (by decide) (fun u_46 H locs hw_46 hP hD hS => ?_)
    obtain ⟨sM_46, rfl⟩ : ∃ z, z = u_46 := ⟨_, rfl⟩
    subst hw_46
    have hP : va_P (dC, dI) zcl (zwM adM adM_tape adM_frameAt adM_field adM_draft adM_given adM_low adM_high adM_packet adM_known cB cI cL sM_46) H := hP
    have hD : va_D A (zwM adM adM_tape adM_frameAt adM_field adM_draft adM_given adM_low adM_high adM_packet adM_known cB cI cL sM_46) := hD
    have hG : g_M_writeStream_c46 N sM_46 = some a := hG
    unfold g_M_writeStream_c46 at hG
    exact k_M_writeStream_49 X hA zz N sM_46 _ hG adM adM_tape adM_frameAt adM_field adM_draft adM_given adM_low adM_high adM_packet adM_known _ _ hP hD hS _ (lv_sub hl [0] rfl)
set_option maxRecDepth 100000 in
set_option maxHeartbeats 4000000 in
theorem c_M_writeStream (l : Launch) (dC : Nat → ClassId) (dI : Nat → Nat → Nat) (cB cI cL : ClassId) (sz : Nat) (adM adM_tape adM_frameAt adM_field adM_draft adM_given adM_low adM_high adM_packet adM_known : Nat) (N : Nat) (sM : zM) (a : zM) (hG : g_M_writeStream N sM = some a) : Met l y_M_writeStream (zw y_M_writeStream b_M_writeStream 1 none) ({ frames := 2, cells := 0, slots := 0, locals := 49 }) (va_Pc [.ref adM] (zpre dC dI cB cI cL sz (zwM adM adM_tape adM_frameAt adM_field adM_draft adM_given adM_low adM_high adM_packet adM_known cB cI cL sM))) (q_M_writeStream dC dI cB cI cL (va_A (zwM adM adM_tape adM_frameAt adM_field adM_draft adM_given adM_low adM_high adM_packet adM_known cB cI cL sM) sz) adM adM_tape adM_frameAt adM_field adM_draft adM_given adM_low adM_high adM_packet adM_known a) 0 0 (va_A (zwM adM adM_tape adM_frameAt adM_field adM_draft adM_given adM_low adM_high adM_packet adM_known cB cI cL sM) sz) := by
  refine Met.ofW (cc := b_M_writeStream) (maxL := 1) (ret := none) (by decide) rfl ?_
  intro p e s m args below meth c s₁ B hml hv
  obtain ⟨rfl, hsz, hP, zz, hD0⟩ := hv
  subst hsz
  have X := zx_of (F := 2) (L := 49) B hml (Nat.le_refl _) (Nat.le_refl _)
  have hD := hD0.self (sz := s.heap.size)
  have hA : ∀ q : Nat, s.heap.size ≤ q → va_A (zwM adM adM_tape adM_frameAt adM_field adM_draft adM_given adM_low adM_high adM_packet adM_known cB cI cL sM) s.heap.size q := fun q h => Or.inr h
  have hl := lv_entry ([.ref adM]) (n := 1) (Nat.le_of_ble_eq_true rfl)
  rw [lg_entry_eq]
  generalize (lg_sl ([.ref adM]) ++ List.replicate (1 - (lg_sl ([.ref adM])).length) Slot.unset).toArray = ls at hl ⊢
  exact k_M_writeStream_0 X hA zz N sM a hG adM adM_tape adM_frameAt adM_field adM_draft adM_given adM_low adM_high adM_packet adM_known _ _ hP hD va_S.rf ls hl
noncomputable def g_M_writeFields_c123 (sM_123 : zM) : Option (zM) := some (sM_123)
noncomputable def g_M_writeFields_c115 (N : Nat) (sM_115 : zM) : Option (zM) := (g_M_writeGiven N sM_115 (zM_gives sM_115)).bind (fun a => g_M_writeFields_c123 a)
noncomputable def g_M_writeFields_90 (N : Nat) (kr : zM → Int32 → Int32 → Option (zM)) (sM : zM) (v1 : Int32) (v2 : Int32) : Option (zM) := kr sM v1 (v2 / (10 : Int32))
noncomputable def g_M_writeFields_c87 (N : Nat) (kr : zM → Int32 → Int32 → Option (zM)) (v1 : Int32) (v2 : Int32) (sM_87 : zM) : Option (zM) := g_M_writeFields_90 N kr sM_87 v1 v2
noncomputable def g_M_writeFields_c84 (N : Nat) (kr : zM → Int32 → Int32 → Option (zM)) (sM : zM) (v1 : Int32) (v2 : Int32) (r_84 : Int32) : Option (zM) := (g_M_writeNumber N sM ((zM_draft sM) ((v2 - v2 / (10 : Int32) * (10 : Int32)) - (1 : Int32)).toNatClampNeg) r_84).bind (fun a => g_M_writeFields_c87 N kr v1 v2 a)
noncomputable def g_M_writeFields_c61 (N : Nat) (kr : zM → Int32 → Int32 → Option (zM)) (v1 : Int32) (v2 : Int32) (sM_61 : zM) : Option (zM) := g_M_writeFields_90 N kr sM_61 v1 v2
noncomputable def g_M_writeFields_c53 (N : Nat) (kr : zM → Int32 → Int32 → Option (zM)) (v1 : Int32) (v2 : Int32) (sM_53 : zM) : Option (zM) := (g_M_writeGiven N sM_53 (zM_gives sM_53)).bind (fun a => g_M_writeFields_c61 N kr v1 v2 a)
noncomputable def g_M_writeFields_c50 (N : Nat) (kr : zM → Int32 → Int32 → Option (zM)) (sM : zM) (v1 : Int32) (v2 : Int32) (r_50 : Int32) : Option (zM) := (g_M_writeNumber N sM ((zM_gives sM).toInt64) r_50).bind (fun a => g_M_writeFields_c53 N kr v1 v2 a)
noncomputable def g_M_writeFields_c28 (N : Nat) (kr : zM → Int32 → Int32 → Option (zM)) (v1 : Int32) (v2 : Int32) (sM_28 : zM) : Option (zM) := g_M_writeFields_90 N kr sM_28 v1 v2
noncomputable def g_M_writeFields_5_b (N : Nat) (kr : zM → Int32 → Int32 → Option (zM)) (sM : zM) (v1 : Int32) (v2 : Int32) : Option (zM) := if v2 ≤ (0 : Int32) then (if v1 = (24 : Int32) then ((g_M_write N sM (((zM_gives sM) - (16 : Int32)).toInt64) (1 : Int32)).bind (fun a => g_M_writeFields_c115 N a)) else (some (sM))) else (if (v2 - v2 / (10 : Int32) * (10 : Int32)) = (5 : Int32) then (zg (vp_in (0 : Int32) 12) ((g_M_write N sM ((zM_draft sM) (0 : Int32).toNatClampNeg) (8 : Int32)).bind (fun a => g_M_writeFields_c28 N kr v1 v2 a))) else (if (v2 - v2 / (10 : Int32) * (10 : Int32)) = (4 : Int32) then ((g_M_needs ((zM_gives sM).toInt64)).bind (fun a => g_M_writeFields_c50 N kr sM v1 v2 a)) else (zg (vp_in ((v2 - v2 / (10 : Int32) * (10 : Int32)) - (1 : Int32)) 12) (zg (vp_in ((v2 - v2 / (10 : Int32) * (10 : Int32)) - (1 : Int32)) 12) ((g_M_needs ((zM_draft sM) ((v2 - v2 / (10 : Int32) * (10 : Int32)) - (1 : Int32)).toNatClampNeg)).bind (fun a => g_M_writeFields_c84 N kr sM v1 v2 a))))))
noncomputable def g_M_writeFields_5 (N : Nat) : Nat → zM → Int32 → Int32 → Option (zM)
  | 0 => fun _ _ _ => none
  | k + 1 => fun sM v1 v2 => g_M_writeFields_5_b N (g_M_writeFields_5 N k) sM v1 v2
noncomputable def g_M_writeFields_c1 (N : Nat) (sM : zM) (v1 : Int32) (r_1 : Int32) : Option (zM) := g_M_writeFields_5 N N sM v1 r_1
noncomputable def g_M_writeFields (N : Nat) (sM : zM) (v1 : Int32) : Option (zM) := (g_M_fields v1).bind (fun a => g_M_writeFields_c1 N sM v1 a)
def q_M_writeFields (dC : Nat → ClassId) (dI : Nat → Nat → Nat) (cB cI cL : ClassId) (A : Nat → Prop) (adM : Nat) (adM_tape : Nat) (adM_frameAt : Nat) (adM_field : Nat) (adM_draft : Nat) (adM_given : Nat) (adM_low : Nat) (adM_high : Nat) (adM_packet : Nat) (adM_known : Nat) (a : zM) : Array Value → State → Outcome → State → Prop := va_Qv (fun (u : zM) => (u) = a) (fun u U => va_P (dC, dI) zcl (zwM adM adM_tape adM_frameAt adM_field adM_draft adM_given adM_low adM_high adM_packet adM_known cB cI cL u) U.heap ∧ va_D A (zwM adM adM_tape adM_frameAt adM_field adM_draft adM_given adM_low adM_high adM_packet adM_known cB cI cL u)) A
set_option maxRecDepth 100000 in
set_option maxHeartbeats 4000000 in
theorem k_M_writeFields_90 {p : Program} {l : Launch} {e : Env} {R : Room} {s : State} {m : MethodId} {args : Array Value} {below : List Frame} {meth : Method} {c : Code} {dC : Nat → ClassId} {dI : Nat → Nat → Nat} {cB cI cL : ClassId} {A : Nat → Prop} (kr : zM → Int32 → Int32 → Option (zM)) (hrec : ∀ (sM : zM) (v1 : Int32) (v2 : Int32) (a : zM), kr sM v1 v2 = some a → ∀ (adM adM_tape adM_frameAt adM_field adM_draft adM_given adM_low adM_high adM_packet adM_known : Nat) (H : Heap) (locs : List Loc), va_P (dC, dI) zcl (zwM adM adM_tape adM_frameAt adM_field adM_draft adM_given adM_low adM_high adM_packet adM_known cB cI cL sM) H → va_D A (zwM adM adM_tape adM_frameAt adM_field adM_draft adM_given adM_low adM_high adM_packet adM_known cB cI cL sM) → va_S A s.heap H locs → ∀ ls : Array Slot, lv_has ls 4 [(0, .ref adM), (1, .int v1), (2, .int v2)] → W p l e R s m args below meth c H locs 0 0 (MQ below (q_M_writeFields dC dI cB cI cL A adM adM_tape adM_frameAt adM_field adM_draft adM_given adM_low adM_high adM_packet adM_known a) args s 0 0 A) (F0 m 5 ls [])) (X : zx p s m args meth c R R_M b_M_writeFields none 4 2 49) (hA : ∀ q, s.heap.size ≤ q → A q) (zz : zk dC dI cB cI cL A s)  (N : Nat) (sM : zM) (v1 : Int32) (v2 : Int32) (a : zM) (hG : g_M_writeFields_90 N kr sM v1 v2 = some a) (adM adM_tape adM_frameAt adM_field adM_draft adM_given adM_low adM_high adM_packet adM_known : Nat) (H : Heap) (locs : List Loc) (hP : va_P (dC, dI) zcl (zwM adM adM_tape adM_frameAt adM_field adM_draft adM_given adM_low adM_high adM_packet adM_known cB cI cL sM) H) (hD : va_D A (zwM adM adM_tape adM_frameAt adM_field adM_draft adM_given adM_low adM_high adM_packet adM_known cB cI cL sM)) (hS : va_S A s.heap H locs) (ls : Array Slot) (hl : lv_has ls 4 [(0, .ref adM), (1, .int v1), (2, .int v2)]) : W p l e R s m args below meth c H locs 0 0 (MQ below (q_M_writeFields dC dI cB cI cL A adM adM_tape adM_frameAt adM_field adM_draft adM_given adM_low adM_high adM_packet adM_known a) args s 0 0 A) (F0 m 90 ls []) := by
  obtain ⟨hx, hb, hr, hml, hown, hts, hlocks, hRf, hRl⟩ := id X
  unfold g_M_writeFields_90 at hG
  refine lv_iload_n hx hb d_M_writeFields_90 rfl (lv_at hl 2 rfl) ?_
  refine lv_bipush (v := (10 : Int32)) hx hb d_M_writeFields_91 (by decide) ?_
  refine lv_idiv hx hb d_M_writeFields_93 (by decide) ?_
  refine lv_istore_n (lv' := [(2, .int (v2 / (10 : Int32))), (0, .ref adM), (1, .int v1)]) hx hb d_M_writeFields_94 rfl hl (by decide) rfl (fun ls hl => ?_)
  refine lv_goto (tgt := 5) hx hb d_M_writeFields_95 (by decide) ?_
  exact hrec sM v1 (v2 / (10 : Int32)) _ hG adM adM_tape adM_frameAt adM_field adM_draft adM_given adM_low adM_high adM_packet adM_known _ _ hP hD hS _ (lv_sub hl [1, 2, 0] rfl)
set_option maxRecDepth 100000 in
set_option maxHeartbeats 4000000 in
theorem k_M_writeFields_5_b {p : Program} {l : Launch} {e : Env} {R : Room} {s : State} {m : MethodId} {args : Array Value} {below : List Frame} {meth : Method} {c : Code} {dC : Nat → ClassId} {dI : Nat → Nat → Nat} {cB cI cL : ClassId} {A : Nat → Prop} (kr : zM → Int32 → Int32 → Option (zM)) (hrec : ∀ (sM : zM) (v1 : Int32) (v2 : Int32) (a : zM), kr sM v1 v2 = some a → ∀ (adM adM_tape adM_frameAt adM_field adM_draft adM_given adM_low adM_high adM_packet adM_known : Nat) (H : Heap) (locs : List Loc), va_P (dC, dI) zcl (zwM adM adM_tape adM_frameAt adM_field adM_draft adM_given adM_low adM_high adM_packet adM_known cB cI cL sM) H → va_D A (zwM adM adM_tape adM_frameAt adM_field adM_draft adM_given adM_low adM_high adM_packet adM_known cB cI cL sM) → va_S A s.heap H locs → ∀ ls : Array Slot, lv_has ls 4 [(0, .ref adM), (1, .int v1), (2, .int v2)] → W p l e R s m args below meth c H locs 0 0 (MQ below (q_M_writeFields dC dI cB cI cL A adM adM_tape adM_frameAt adM_field adM_draft adM_given adM_low adM_high adM_packet adM_known a) args s 0 0 A) (F0 m 5 ls [])) (X : zx p s m args meth c R R_M b_M_writeFields none 4 2 49) (hA : ∀ q, s.heap.size ≤ q → A q) (zz : zk dC dI cB cI cL A s)  (N : Nat) (sM : zM) (v1 : Int32) (v2 : Int32) (a : zM) (hG : g_M_writeFields_5_b N kr sM v1 v2 = some a) (adM adM_tape adM_frameAt adM_field adM_draft adM_given adM_low adM_high adM_packet adM_known : Nat) (H : Heap) (locs : List Loc) (hP : va_P (dC, dI) zcl (zwM adM adM_tape adM_frameAt adM_field adM_draft adM_given adM_low adM_high adM_packet adM_known cB cI cL sM) H) (hD : va_D A (zwM adM adM_tape adM_frameAt adM_field adM_draft adM_given adM_low adM_high adM_packet adM_known cB cI cL sM)) (hS : va_S A s.heap H locs) (ls : Array Slot) (hl : lv_has ls 4 [(0, .ref adM), (1, .int v1), (2, .int v2)]) : W p l e R s m args below meth c H locs 0 0 (MQ below (q_M_writeFields dC dI cB cI cL A adM adM_tape adM_frameAt adM_field adM_draft adM_given adM_low adM_high adM_packet adM_known a) args s 0 0 A) (F0 m 5 ls []) := by
  obtain ⟨hx, hb, hr, hml, hown, hts, hlocks, hRf, hRl⟩ := id X
  unfold g_M_writeFields_5_b at hG
  refine lv_iload_n hx hb d_M_writeFields_5 rfl (lv_at hl 2 rfl) ?_
  refine lv_if_le (tgt := 98) hx hb d_M_writeFields_6 (by decide) (fun hc => ?_) (fun hc => ?_)
  · have hG := zt hG hc
    refine lv_iload_n hx hb d_M_writeFields_98 rfl (lv_at hl 1 rfl) ?_
    refine lv_bipush (v := (24 : Int32)) hx hb d_M_writeFields_99 (by decide) ?_
    refine lv_icmp_eq (tgt := 105) hx hb d_M_writeFields_101 (by decide) (fun hc => ?_) (fun hc => ?_)
    · have hG := zt hG hc
      refine lv_aload_n hx hb d_M_writeFields_105 rfl (lv_at hl 0 rfl) ?_
      refine lv_aload_n hx hb d_M_writeFields_106 rfl (lv_at hl 0 rfl) ?_
      refine va_get (D := (dC, dI)) (ci := 8) (v := .int (zM_gives sM)) (C := R_M) (T := F_M) (N := 26) hx hb hts zi_M hown zz.1 hP 0 rfl rfl 19 (by decide) (hts (.fieldLink R_M 211 "WireCodecModel" "gives" "I") zin_M_211) (fun _ h9 => h9) rfl d_M_writeFields_107 ?_
      refine lv_bipush (v := (16 : Int32)) hx hb d_M_writeFields_110 (by decide) ?_
      refine lv_isub hx hb d_M_writeFields_112 ?_
      refine lv_i2l hx hb d_M_writeFields_113 rfl ?_
      refine lv_iconst (v := (1 : Int32)) hx hb d_M_writeFields_114 (by decide) ?_
      obtain ⟨a_115, hx_115, hG⟩ := zb hG
      have hr_115 := zrunV (p := p) (e := e) (below := below) (meth := meth) (As := [.long (((zM_gives sM) - (16 : Int32)).toInt64), .int (1 : Int32)]) (rest := []) (st0 := [.int (1 : Int32), .long (((zM_gives sM) - (16 : Int32)).toInt64), .ref adM]) (cells := 0) (slots := 0) X zz hP hD hS hA [0, 1, 2, 3, 4, 5, 6, 7, 8, 9] (by decide) rfl (c_M_write l dC dI cB cI cL H.size adM adM_tape adM_frameAt adM_field adM_draft adM_given adM_low adM_high adM_packet adM_known N sM (((zM_gives sM) - (16 : Int32)).toInt64) (1 : Int32) _ hx_115) zy_M_write zv_M_write (hts (.methodLink R_M 66 y_M_write) zin_M_66) hl rfl rfl d_M_writeFields_115 (lv_room (Nat.le_of_ble_eq_true rfl)) rfl rfl ⟨Nat.le_trans (Nat.le_of_ble_eq_true rfl) hRf, Nat.le_trans (Nat.le_of_ble_eq_true rfl) hRl⟩ ⟨Nat.zero_le _, Nat.zero_le _⟩ 0 8 rfl rfl
      refine zcallv (wr := ([] : va_W)) hr_115 hP hD hS hA [0, 1, 2, 3, 4, 5, 6, 7, 8, 9] [] rfl rfl (by decide) (by decide) (fun u_115 H locs hw_115 hP hD hS => ?_)
      obtain ⟨sM_115, rfl⟩ : ∃ z, z = u_115 := ⟨_, rfl⟩
      subst hw_115
      have hP : va_P (dC, dI) zcl (zwM adM adM_tape adM_frameAt adM_field adM_draft adM_given adM_low adM_high adM_packet adM_known cB cI cL sM_115) H := hP
      have hD : va_D A (zwM adM adM_tape adM_frameAt adM_field adM_draft adM_given adM_low adM_high adM_packet adM_known cB cI cL sM_115) := hD
      have hG : g_M_writeFields_c115 N sM_115 = some a := hG
      unfold g_M_writeFields_c115 at hG
      refine lv_aload_n hx hb d_M_writeFields_118 rfl (lv_at hl 0 rfl) ?_
      refine lv_aload_n hx hb d_M_writeFields_119 rfl (lv_at hl 0 rfl) ?_
      refine va_get (D := (dC, dI)) (ci := 8) (v := .int (zM_gives sM_115)) (C := R_M) (T := F_M) (N := 26) hx hb hts zi_M hown zz.1 hP 0 rfl rfl 19 (by decide) (hts (.fieldLink R_M 211 "WireCodecModel" "gives" "I") zin_M_211) (fun _ h9 => h9) rfl d_M_writeFields_120 ?_
      obtain ⟨a_123, hx_123, hG⟩ := zb hG
      have hr_123 := zrunV (p := p) (e := e) (below := below) (meth := meth) (As := [.int (zM_gives sM_115)]) (rest := []) (st0 := [.int (zM_gives sM_115), .ref adM]) (cells := 0) (slots := 0) X zz hP hD hS hA [0, 1, 2, 3, 4, 5, 6, 7, 8, 9] (by decide) rfl (c_M_writeGiven l dC dI cB cI cL H.size adM adM_tape adM_frameAt adM_field adM_draft adM_given adM_low adM_high adM_packet adM_known N sM_115 (zM_gives sM_115) _ hx_123) zy_M_writeGiven zv_M_writeGiven (hts (.methodLink R_M 225 y_M_writeGiven) zin_M_225) hl rfl rfl d_M_writeFields_123 (lv_room (Nat.le_of_ble_eq_true rfl)) rfl rfl ⟨Nat.le_trans (Nat.le_of_ble_eq_true rfl) hRf, Nat.le_trans (Nat.le_of_ble_eq_true rfl) hRl⟩ ⟨Nat.zero_le _, Nat.zero_le _⟩ 0 8 rfl rfl
      refine zcallv (wr := ([] : va_W)) hr_123 hP hD hS hA [0, 1, 2, 3, 4, 5, 6, 7, 8, 9] [] rfl rfl (by decide) (by decide) (fun u_123 H locs hw_123 hP hD hS => ?_)
      obtain ⟨sM_123, rfl⟩ : ∃ z, z = u_123 := ⟨_, rfl⟩
      subst hw_123
      have hP : va_P (dC, dI) zcl (zwM adM adM_tape adM_frameAt adM_field adM_draft adM_given adM_low adM_high adM_packet adM_known cB cI cL sM_123) H := hP
      have hD : va_D A (zwM adM adM_tape adM_frameAt adM_field adM_draft adM_given adM_low adM_high adM_packet adM_known cB cI cL sM_123) := hD
      have hG : g_M_writeFields_c123 sM_123 = some a := hG
      unfold g_M_writeFields_c123 at hG
      exact W.vret hx hb hr (fun t9 ht9 hW9 => ⟨⟨(sM_123), rfl, Option.some.inj hG, by rw [ht9]; exact hP, hD⟩, hS.F ht9⟩) hS.2.2 d_M_writeFields_126
    · have hG := zf hG hc
      exact W.vret hx hb hr (fun t9 ht9 hW9 => ⟨⟨(sM), rfl, Option.some.inj hG, by rw [ht9]; exact hP, hD⟩, hS.F ht9⟩) hS.2.2 d_M_writeFields_104
  · have hG := zf hG hc
    refine lv_iload_n hx hb d_M_writeFields_9 rfl (lv_at hl 2 rfl) ?_
    refine lv_bipush (v := (10 : Int32)) hx hb d_M_writeFields_10 (by decide) ?_
    refine lv_irem hx hb d_M_writeFields_12 (by decide) ?_
    refine lv_istore_n (lv' := [(3, .int (v2 - v2 / (10 : Int32) * (10 : Int32))), (0, .ref adM), (1, .int v1), (2, .int v2)]) hx hb d_M_writeFields_13 rfl hl (by decide) rfl (fun ls hl => ?_)
    refine lv_iload_n hx hb d_M_writeFields_14 rfl (lv_at hl 0 rfl) ?_
    refine lv_iconst (v := (5 : Int32)) hx hb d_M_writeFields_15 (by decide) ?_
    refine lv_icmp_ne (tgt := 34) hx hb d_M_writeFields_16 (by decide) (fun hc => ?_) (fun hc => ?_)
    · have hG := zf hG hc
      refine lv_iload_n hx hb d_M_writeFields_34 rfl (lv_at hl 0 rfl) ?_
      refine lv_iconst (v := (4 : Int32)) hx hb d_M_writeFields_35 (by decide) ?_
      refine lv_icmp_ne (tgt := 67) hx hb d_M_writeFields_36 (by decide) (fun hc => ?_) (fun hc => ?_)
      · have hG := zf hG hc
        refine lv_aload_n hx hb d_M_writeFields_67 rfl (lv_at hl 1 rfl) ?_
        refine lv_aload_n hx hb d_M_writeFields_68 rfl (lv_at hl 1 rfl) ?_
        refine va_get (D := (dC, dI)) (ci := 8) (v := .ref adM_draft) (C := R_M) (T := F_M) (N := 26) hx hb hts zi_M hown zz.1 hP 0 rfl rfl 17 (by decide) (hts (.fieldLink R_M 26 "WireCodecModel" "draft" "[J") zin_M_26) (fun _ h9 => h9) rfl d_M_writeFields_69 ?_
        refine lv_iload_n hx hb d_M_writeFields_72 rfl (lv_at hl 0 rfl) ?_
        refine lv_iconst (v := (1 : Int32)) hx hb d_M_writeFields_73 (by decide) ?_
        refine lv_isub hx hb d_M_writeFields_74 ?_
        obtain ⟨hin, hG⟩ := zgd hG
        refine va_lald hx hb zz.1 hP 4 2 rfl rfl hin d_M_writeFields_75 ?_
        refine lv_aload_n hx hb d_M_writeFields_76 rfl (lv_at hl 1 rfl) ?_
        refine va_get (D := (dC, dI)) (ci := 8) (v := .ref adM_draft) (C := R_M) (T := F_M) (N := 26) hx hb hts zi_M hown zz.1 hP 0 rfl rfl 17 (by decide) (hts (.fieldLink R_M 26 "WireCodecModel" "draft" "[J") zin_M_26) (fun _ h9 => h9) rfl d_M_writeFields_77 ?_
        refine lv_iload_n hx hb d_M_writeFields_80 rfl (lv_at hl 0 rfl) ?_
        refine lv_iconst (v := (1 : Int32)) hx hb d_M_writeFields_81 (by decide) ?_
        refine lv_isub hx hb d_M_writeFields_82 ?_
        obtain ⟨hin, hG⟩ := zgd hG
        refine va_lald hx hb zz.1 hP 4 2 rfl rfl hin d_M_writeFields_83 ?_
        obtain ⟨a_84, hx_84, hG⟩ := zb hG
        have hr_84 := zrunS (p := p) (e := e) (below := below) (meth := meth) (As := [.long ((zM_draft sM) ((v2 - v2 / (10 : Int32) * (10 : Int32)) - (1 : Int32)).toNatClampNeg)]) (rest := [.long ((zM_draft sM) ((v2 - v2 / (10 : Int32) * (10 : Int32)) - (1 : Int32)).toNatClampNeg), .ref adM]) (st0 := [.long ((zM_draft sM) ((v2 - v2 / (10 : Int32) * (10 : Int32)) - (1 : Int32)).toNatClampNeg), .long ((zM_draft sM) ((v2 - v2 / (10 : Int32) * (10 : Int32)) - (1 : Int32)).toNatClampNeg), .ref adM]) (cells := 0) (slots := 0) X zz hP hD hS hA [] (by decide) rfl (c_M_needs l dC dI cB cI cL H.size ((zM_draft sM) ((v2 - v2 / (10 : Int32) * (10 : Int32)) - (1 : Int32)).toNatClampNeg) _ hx_84) zy_M_needs zv_M_needs (hts (.methodLink R_M 84 y_M_needs) zin_M_84) hl rfl rfl d_M_writeFields_84 (lv_room (Nat.le_of_ble_eq_true rfl)) rfl rfl ⟨Nat.le_trans (Nat.le_of_ble_eq_true rfl) hRf, Nat.le_trans (Nat.le_of_ble_eq_true rfl) hRl⟩ ⟨Nat.zero_le _, Nat.zero_le _⟩
        refine zcalli (wr := (zwM adM adM_tape adM_frameAt adM_field adM_draft adM_given adM_low adM_high adM_packet adM_known cB cI cL sM)) hr_84 hP hD hS hA [] [0, 1, 2, 3, 4, 5, 6, 7, 8, 9] rfl rfl (by decide) (by decide) (fun r_84 u_84 H locs hw_84 hP hD hS => ?_)
        subst hw_84
        have hP : va_P (dC, dI) zcl (zwM adM adM_tape adM_frameAt adM_field adM_draft adM_given adM_low adM_high adM_packet adM_known cB cI cL sM) H := hP
        have hD : va_D A (zwM adM adM_tape adM_frameAt adM_field adM_draft adM_given adM_low adM_high adM_packet adM_known cB cI cL sM) := hD
        have hG : g_M_writeFields_c84 N kr sM v1 v2 r_84 = some a := hG
        unfold g_M_writeFields_c84 at hG
        obtain ⟨a_87, hx_87, hG⟩ := zb hG
        have hr_87 := zrunV (p := p) (e := e) (below := below) (meth := meth) (As := [.long ((zM_draft sM) ((v2 - v2 / (10 : Int32) * (10 : Int32)) - (1 : Int32)).toNatClampNeg), .int r_84]) (rest := []) (st0 := [.int r_84, .long ((zM_draft sM) ((v2 - v2 / (10 : Int32) * (10 : Int32)) - (1 : Int32)).toNatClampNeg), .ref adM]) (cells := 0) (slots := 0) X zz hP hD hS hA [0, 1, 2, 3, 4, 5, 6, 7, 8, 9] (by decide) rfl (c_M_writeNumber l dC dI cB cI cL H.size adM adM_tape adM_frameAt adM_field adM_draft adM_given adM_low adM_high adM_packet adM_known N sM ((zM_draft sM) ((v2 - v2 / (10 : Int32) * (10 : Int32)) - (1 : Int32)).toNatClampNeg) r_84 _ hx_87) zy_M_writeNumber zv_M_writeNumber (hts (.methodLink R_M 88 y_M_writeNumber) zin_M_88) hl rfl rfl d_M_writeFields_87 (lv_room (Nat.le_of_ble_eq_true rfl)) rfl rfl ⟨Nat.le_trans (Nat.le_of_ble_eq_true rfl) hRf, Nat.le_trans (Nat.le_of_ble_eq_true rfl) hRl⟩ ⟨Nat.zero_le _, Nat.zero_le _⟩ 0 8 rfl rfl
        refine zcallv (wr := ([] : va_W)) hr_87 hP hD hS hA [0, 1, 2, 3, 4, 5, 6, 7, 8, 9] [] rfl rfl (by decide) (by decide) (fun u_87 H locs hw_87 hP hD hS => ?_)
        obtain ⟨sM_87, rfl⟩ : ∃ z, z = u_87 := ⟨_, rfl⟩
        subst hw_87
        have hP : va_P (dC, dI) zcl (zwM adM adM_tape adM_frameAt adM_field adM_draft adM_given adM_low adM_high adM_packet adM_known cB cI cL sM_87) H := hP
        have hD : va_D A (zwM adM adM_tape adM_frameAt adM_field adM_draft adM_given adM_low adM_high adM_packet adM_known cB cI cL sM_87) := hD
        have hG : g_M_writeFields_c87 N kr v1 v2 sM_87 = some a := hG
        unfold g_M_writeFields_c87 at hG
        exact k_M_writeFields_90 kr hrec X hA zz N sM_87 v1 v2 _ hG adM adM_tape adM_frameAt adM_field adM_draft adM_given adM_low adM_high adM_packet adM_known _ _ hP hD hS _ (lv_sub hl [1, 2, 3] rfl)
      · have hG := zt hG hc
        refine lv_aload_n hx hb d_M_writeFields_39 rfl (lv_at hl 1 rfl) ?_
        refine lv_aload_n hx hb d_M_writeFields_40 rfl (lv_at hl 1 rfl) ?_
        refine va_get (D := (dC, dI)) (ci := 8) (v := .int (zM_gives sM)) (C := R_M) (T := F_M) (N := 26) hx hb hts zi_M hown zz.1 hP 0 rfl rfl 19 (by decide) (hts (.fieldLink R_M 211 "WireCodecModel" "gives" "I") zin_M_211) (fun _ h9 => h9) rfl d_M_writeFields_41 ?_
        refine lv_i2l hx hb d_M_writeFields_44 rfl ?_
        refine lv_aload_n hx hb d_M_writeFields_45 rfl (lv_at hl 1 rfl) ?_
        refine va_get (D := (dC, dI)) (ci := 8) (v := .int (zM_gives sM)) (C := R_M) (T := F_M) (N := 26) hx hb hts zi_M hown zz.1 hP 0 rfl rfl 19 (by decide) (hts (.fieldLink R_M 211 "WireCodecModel" "gives" "I") zin_M_211) (fun _ h9 => h9) rfl d_M_writeFields_46 ?_
        refine lv_i2l hx hb d_M_writeFields_49 rfl ?_
        obtain ⟨a_50, hx_50, hG⟩ := zb hG
        have hr_50 := zrunS (p := p) (e := e) (below := below) (meth := meth) (As := [.long ((zM_gives sM).toInt64)]) (rest := [.long ((zM_gives sM).toInt64), .ref adM]) (st0 := [.long ((zM_gives sM).toInt64), .long ((zM_gives sM).toInt64), .ref adM]) (cells := 0) (slots := 0) X zz hP hD hS hA [] (by decide) rfl (c_M_needs l dC dI cB cI cL H.size ((zM_gives sM).toInt64) _ hx_50) zy_M_needs zv_M_needs (hts (.methodLink R_M 84 y_M_needs) zin_M_84) hl rfl rfl d_M_writeFields_50 (lv_room (Nat.le_of_ble_eq_true rfl)) rfl rfl ⟨Nat.le_trans (Nat.le_of_ble_eq_true rfl) hRf, Nat.le_trans (Nat.le_of_ble_eq_true rfl) hRl⟩ ⟨Nat.zero_le _, Nat.zero_le _⟩
        refine zcalli (wr := (zwM adM adM_tape adM_frameAt adM_field adM_draft adM_given adM_low adM_high adM_packet adM_known cB cI cL sM)) hr_50 hP hD hS hA [] [0, 1, 2, 3, 4, 5, 6, 7, 8, 9] rfl rfl (by decide) (by decide) (fun r_50 u_50 H locs hw_50 hP hD hS => ?_)
        subst hw_50
        have hP : va_P (dC, dI) zcl (zwM adM adM_tape adM_frameAt adM_field adM_draft adM_given adM_low adM_high adM_packet adM_known cB cI cL sM) H := hP
        have hD : va_D A (zwM adM adM_tape adM_frameAt adM_field adM_draft adM_given adM_low adM_high adM_packet adM_known cB cI cL sM) := hD
        have hG : g_M_writeFields_c50 N kr sM v1 v2 r_50 = some a := hG
        unfold g_M_writeFields_c50 at hG
        obtain ⟨a_53, hx_53, hG⟩ := zb hG
        have hr_53 := zrunV (p := p) (e := e) (below := below) (meth := meth) (As := [.long ((zM_gives sM).toInt64), .int r_50]) (rest := []) (st0 := [.int r_50, .long ((zM_gives sM).toInt64), .ref adM]) (cells := 0) (slots := 0) X zz hP hD hS hA [0, 1, 2, 3, 4, 5, 6, 7, 8, 9] (by decide) rfl (c_M_writeNumber l dC dI cB cI cL H.size adM adM_tape adM_frameAt adM_field adM_draft adM_given adM_low adM_high adM_packet adM_known N sM ((zM_gives sM).toInt64) r_50 _ hx_53) zy_M_writeNumber zv_M_writeNumber (hts (.methodLink R_M 88 y_M_writeNumber) zin_M_88) hl rfl rfl d_M_writeFields_53 (lv_room (Nat.le_of_ble_eq_true rfl)) rfl rfl ⟨Nat.le_trans (Nat.le_of_ble_eq_true rfl) hRf, Nat.le_trans (Nat.le_of_ble_eq_true rfl) hRl⟩ ⟨Nat.zero_le _, Nat.zero_le _⟩ 0 8 rfl rfl
        refine zcallv (wr := ([] : va_W)) hr_53 hP hD hS hA [0, 1, 2, 3, 4, 5, 6, 7, 8, 9] [] rfl rfl (by decide) (by decide) (fun u_53 H locs hw_53 hP hD hS => ?_)
        obtain ⟨sM_53, rfl⟩ : ∃ z, z = u_53 := ⟨_, rfl⟩
        subst hw_53
        have hP : va_P (dC, dI) zcl (zwM adM adM_tape adM_frameAt adM_field adM_draft adM_given adM_low adM_high adM_packet adM_known cB cI cL sM_53) H := hP
        have hD : va_D A (zwM adM adM_tape adM_frameAt adM_field adM_draft adM_given adM_low adM_high adM_packet adM_known cB cI cL sM_53) := hD
        have hG : g_M_writeFields_c53 N kr v1 v2 sM_53 = some a := hG
        unfold g_M_writeFields_c53 at hG
        refine lv_aload_n hx hb d_M_writeFields_56 rfl (lv_at hl 1 rfl) ?_
        refine lv_aload_n hx hb d_M_writeFields_57 rfl (lv_at hl 1 rfl) ?_
        refine va_get (D := (dC, dI)) (ci := 8) (v := .int (zM_gives sM_53)) (C := R_M) (T := F_M) (N := 26) hx hb hts zi_M hown zz.1 hP 0 rfl rfl 19 (by decide) (hts (.fieldLink R_M 211 "WireCodecModel" "gives" "I") zin_M_211) (fun _ h9 => h9) rfl d_M_writeFields_58 ?_
        obtain ⟨a_61, hx_61, hG⟩ := zb hG
        have hr_61 := zrunV (p := p) (e := e) (below := below) (meth := meth) (As := [.int (zM_gives sM_53)]) (rest := []) (st0 := [.int (zM_gives sM_53), .ref adM]) (cells := 0) (slots := 0) X zz hP hD hS hA [0, 1, 2, 3, 4, 5, 6, 7, 8, 9] (by decide) rfl (c_M_writeGiven l dC dI cB cI cL H.size adM adM_tape adM_frameAt adM_field adM_draft adM_given adM_low adM_high adM_packet adM_known N sM_53 (zM_gives sM_53) _ hx_61) zy_M_writeGiven zv_M_writeGiven (hts (.methodLink R_M 225 y_M_writeGiven) zin_M_225) hl rfl rfl d_M_writeFields_61 (lv_room (Nat.le_of_ble_eq_true rfl)) rfl rfl ⟨Nat.le_trans (Nat.le_of_ble_eq_true rfl) hRf, Nat.le_trans (Nat.le_of_ble_eq_true rfl) hRl⟩ ⟨Nat.zero_le _, Nat.zero_le _⟩ 0 8 rfl rfl
        refine zcallv (wr := ([] : va_W)) hr_61 hP hD hS hA [0, 1, 2, 3, 4, 5, 6, 7, 8, 9] [] rfl rfl (by decide) (by decide) (fun u_61 H locs hw_61 hP hD hS => ?_)
        obtain ⟨sM_61, rfl⟩ : ∃ z, z = u_61 := ⟨_, rfl⟩
        subst hw_61
        have hP : va_P (dC, dI) zcl (zwM adM adM_tape adM_frameAt adM_field adM_draft adM_given adM_low adM_high adM_packet adM_known cB cI cL sM_61) H := hP
        have hD : va_D A (zwM adM adM_tape adM_frameAt adM_field adM_draft adM_given adM_low adM_high adM_packet adM_known cB cI cL sM_61) := hD
        have hG : g_M_writeFields_c61 N kr v1 v2 sM_61 = some a := hG
        unfold g_M_writeFields_c61 at hG
        refine lv_goto (tgt := 90) hx hb d_M_writeFields_64 (by decide) ?_
        exact k_M_writeFields_90 kr hrec X hA zz N sM_61 v1 v2 _ hG adM adM_tape adM_frameAt adM_field adM_draft adM_given adM_low adM_high adM_packet adM_known _ _ hP hD hS _ (lv_sub hl [1, 2, 3] rfl)
    · have hG := zt hG hc
      refine lv_aload_n hx hb d_M_writeFields_19 rfl (lv_at hl 1 rfl) ?_
      refine lv_aload_n hx hb d_M_writeFields_20 rfl (lv_at hl 1 rfl) ?_
      refine va_get (D := (dC, dI)) (ci := 8) (v := .ref adM_draft) (C := R_M) (T := F_M) (N := 26) hx hb hts zi_M hown zz.1 hP 0 rfl rfl 17 (by decide) (hts (.fieldLink R_M 26 "WireCodecModel" "draft" "[J") zin_M_26) (fun _ h9 => h9) rfl d_M_writeFields_21 ?_
      refine lv_iconst (v := (0 : Int32)) hx hb d_M_writeFields_24 (by decide) ?_
      obtain ⟨hin, hG⟩ := zgd hG
      refine va_lald hx hb zz.1 hP 4 2 rfl rfl hin d_M_writeFields_25 ?_
      refine lv_bipush (v := (8 : Int32)) hx hb d_M_writeFields_26 (by decide) ?_
      obtain ⟨a_28, hx_28, hG⟩ := zb hG
      have hr_28 := zrunV (p := p) (e := e) (below := below) (meth := meth) (As := [.long ((zM_draft sM) (0 : Int32).toNatClampNeg), .int (8 : Int32)]) (rest := []) (st0 := [.int (8 : Int32), .long ((zM_draft sM) (0 : Int32).toNatClampNeg), .ref adM]) (cells := 0) (slots := 0) X zz hP hD hS hA [0, 1, 2, 3, 4, 5, 6, 7, 8, 9] (by decide) rfl (c_M_write l dC dI cB cI cL H.size adM adM_tape adM_frameAt adM_field adM_draft adM_given adM_low adM_high adM_packet adM_known N sM ((zM_draft sM) (0 : Int32).toNatClampNeg) (8 : Int32) _ hx_28) zy_M_write zv_M_write (hts (.methodLink R_M 66 y_M_write) zin_M_66) hl rfl rfl d_M_writeFields_28 (lv_room (Nat.le_of_ble_eq_true rfl)) rfl rfl ⟨Nat.le_trans (Nat.le_of_ble_eq_true rfl) hRf, Nat.le_trans (Nat.le_of_ble_eq_true rfl) hRl⟩ ⟨Nat.zero_le _, Nat.zero_le _⟩ 0 8 rfl rfl
      refine zcallv (wr := ([] : va_W)) hr_28 hP hD hS hA [0, 1, 2, 3, 4, 5, 6, 7, 8, 9] [] rfl rfl (by decide) (by decide) (fun u_28 H locs hw_28 hP hD hS => ?_)
      obtain ⟨sM_28, rfl⟩ : ∃ z, z = u_28 := ⟨_, rfl⟩
      subst hw_28
      have hP : va_P (dC, dI) zcl (zwM adM adM_tape adM_frameAt adM_field adM_draft adM_given adM_low adM_high adM_packet adM_known cB cI cL sM_28) H := hP
      have hD : va_D A (zwM adM adM_tape adM_frameAt adM_field adM_draft adM_given adM_low adM_high adM_packet adM_known cB cI cL sM_28) := hD
      have hG : g_M_writeFields_c28 N kr v1 v2 sM_28 = some a := hG
      unfold g_M_writeFields_c28 at hG
      refine lv_goto (tgt := 90) hx hb d_M_writeFields_31 (by decide) ?_
      exact k_M_writeFields_90 kr hrec X hA zz N sM_28 v1 v2 _ hG adM adM_tape adM_frameAt adM_field adM_draft adM_given adM_low adM_high adM_packet adM_known _ _ hP hD hS _ (lv_sub hl [1, 2, 3] rfl)
theorem k_M_writeFields_5 {p : Program} {l : Launch} {e : Env} {R : Room} {s : State} {m : MethodId} {args : Array Value} {below : List Frame} {meth : Method} {c : Code} {dC : Nat → ClassId} {dI : Nat → Nat → Nat} {cB cI cL : ClassId} {A : Nat → Prop} (X : zx p s m args meth c R R_M b_M_writeFields none 4 2 49) (hA : ∀ q, s.heap.size ≤ q → A q) (zz : zk dC dI cB cI cL A s)  (N : Nat) : ∀ (k : Nat) (sM : zM) (v1 : Int32) (v2 : Int32) (a : zM) (hG : g_M_writeFields_5 N k sM v1 v2 = some a) (adM adM_tape adM_frameAt adM_field adM_draft adM_given adM_low adM_high adM_packet adM_known : Nat) (H : Heap) (locs : List Loc) (hP : va_P (dC, dI) zcl (zwM adM adM_tape adM_frameAt adM_field adM_draft adM_given adM_low adM_high adM_packet adM_known cB cI cL sM) H) (hD : va_D A (zwM adM adM_tape adM_frameAt adM_field adM_draft adM_given adM_low adM_high adM_packet adM_known cB cI cL sM)) (hS : va_S A s.heap H locs) (ls : Array Slot) (hl : lv_has ls 4 [(0, .ref adM), (1, .int v1), (2, .int v2)]), W p l e R s m args below meth c H locs 0 0 (MQ below (q_M_writeFields dC dI cB cI cL A adM adM_tape adM_frameAt adM_field adM_draft adM_given adM_low adM_high adM_packet adM_known a) args s 0 0 A) (F0 m 5 ls []) := by
  intro k
  induction k with
  | zero => intro sM v1 v2 a hG; exact absurd hG (by unfold g_M_writeFields_5; simp)
  | succ k ih => intro sM v1 v2 a hG adM adM_tape adM_frameAt adM_field adM_draft adM_given adM_low adM_high adM_packet adM_known H locs hP hD hS ls hl; exact k_M_writeFields_5_b _ ih X hA zz N sM v1 v2 a hG adM adM_tape adM_frameAt adM_field adM_draft adM_given adM_low adM_high adM_packet adM_known H locs hP hD hS ls hl
set_option maxRecDepth 100000 in
set_option maxHeartbeats 4000000 in
theorem k_M_writeFields_0 {p : Program} {l : Launch} {e : Env} {R : Room} {s : State} {m : MethodId} {args : Array Value} {below : List Frame} {meth : Method} {c : Code} {dC : Nat → ClassId} {dI : Nat → Nat → Nat} {cB cI cL : ClassId} {A : Nat → Prop} (X : zx p s m args meth c R R_M b_M_writeFields none 4 2 49) (hA : ∀ q, s.heap.size ≤ q → A q) (zz : zk dC dI cB cI cL A s)  (N : Nat) (sM : zM) (v1 : Int32) (a : zM) (hG : g_M_writeFields N sM v1 = some a) (adM adM_tape adM_frameAt adM_field adM_draft adM_given adM_low adM_high adM_packet adM_known : Nat) (H : Heap) (locs : List Loc) (hP : va_P (dC, dI) zcl (zwM adM adM_tape adM_frameAt adM_field adM_draft adM_given adM_low adM_high adM_packet adM_known cB cI cL sM) H) (hD : va_D A (zwM adM adM_tape adM_frameAt adM_field adM_draft adM_given adM_low adM_high adM_packet adM_known cB cI cL sM)) (hS : va_S A s.heap H locs) (ls : Array Slot) (hl : lv_has ls 4 [(0, .ref adM), (1, .int v1)]) : W p l e R s m args below meth c H locs 0 0 (MQ below (q_M_writeFields dC dI cB cI cL A adM adM_tape adM_frameAt adM_field adM_draft adM_given adM_low adM_high adM_packet adM_known a) args s 0 0 A) (F0 m 0 ls []) := by
  obtain ⟨hx, hb, hr, hml, hown, hts, hlocks, hRf, hRl⟩ := id X
  unfold g_M_writeFields at hG
  refine lv_iload_n hx hb d_M_writeFields_0 rfl (lv_at hl 1 rfl) ?_
  obtain ⟨a_1, hx_1, hG⟩ := zb hG
  have hr_1 := zrunS (p := p) (e := e) (below := below) (meth := meth) (As := [.int v1]) (rest := []) (st0 := [.int v1]) (cells := 0) (slots := 0) X zz hP hD hS hA [] (by decide) rfl (c_M_fields l dC dI cB cI cL H.size v1 _ hx_1) zy_M_fields zv_M_fields (hts (.methodLink R_M 134 y_M_fields) zin_M_134) hl rfl rfl d_M_writeFields_1 (lv_room (Nat.le_of_ble_eq_true rfl)) rfl rfl ⟨Nat.le_trans (Nat.le_of_ble_eq_true rfl) hRf, Nat.le_trans (Nat.le_of_ble_eq_true rfl) hRl⟩ ⟨Nat.zero_le _, Nat.zero_le _⟩
  refine zcalli (wr := (zwM adM adM_tape adM_frameAt adM_field adM_draft adM_given adM_low adM_high adM_packet adM_known cB cI cL sM)) hr_1 hP hD hS hA [] [0, 1, 2, 3, 4, 5, 6, 7, 8, 9] rfl rfl (by decide) (by decide) (fun r_1 u_1 H locs hw_1 hP hD hS => ?_)
  subst hw_1
  have hP : va_P (dC, dI) zcl (zwM adM adM_tape adM_frameAt adM_field adM_draft adM_given adM_low adM_high adM_packet adM_known cB cI cL sM) H := hP
  have hD : va_D A (zwM adM adM_tape adM_frameAt adM_field adM_draft adM_given adM_low adM_high adM_packet adM_known cB cI cL sM) := hD
  have hG : g_M_writeFields_c1 N sM v1 r_1 = some a := hG
  unfold g_M_writeFields_c1 at hG
  refine lv_istore_n (lv' := [(2, .int r_1), (0, .ref adM), (1, .int v1)]) hx hb d_M_writeFields_4 rfl hl (by decide) rfl (fun ls hl => ?_)
  exact k_M_writeFields_5 X hA zz N N sM v1 r_1 _ hG adM adM_tape adM_frameAt adM_field adM_draft adM_given adM_low adM_high adM_packet adM_known _ _ hP hD hS _ (lv_sub hl [1, 2, 0] rfl)
set_option maxRecDepth 100000 in
set_option maxHeartbeats 4000000 in
theorem c_M_writeFields (l : Launch) (dC : Nat → ClassId) (dI : Nat → Nat → Nat) (cB cI cL : ClassId) (sz : Nat) (adM adM_tape adM_frameAt adM_field adM_draft adM_given adM_low adM_high adM_packet adM_known : Nat) (N : Nat) (sM : zM) (v1 : Int32) (a : zM) (hG : g_M_writeFields N sM v1 = some a) : Met l y_M_writeFields (zw y_M_writeFields b_M_writeFields 4 none) ({ frames := 2, cells := 0, slots := 0, locals := 49 }) (va_Pc [.ref adM, .int v1] (zpre dC dI cB cI cL sz (zwM adM adM_tape adM_frameAt adM_field adM_draft adM_given adM_low adM_high adM_packet adM_known cB cI cL sM))) (q_M_writeFields dC dI cB cI cL (va_A (zwM adM adM_tape adM_frameAt adM_field adM_draft adM_given adM_low adM_high adM_packet adM_known cB cI cL sM) sz) adM adM_tape adM_frameAt adM_field adM_draft adM_given adM_low adM_high adM_packet adM_known a) 0 0 (va_A (zwM adM adM_tape adM_frameAt adM_field adM_draft adM_given adM_low adM_high adM_packet adM_known cB cI cL sM) sz) := by
  refine Met.ofW (cc := b_M_writeFields) (maxL := 4) (ret := none) (by decide) rfl ?_
  intro p e s m args below meth c s₁ B hml hv
  obtain ⟨rfl, hsz, hP, zz, hD0⟩ := hv
  subst hsz
  have X := zx_of (F := 2) (L := 49) B hml (Nat.le_refl _) (Nat.le_refl _)
  have hD := hD0.self (sz := s.heap.size)
  have hA : ∀ q : Nat, s.heap.size ≤ q → va_A (zwM adM adM_tape adM_frameAt adM_field adM_draft adM_given adM_low adM_high adM_packet adM_known cB cI cL sM) s.heap.size q := fun q h => Or.inr h
  have hl := lv_entry ([.ref adM, .int v1]) (n := 4) (Nat.le_of_ble_eq_true rfl)
  rw [lg_entry_eq]
  generalize (lg_sl ([.ref adM, .int v1]) ++ List.replicate (4 - (lg_sl ([.ref adM, .int v1])).length) Slot.unset).toArray = ls at hl ⊢
  exact k_M_writeFields_0 X hA zz N sM v1 a hG adM adM_tape adM_frameAt adM_field adM_draft adM_given adM_low adM_high adM_packet adM_known _ _ hP hD va_S.rf ls hl
noncomputable def g_M_put_85 (N : Nat) (sM : zM) : Option (Int32 × zM) := some ((0 : Int32), sM)
noncomputable def g_M_put_210 (N : Nat) (sM : zM) : Option (Int32 × zM) := some (zM_size sM, sM)
noncomputable def g_M_put_c207 (N : Nat) (sM_207 : zM) : Option (Int32 × zM) := g_M_put_210 N sM_207
noncomputable def g_M_put_c199 (N : Nat) (sM_199 : zM) : Option (Int32 × zM) := g_M_put_210 N sM_199
noncomputable def g_M_put_c186 (N : Nat) (sM_186 : zM) : Option (Int32 × zM) := g_M_put_210 N sM_186
noncomputable def g_M_put_c178 (N : Nat) (v1 : Int32) (sM_174 : zM) (r_178 : Int32) : Option (Int32 × zM) := if r_178 = (0 : Int32) then (if v1 = (8 : Int32) then ((g_M_writeStream N sM_174).bind (fun a => g_M_put_c199 N a)) else ((g_M_writeFields N sM_174 v1).bind (fun a => g_M_put_c207 N a))) else ((g_M_writeAck N sM_174 v1).bind (fun a => g_M_put_c186 N a))
noncomputable def g_M_put_c174 (N : Nat) (v1 : Int32) (sM_174 : zM) : Option (Int32 × zM) := (g_M_isAck v1).bind (fun a => g_M_put_c178 N v1 sM_174 a)
noncomputable def g_M_put_167 (N : Nat) (sM : zM) (v1 : Int32) (s0 : Int32) : Option (Int32 × zM) := (g_M_write N sM ((v1 + s0).toInt64) (1 : Int32)).bind (fun a => g_M_put_c174 N v1 a)
noncomputable def g_M_put_148 (N : Nat) (sM : zM) (v1 : Int32) (s0 : Int32) : Option (Int32 × zM) := zg (vp_in (3 : Int32) 12) (zg (vp_in (2 : Int32) 12) (g_M_put_167 N sM v1 (s0 + ((((2 : Int64) * ((zM_draft sM) (3 : Int32).toNatClampNeg)) + ((zM_draft sM) (2 : Int32).toNatClampNeg)).toInt32))))
noncomputable def g_M_put_c107 (kr : zM → Int64 → Option (Int32 × zM)) (v3 : Int64) (sM_107 : zM) : Option (Int32 × zM) := kr sM_107 (v3 + (1 : Int64))
noncomputable def g_M_put_93_b (N : Nat) (kr : zM → Int64 → Option (Int32 × zM)) (sM : zM) (v3 : Int64) : Option (Int32 × zM) := zg (vp_in (0 : Int32) 12) (if (0 : Int32) ≤ (lg_cmp v3 ((zM_draft sM) (0 : Int32).toNatClampNeg)) then (some (zM_size sM, sM)) else ((g_M_write N sM (0 : Int64) (1 : Int32)).bind (fun a => g_M_put_c107 kr v3 a)))
noncomputable def g_M_put_93 (N : Nat) : Nat → zM → Int64 → Option (Int32 × zM)
  | 0 => fun _ _ => none
  | k + 1 => fun sM v3 => g_M_put_93_b N (g_M_put_93 N k) sM v3
noncomputable def g_M_put_c79 (N : Nat) (v1 : Int32) (sM_79 : zM) (r_79 : Int32) : Option (Int32 × zM) := if r_79 = (0 : Int32) then (if v1 = (0 : Int32) then (g_M_put_93 N N sM_79 (0 : Int64)) else (if v1 = (8 : Int32) then (zg (vp_in (1 : Int32) 12) (if (lg_cmp ((zM_draft sM_79) (1 : Int32).toNatClampNeg) (0 : Int64)) = (0 : Int32) then (g_M_put_148 N sM_79 v1 (0 : Int32)) else (g_M_put_148 N sM_79 v1 (4 : Int32)))) else (g_M_put_167 N sM_79 v1 (0 : Int32)))) else (g_M_put_85 N sM_79)
noncomputable def g_M_put_78 (N : Nat) (sM : zM) (v1 : Int32) (s0 : Int32) : Option (Int32 × zM) := (g_M_fails sM s0 (2 : Int32)).bind (fun a => g_M_put_c79 N v1 a.2 a.1)
noncomputable def g_M_put_c64 (N : Nat) (v1 : Int32) (sM_51 : zM) (r_64 : Int32) : Option (Int32 × zM) := if ((zM_size sM_51) + r_64) ≤ (65536 : Int32) then (g_M_put_78 N sM_51 v1 (0 : Int32)) else (g_M_put_78 N sM_51 v1 (1 : Int32))
noncomputable def g_M_put_c51 (N : Nat) (v1 : Int32) (sM_51 : zM) (r_51 : Int32) : Option (Int32 × zM) := if r_51 = (0 : Int32) then ((g_M_sizeOf N sM_51 v1).bind (fun a => g_M_put_c64 N v1 sM_51 a)) else (g_M_put_85 N sM_51)
noncomputable def g_M_put_50 (N : Nat) (sM : zM) (v1 : Int32) (s0 : Int32) : Option (Int32 × zM) := (g_M_fails sM s0 (1 : Int32)).bind (fun a => g_M_put_c51 N v1 a.2 a.1)
noncomputable def g_M_put_45 (N : Nat) (sM : zM) (v1 : Int32) : Option (Int32 × zM) := g_M_put_50 N sM v1 (1 : Int32)
noncomputable def g_M_put_c39 (N : Nat) (sM : zM) (v1 : Int32) (r_39 : Int32) : Option (Int32 × zM) := if r_39 = (0 : Int32) then (g_M_put_45 N sM v1) else (g_M_put_50 N sM v1 (0 : Int32))
noncomputable def g_M_put_31 (N : Nat) (sM : zM) (v1 : Int32) (s0 : Int32) : Option (Int32 × zM) := if s0 = (0 : Int32) then (g_M_put_45 N sM v1) else ((g_M_suits N sM v1).bind (fun a => g_M_put_c39 N sM v1 a))
noncomputable def g_M_put_26 (N : Nat) (sM : zM) (v1 : Int32) : Option (Int32 × zM) := g_M_put_31 N sM v1 (1 : Int32)
noncomputable def g_M_put_c20 (N : Nat) (sM : zM) (v1 : Int32) (r_20 : Int32) : Option (Int32 × zM) := if r_20 = (0 : Int32) then (g_M_put_31 N sM v1 (0 : Int32)) else (g_M_put_26 N sM v1)
noncomputable def g_M_put_c6 (N : Nat) (sM : zM) (v1 : Int32) (r_6 : Int32) : Option (Int32 × zM) := if r_6 = (0 : Int32) then ((g_M_within v1.toInt64 (16 : Int64) (30 : Int64)).bind (fun a => g_M_put_c20 N sM v1 a)) else (g_M_put_26 N sM v1)
noncomputable def g_M_put (N : Nat) (sM : zM) (v1 : Int32) : Option (Int32 × zM) := (g_M_within v1.toInt64 (0 : Int64) (8 : Int64)).bind (fun a => g_M_put_c6 N sM v1 a)
def q_M_put (dC : Nat → ClassId) (dI : Nat → Nat → Nat) (cB cI cL : ClassId) (A : Nat → Prop) (adM : Nat) (adM_tape : Nat) (adM_frameAt : Nat) (adM_field : Nat) (adM_draft : Nat) (adM_given : Nat) (adM_low : Nat) (adM_high : Nat) (adM_packet : Nat) (adM_known : Nat) (a : Int32 × zM) : Array Value → State → Outcome → State → Prop := va_Qi (fun (r : Int32) (u : zM) => (r, u) = a) (fun u U => va_P (dC, dI) zcl (zwM adM adM_tape adM_frameAt adM_field adM_draft adM_given adM_low adM_high adM_packet adM_known cB cI cL u) U.heap ∧ va_D A (zwM adM adM_tape adM_frameAt adM_field adM_draft adM_given adM_low adM_high adM_packet adM_known cB cI cL u)) A
set_option maxRecDepth 100000 in
set_option maxHeartbeats 4000000 in
theorem k_M_put_85 {p : Program} {l : Launch} {e : Env} {R : Room} {s : State} {m : MethodId} {args : Array Value} {below : List Frame} {meth : Method} {c : Code} {dC : Nat → ClassId} {dI : Nat → Nat → Nat} {cB cI cL : ClassId} {A : Nat → Prop} (X : zx p s m args meth c R R_M b_M_put (some .int) 5 3 75) (hA : ∀ q, s.heap.size ≤ q → A q) (zz : zk dC dI cB cI cL A s)  (N : Nat) (sM : zM) (a : Int32 × zM) (hG : g_M_put_85 N sM = some a) (adM adM_tape adM_frameAt adM_field adM_draft adM_given adM_low adM_high adM_packet adM_known : Nat) (H : Heap) (locs : List Loc) (hP : va_P (dC, dI) zcl (zwM adM adM_tape adM_frameAt adM_field adM_draft adM_given adM_low adM_high adM_packet adM_known cB cI cL sM) H) (hD : va_D A (zwM adM adM_tape adM_frameAt adM_field adM_draft adM_given adM_low adM_high adM_packet adM_known cB cI cL sM)) (hS : va_S A s.heap H locs) (ls : Array Slot) (hl : lv_has ls 5 []) : W p l e R s m args below meth c H locs 0 0 (MQ below (q_M_put dC dI cB cI cL A adM adM_tape adM_frameAt adM_field adM_draft adM_given adM_low adM_high adM_packet adM_known a) args s 0 0 A) (F0 m 85 ls []) := by
  obtain ⟨hx, hb, hr, hml, hown, hts, hlocks, hRf, hRl⟩ := id X
  unfold g_M_put_85 at hG
  refine lv_iconst (v := (0 : Int32)) hx hb d_M_put_85 (by decide) ?_
  exact W.iret (v := (0 : Int32)) hx hb hr (fun t9 ht9 hW9 => ⟨⟨(0 : Int32), (sM), rfl, Option.some.inj hG, by rw [ht9]; exact hP, hD⟩, hS.F ht9⟩) hS.2.2 d_M_put_86
set_option maxRecDepth 100000 in
set_option maxHeartbeats 4000000 in
theorem k_M_put_210 {p : Program} {l : Launch} {e : Env} {R : Room} {s : State} {m : MethodId} {args : Array Value} {below : List Frame} {meth : Method} {c : Code} {dC : Nat → ClassId} {dI : Nat → Nat → Nat} {cB cI cL : ClassId} {A : Nat → Prop} (X : zx p s m args meth c R R_M b_M_put (some .int) 5 3 75) (hA : ∀ q, s.heap.size ≤ q → A q) (zz : zk dC dI cB cI cL A s)  (N : Nat) (sM : zM) (a : Int32 × zM) (hG : g_M_put_210 N sM = some a) (adM adM_tape adM_frameAt adM_field adM_draft adM_given adM_low adM_high adM_packet adM_known : Nat) (H : Heap) (locs : List Loc) (hP : va_P (dC, dI) zcl (zwM adM adM_tape adM_frameAt adM_field adM_draft adM_given adM_low adM_high adM_packet adM_known cB cI cL sM) H) (hD : va_D A (zwM adM adM_tape adM_frameAt adM_field adM_draft adM_given adM_low adM_high adM_packet adM_known cB cI cL sM)) (hS : va_S A s.heap H locs) (ls : Array Slot) (hl : lv_has ls 5 [(0, .ref adM)]) : W p l e R s m args below meth c H locs 0 0 (MQ below (q_M_put dC dI cB cI cL A adM adM_tape adM_frameAt adM_field adM_draft adM_given adM_low adM_high adM_packet adM_known a) args s 0 0 A) (F0 m 210 ls []) := by
  obtain ⟨hx, hb, hr, hml, hown, hts, hlocks, hRf, hRl⟩ := id X
  unfold g_M_put_210 at hG
  refine lv_aload_n hx hb d_M_put_210 rfl (lv_at hl 0 rfl) ?_
  refine va_get (D := (dC, dI)) (ci := 8) (v := .int (zM_size sM)) (C := R_M) (T := F_M) (N := 26) hx hb hts zi_M hown zz.1 hP 0 rfl rfl 2 (by decide) (hts (.fieldLink R_M 57 "WireCodecModel" "size" "I") zin_M_57) (fun _ h9 => h9) rfl d_M_put_211 ?_
  exact W.iret (v := zM_size sM) hx hb hr (fun t9 ht9 hW9 => ⟨⟨zM_size sM, (sM), rfl, Option.some.inj hG, by rw [ht9]; exact hP, hD⟩, hS.F ht9⟩) hS.2.2 d_M_put_214
set_option maxRecDepth 100000 in
set_option maxHeartbeats 4000000 in
theorem k_M_put_167 {p : Program} {l : Launch} {e : Env} {R : Room} {s : State} {m : MethodId} {args : Array Value} {below : List Frame} {meth : Method} {c : Code} {dC : Nat → ClassId} {dI : Nat → Nat → Nat} {cB cI cL : ClassId} {A : Nat → Prop} (X : zx p s m args meth c R R_M b_M_put (some .int) 5 3 75) (hA : ∀ q, s.heap.size ≤ q → A q) (zz : zk dC dI cB cI cL A s)  (N : Nat) (sM : zM) (v1 : Int32) (s0 : Int32) (a : Int32 × zM) (hG : g_M_put_167 N sM v1 s0 = some a) (adM adM_tape adM_frameAt adM_field adM_draft adM_given adM_low adM_high adM_packet adM_known : Nat) (H : Heap) (locs : List Loc) (hP : va_P (dC, dI) zcl (zwM adM adM_tape adM_frameAt adM_field adM_draft adM_given adM_low adM_high adM_packet adM_known cB cI cL sM) H) (hD : va_D A (zwM adM adM_tape adM_frameAt adM_field adM_draft adM_given adM_low adM_high adM_packet adM_known cB cI cL sM)) (hS : va_S A s.heap H locs) (ls : Array Slot) (hl : lv_has ls 5 [(0, .ref adM), (1, .int v1)]) : W p l e R s m args below meth c H locs 0 0 (MQ below (q_M_put dC dI cB cI cL A adM adM_tape adM_frameAt adM_field adM_draft adM_given adM_low adM_high adM_packet adM_known a) args s 0 0 A) (F0 m 167 ls [.int s0]) := by
  obtain ⟨hx, hb, hr, hml, hown, hts, hlocks, hRf, hRl⟩ := id X
  unfold g_M_put_167 at hG
  refine lv_istore_n (lv' := [(3, .int s0), (0, .ref adM), (1, .int v1)]) hx hb d_M_put_167 rfl hl (by decide) rfl (fun ls hl => ?_)
  refine lv_aload_n hx hb d_M_put_168 rfl (lv_at hl 1 rfl) ?_
  refine lv_iload_n hx hb d_M_put_169 rfl (lv_at hl 2 rfl) ?_
  refine lv_iload_n hx hb d_M_put_170 rfl (lv_at hl 0 rfl) ?_
  refine lv_iadd hx hb d_M_put_171 ?_
  refine lv_i2l hx hb d_M_put_172 rfl ?_
  refine lv_iconst (v := (1 : Int32)) hx hb d_M_put_173 (by decide) ?_
  obtain ⟨a_174, hx_174, hG⟩ := zb hG
  have hr_174 := zrunV (p := p) (e := e) (below := below) (meth := meth) (As := [.long ((v1 + s0).toInt64), .int (1 : Int32)]) (rest := []) (st0 := [.int (1 : Int32), .long ((v1 + s0).toInt64), .ref adM]) (cells := 0) (slots := 0) X zz hP hD hS hA [0, 1, 2, 3, 4, 5, 6, 7, 8, 9] (by decide) rfl (c_M_write l dC dI cB cI cL H.size adM adM_tape adM_frameAt adM_field adM_draft adM_given adM_low adM_high adM_packet adM_known N sM ((v1 + s0).toInt64) (1 : Int32) _ hx_174) zy_M_write zv_M_write (hts (.methodLink R_M 66 y_M_write) zin_M_66) hl rfl rfl d_M_put_174 (lv_room (Nat.le_of_ble_eq_true rfl)) rfl rfl ⟨Nat.le_trans (Nat.le_of_ble_eq_true rfl) hRf, Nat.le_trans (Nat.le_of_ble_eq_true rfl) hRl⟩ ⟨Nat.zero_le _, Nat.zero_le _⟩ 0 8 rfl rfl
  refine zcallv (wr := ([] : va_W)) hr_174 hP hD hS hA [0, 1, 2, 3, 4, 5, 6, 7, 8, 9] [] rfl rfl (by decide) (by decide) (fun u_174 H locs hw_174 hP hD hS => ?_)
  obtain ⟨sM_174, rfl⟩ : ∃ z, z = u_174 := ⟨_, rfl⟩
  subst hw_174
  have hP : va_P (dC, dI) zcl (zwM adM adM_tape adM_frameAt adM_field adM_draft adM_given adM_low adM_high adM_packet adM_known cB cI cL sM_174) H := hP
  have hD : va_D A (zwM adM adM_tape adM_frameAt adM_field adM_draft adM_given adM_low adM_high adM_packet adM_known cB cI cL sM_174) := hD
  have hG : g_M_put_c174 N v1 sM_174 = some a := hG
  unfold g_M_put_c174 at hG
  refine lv_iload_n hx hb d_M_put_177 rfl (lv_at hl 2 rfl) ?_
  obtain ⟨a_178, hx_178, hG⟩ := zb hG
  have hr_178 := zrunS (p := p) (e := e) (below := below) (meth := meth) (As := [.int v1]) (rest := []) (st0 := [.int v1]) (cells := 0) (slots := 0) X zz hP hD hS hA [] (by decide) rfl (c_M_isAck l dC dI cB cI cL H.size v1 _ hx_178) zy_M_isAck zv_M_isAck (hts (.methodLink R_M 171 y_M_isAck) zin_M_171) hl rfl rfl d_M_put_178 (lv_room (Nat.le_of_ble_eq_true rfl)) rfl rfl ⟨Nat.le_trans (Nat.le_of_ble_eq_true rfl) hRf, Nat.le_trans (Nat.le_of_ble_eq_true rfl) hRl⟩ ⟨Nat.zero_le _, Nat.zero_le _⟩
  refine zcalli (wr := (zwM adM adM_tape adM_frameAt adM_field adM_draft adM_given adM_low adM_high adM_packet adM_known cB cI cL sM_174)) hr_178 hP hD hS hA [] [0, 1, 2, 3, 4, 5, 6, 7, 8, 9] rfl rfl (by decide) (by decide) (fun r_178 u_178 H locs hw_178 hP hD hS => ?_)
  subst hw_178
  have hP : va_P (dC, dI) zcl (zwM adM adM_tape adM_frameAt adM_field adM_draft adM_given adM_low adM_high adM_packet adM_known cB cI cL sM_174) H := hP
  have hD : va_D A (zwM adM adM_tape adM_frameAt adM_field adM_draft adM_given adM_low adM_high adM_packet adM_known cB cI cL sM_174) := hD
  have hG : g_M_put_c178 N v1 sM_174 r_178 = some a := hG
  unfold g_M_put_c178 at hG
  refine lv_if_eq (tgt := 192) hx hb d_M_put_181 (by decide) (fun hc => ?_) (fun hc => ?_)
  · have hG := zt hG hc
    refine lv_iload_n hx hb d_M_put_192 rfl (lv_at hl 2 rfl) ?_
    refine lv_bipush (v := (8 : Int32)) hx hb d_M_put_193 (by decide) ?_
    refine lv_icmp_ne (tgt := 205) hx hb d_M_put_195 (by decide) (fun hc => ?_) (fun hc => ?_)
    · have hG := zf hG hc
      refine lv_aload_n hx hb d_M_put_205 rfl (lv_at hl 1 rfl) ?_
      refine lv_iload_n hx hb d_M_put_206 rfl (lv_at hl 2 rfl) ?_
      obtain ⟨a_207, hx_207, hG⟩ := zb hG
      have hr_207 := zrunV (p := p) (e := e) (below := below) (meth := meth) (As := [.int v1]) (rest := []) (st0 := [.int v1, .ref adM]) (cells := 0) (slots := 0) X zz hP hD hS hA [0, 1, 2, 3, 4, 5, 6, 7, 8, 9] (by decide) rfl (c_M_writeFields l dC dI cB cI cL H.size adM adM_tape adM_frameAt adM_field adM_draft adM_given adM_low adM_high adM_packet adM_known N sM_174 v1 _ hx_207) zy_M_writeFields zv_M_writeFields (hts (.methodLink R_M 242 y_M_writeFields) zin_M_242) hl rfl rfl d_M_put_207 (lv_room (Nat.le_of_ble_eq_true rfl)) rfl rfl ⟨Nat.le_trans (Nat.le_of_ble_eq_true rfl) hRf, Nat.le_trans (Nat.le_of_ble_eq_true rfl) hRl⟩ ⟨Nat.zero_le _, Nat.zero_le _⟩ 0 8 rfl rfl
      refine zcallv (wr := ([] : va_W)) hr_207 hP hD hS hA [0, 1, 2, 3, 4, 5, 6, 7, 8, 9] [] rfl rfl (by decide) (by decide) (fun u_207 H locs hw_207 hP hD hS => ?_)
      obtain ⟨sM_207, rfl⟩ : ∃ z, z = u_207 := ⟨_, rfl⟩
      subst hw_207
      have hP : va_P (dC, dI) zcl (zwM adM adM_tape adM_frameAt adM_field adM_draft adM_given adM_low adM_high adM_packet adM_known cB cI cL sM_207) H := hP
      have hD : va_D A (zwM adM adM_tape adM_frameAt adM_field adM_draft adM_given adM_low adM_high adM_packet adM_known cB cI cL sM_207) := hD
      have hG : g_M_put_c207 N sM_207 = some a := hG
      unfold g_M_put_c207 at hG
      exact k_M_put_210 X hA zz N sM_207 _ hG adM adM_tape adM_frameAt adM_field adM_draft adM_given adM_low adM_high adM_packet adM_known _ _ hP hD hS _ (lv_sub hl [1] rfl)
    · have hG := zt hG hc
      refine lv_aload_n hx hb d_M_put_198 rfl (lv_at hl 1 rfl) ?_
      obtain ⟨a_199, hx_199, hG⟩ := zb hG
      have hr_199 := zrunV (p := p) (e := e) (below := below) (meth := meth) (As := []) (rest := []) (st0 := [.ref adM]) (cells := 0) (slots := 0) X zz hP hD hS hA [0, 1, 2, 3, 4, 5, 6, 7, 8, 9] (by decide) rfl (c_M_writeStream l dC dI cB cI cL H.size adM adM_tape adM_frameAt adM_field adM_draft adM_given adM_low adM_high adM_packet adM_known N sM_174 _ hx_199) zy_M_writeStream zv_M_writeStream (hts (.methodLink R_M 239 y_M_writeStream) zin_M_239) hl rfl rfl d_M_put_199 (lv_room (Nat.le_of_ble_eq_true rfl)) rfl rfl ⟨Nat.le_trans (Nat.le_of_ble_eq_true rfl) hRf, Nat.le_trans (Nat.le_of_ble_eq_true rfl) hRl⟩ ⟨Nat.zero_le _, Nat.zero_le _⟩ 0 8 rfl rfl
      refine zcallv (wr := ([] : va_W)) hr_199 hP hD hS hA [0, 1, 2, 3, 4, 5, 6, 7, 8, 9] [] rfl rfl (by decide) (by decide) (fun u_199 H locs hw_199 hP hD hS => ?_)
      obtain ⟨sM_199, rfl⟩ : ∃ z, z = u_199 := ⟨_, rfl⟩
      subst hw_199
      have hP : va_P (dC, dI) zcl (zwM adM adM_tape adM_frameAt adM_field adM_draft adM_given adM_low adM_high adM_packet adM_known cB cI cL sM_199) H := hP
      have hD : va_D A (zwM adM adM_tape adM_frameAt adM_field adM_draft adM_given adM_low adM_high adM_packet adM_known cB cI cL sM_199) := hD
      have hG : g_M_put_c199 N sM_199 = some a := hG
      unfold g_M_put_c199 at hG
      refine lv_goto (tgt := 210) hx hb d_M_put_202 (by decide) ?_
      exact k_M_put_210 X hA zz N sM_199 _ hG adM adM_tape adM_frameAt adM_field adM_draft adM_given adM_low adM_high adM_packet adM_known _ _ hP hD hS _ (lv_sub hl [1] rfl)
  · have hG := zf hG hc
    refine lv_aload_n hx hb d_M_put_184 rfl (lv_at hl 1 rfl) ?_
    refine lv_iload_n hx hb d_M_put_185 rfl (lv_at hl 2 rfl) ?_
    obtain ⟨a_186, hx_186, hG⟩ := zb hG
    have hr_186 := zrunV (p := p) (e := e) (below := below) (meth := meth) (As := [.int v1]) (rest := []) (st0 := [.int v1, .ref adM]) (cells := 0) (slots := 0) X zz hP hD hS hA [0, 1, 2, 3, 4, 5, 6, 7, 8, 9] (by decide) rfl (c_M_writeAck l dC dI cB cI cL H.size adM adM_tape adM_frameAt adM_field adM_draft adM_given adM_low adM_high adM_packet adM_known N sM_174 v1 _ hx_186) zy_M_writeAck zv_M_writeAck (hts (.methodLink R_M 236 y_M_writeAck) zin_M_236) hl rfl rfl d_M_put_186 (lv_room (Nat.le_of_ble_eq_true rfl)) rfl rfl ⟨Nat.le_trans (Nat.le_of_ble_eq_true rfl) hRf, Nat.le_trans (Nat.le_of_ble_eq_true rfl) hRl⟩ ⟨Nat.zero_le _, Nat.zero_le _⟩ 0 8 rfl rfl
    refine zcallv (wr := ([] : va_W)) hr_186 hP hD hS hA [0, 1, 2, 3, 4, 5, 6, 7, 8, 9] [] rfl rfl (by decide) (by decide) (fun u_186 H locs hw_186 hP hD hS => ?_)
    obtain ⟨sM_186, rfl⟩ : ∃ z, z = u_186 := ⟨_, rfl⟩
    subst hw_186
    have hP : va_P (dC, dI) zcl (zwM adM adM_tape adM_frameAt adM_field adM_draft adM_given adM_low adM_high adM_packet adM_known cB cI cL sM_186) H := hP
    have hD : va_D A (zwM adM adM_tape adM_frameAt adM_field adM_draft adM_given adM_low adM_high adM_packet adM_known cB cI cL sM_186) := hD
    have hG : g_M_put_c186 N sM_186 = some a := hG
    unfold g_M_put_c186 at hG
    refine lv_goto (tgt := 210) hx hb d_M_put_189 (by decide) ?_
    exact k_M_put_210 X hA zz N sM_186 _ hG adM adM_tape adM_frameAt adM_field adM_draft adM_given adM_low adM_high adM_packet adM_known _ _ hP hD hS _ (lv_sub hl [1] rfl)
set_option maxRecDepth 100000 in
set_option maxHeartbeats 4000000 in
theorem k_M_put_148 {p : Program} {l : Launch} {e : Env} {R : Room} {s : State} {m : MethodId} {args : Array Value} {below : List Frame} {meth : Method} {c : Code} {dC : Nat → ClassId} {dI : Nat → Nat → Nat} {cB cI cL : ClassId} {A : Nat → Prop} (X : zx p s m args meth c R R_M b_M_put (some .int) 5 3 75) (hA : ∀ q, s.heap.size ≤ q → A q) (zz : zk dC dI cB cI cL A s)  (N : Nat) (sM : zM) (v1 : Int32) (s0 : Int32) (a : Int32 × zM) (hG : g_M_put_148 N sM v1 s0 = some a) (adM adM_tape adM_frameAt adM_field adM_draft adM_given adM_low adM_high adM_packet adM_known : Nat) (H : Heap) (locs : List Loc) (hP : va_P (dC, dI) zcl (zwM adM adM_tape adM_frameAt adM_field adM_draft adM_given adM_low adM_high adM_packet adM_known cB cI cL sM) H) (hD : va_D A (zwM adM adM_tape adM_frameAt adM_field adM_draft adM_given adM_low adM_high adM_packet adM_known cB cI cL sM)) (hS : va_S A s.heap H locs) (ls : Array Slot) (hl : lv_has ls 5 [(0, .ref adM), (1, .int v1)]) : W p l e R s m args below meth c H locs 0 0 (MQ below (q_M_put dC dI cB cI cL A adM adM_tape adM_frameAt adM_field adM_draft adM_given adM_low adM_high adM_packet adM_known a) args s 0 0 A) (F0 m 148 ls [.int s0]) := by
  obtain ⟨hx, hb, hr, hml, hown, hts, hlocks, hRf, hRl⟩ := id X
  unfold g_M_put_148 at hG
  refine lv_ldc2 (v := (2 : Int64)) hx hb hown (hts (.constantLong R_M 76 (2 : Int64)) zin_M_76) d_M_put_148 ?_
  refine lv_aload_n hx hb d_M_put_151 rfl (lv_at hl 0 rfl) ?_
  refine va_get (D := (dC, dI)) (ci := 8) (v := .ref adM_draft) (C := R_M) (T := F_M) (N := 26) hx hb hts zi_M hown zz.1 hP 0 rfl rfl 17 (by decide) (hts (.fieldLink R_M 26 "WireCodecModel" "draft" "[J") zin_M_26) (fun _ h9 => h9) rfl d_M_put_152 ?_
  refine lv_iconst (v := (3 : Int32)) hx hb d_M_put_155 (by decide) ?_
  obtain ⟨hin, hG⟩ := zgd hG
  refine va_lald hx hb zz.1 hP 4 2 rfl rfl hin d_M_put_156 ?_
  refine lv_lmul hx hb d_M_put_157 ?_
  refine lv_aload_n hx hb d_M_put_158 rfl (lv_at hl 0 rfl) ?_
  refine va_get (D := (dC, dI)) (ci := 8) (v := .ref adM_draft) (C := R_M) (T := F_M) (N := 26) hx hb hts zi_M hown zz.1 hP 0 rfl rfl 17 (by decide) (hts (.fieldLink R_M 26 "WireCodecModel" "draft" "[J") zin_M_26) (fun _ h9 => h9) rfl d_M_put_159 ?_
  refine lv_iconst (v := (2 : Int32)) hx hb d_M_put_162 (by decide) ?_
  obtain ⟨hin, hG⟩ := zgd hG
  refine va_lald hx hb zz.1 hP 4 2 rfl rfl hin d_M_put_163 ?_
  refine lv_ladd hx hb d_M_put_164 ?_
  refine lv_l2i hx hb d_M_put_165 rfl ?_
  refine lv_iadd hx hb d_M_put_166 ?_
  exact k_M_put_167 X hA zz N sM v1 (s0 + ((((2 : Int64) * ((zM_draft sM) (3 : Int32).toNatClampNeg)) + ((zM_draft sM) (2 : Int32).toNatClampNeg)).toInt32)) _ hG adM adM_tape adM_frameAt adM_field adM_draft adM_given adM_low adM_high adM_packet adM_known _ _ hP hD hS _ (lv_sub hl [0, 1] rfl)
set_option maxRecDepth 100000 in
set_option maxHeartbeats 4000000 in
theorem k_M_put_93_b {p : Program} {l : Launch} {e : Env} {R : Room} {s : State} {m : MethodId} {args : Array Value} {below : List Frame} {meth : Method} {c : Code} {dC : Nat → ClassId} {dI : Nat → Nat → Nat} {cB cI cL : ClassId} {A : Nat → Prop} (kr : zM → Int64 → Option (Int32 × zM)) (hrec : ∀ (sM : zM) (v3 : Int64) (a : Int32 × zM), kr sM v3 = some a → ∀ (adM adM_tape adM_frameAt adM_field adM_draft adM_given adM_low adM_high adM_packet adM_known : Nat) (H : Heap) (locs : List Loc), va_P (dC, dI) zcl (zwM adM adM_tape adM_frameAt adM_field adM_draft adM_given adM_low adM_high adM_packet adM_known cB cI cL sM) H → va_D A (zwM adM adM_tape adM_frameAt adM_field adM_draft adM_given adM_low adM_high adM_packet adM_known cB cI cL sM) → va_S A s.heap H locs → ∀ ls : Array Slot, lv_has ls 5 [(0, .ref adM), (3, .long v3)] → W p l e R s m args below meth c H locs 0 0 (MQ below (q_M_put dC dI cB cI cL A adM adM_tape adM_frameAt adM_field adM_draft adM_given adM_low adM_high adM_packet adM_known a) args s 0 0 A) (F0 m 93 ls [])) (X : zx p s m args meth c R R_M b_M_put (some .int) 5 3 75) (hA : ∀ q, s.heap.size ≤ q → A q) (zz : zk dC dI cB cI cL A s)  (N : Nat) (sM : zM) (v3 : Int64) (a : Int32 × zM) (hG : g_M_put_93_b N kr sM v3 = some a) (adM adM_tape adM_frameAt adM_field adM_draft adM_given adM_low adM_high adM_packet adM_known : Nat) (H : Heap) (locs : List Loc) (hP : va_P (dC, dI) zcl (zwM adM adM_tape adM_frameAt adM_field adM_draft adM_given adM_low adM_high adM_packet adM_known cB cI cL sM) H) (hD : va_D A (zwM adM adM_tape adM_frameAt adM_field adM_draft adM_given adM_low adM_high adM_packet adM_known cB cI cL sM)) (hS : va_S A s.heap H locs) (ls : Array Slot) (hl : lv_has ls 5 [(0, .ref adM), (3, .long v3)]) : W p l e R s m args below meth c H locs 0 0 (MQ below (q_M_put dC dI cB cI cL A adM adM_tape adM_frameAt adM_field adM_draft adM_given adM_low adM_high adM_packet adM_known a) args s 0 0 A) (F0 m 93 ls []) := by
  obtain ⟨hx, hb, hr, hml, hown, hts, hlocks, hRf, hRl⟩ := id X
  unfold g_M_put_93_b at hG
  refine lv_lload_n hx hb d_M_put_93 rfl (lv_at hl 1 rfl) ?_
  refine lv_aload_n hx hb d_M_put_94 rfl (lv_at hl 0 rfl) ?_
  refine va_get (D := (dC, dI)) (ci := 8) (v := .ref adM_draft) (C := R_M) (T := F_M) (N := 26) hx hb hts zi_M hown zz.1 hP 0 rfl rfl 17 (by decide) (hts (.fieldLink R_M 26 "WireCodecModel" "draft" "[J") zin_M_26) (fun _ h9 => h9) rfl d_M_put_95 ?_
  refine lv_iconst (v := (0 : Int32)) hx hb d_M_put_98 (by decide) ?_
  obtain ⟨hin, hG⟩ := zgd hG
  refine va_lald hx hb zz.1 hP 4 2 rfl rfl hin d_M_put_99 ?_
  refine W.lcmp hx hb d_M_put_100 ?_
  refine lv_if_ge (tgt := 117) hx hb d_M_put_101 (by decide) (fun hc => ?_) (fun hc => ?_)
  · have hG := zt hG hc
    refine lv_aload_n hx hb d_M_put_117 rfl (lv_at hl 0 rfl) ?_
    refine va_get (D := (dC, dI)) (ci := 8) (v := .int (zM_size sM)) (C := R_M) (T := F_M) (N := 26) hx hb hts zi_M hown zz.1 hP 0 rfl rfl 2 (by decide) (hts (.fieldLink R_M 57 "WireCodecModel" "size" "I") zin_M_57) (fun _ h9 => h9) rfl d_M_put_118 ?_
    exact W.iret (v := zM_size sM) hx hb hr (fun t9 ht9 hW9 => ⟨⟨zM_size sM, (sM), rfl, Option.some.inj hG, by rw [ht9]; exact hP, hD⟩, hS.F ht9⟩) hS.2.2 d_M_put_121
  · have hG := zf hG hc
    refine lv_aload_n hx hb d_M_put_104 rfl (lv_at hl 0 rfl) ?_
    refine lv_lconst (v := (0 : Int64)) hx hb d_M_put_105 (by decide) ?_
    refine lv_iconst (v := (1 : Int32)) hx hb d_M_put_106 (by decide) ?_
    obtain ⟨a_107, hx_107, hG⟩ := zb hG
    have hr_107 := zrunV (p := p) (e := e) (below := below) (meth := meth) (As := [.long (0 : Int64), .int (1 : Int32)]) (rest := []) (st0 := [.int (1 : Int32), .long (0 : Int64), .ref adM]) (cells := 0) (slots := 0) X zz hP hD hS hA [0, 1, 2, 3, 4, 5, 6, 7, 8, 9] (by decide) rfl (c_M_write l dC dI cB cI cL H.size adM adM_tape adM_frameAt adM_field adM_draft adM_given adM_low adM_high adM_packet adM_known N sM (0 : Int64) (1 : Int32) _ hx_107) zy_M_write zv_M_write (hts (.methodLink R_M 66 y_M_write) zin_M_66) hl rfl rfl d_M_put_107 (lv_room (Nat.le_of_ble_eq_true rfl)) rfl rfl ⟨Nat.le_trans (Nat.le_of_ble_eq_true rfl) hRf, Nat.le_trans (Nat.le_of_ble_eq_true rfl) hRl⟩ ⟨Nat.zero_le _, Nat.zero_le _⟩ 0 8 rfl rfl
    refine zcallv (wr := ([] : va_W)) hr_107 hP hD hS hA [0, 1, 2, 3, 4, 5, 6, 7, 8, 9] [] rfl rfl (by decide) (by decide) (fun u_107 H locs hw_107 hP hD hS => ?_)
    obtain ⟨sM_107, rfl⟩ : ∃ z, z = u_107 := ⟨_, rfl⟩
    subst hw_107
    have hP : va_P (dC, dI) zcl (zwM adM adM_tape adM_frameAt adM_field adM_draft adM_given adM_low adM_high adM_packet adM_known cB cI cL sM_107) H := hP
    have hD : va_D A (zwM adM adM_tape adM_frameAt adM_field adM_draft adM_given adM_low adM_high adM_packet adM_known cB cI cL sM_107) := hD
    have hG : g_M_put_c107 kr v3 sM_107 = some a := hG
    unfold g_M_put_c107 at hG
    refine lv_lload_n hx hb d_M_put_110 rfl (lv_at hl 1 rfl) ?_
    refine lv_lconst (v := (1 : Int64)) hx hb d_M_put_111 (by decide) ?_
    refine lv_ladd hx hb d_M_put_112 ?_
    refine lv_lstore_n (lv' := [(3, .long (v3 + (1 : Int64))), (0, .ref adM)]) hx hb d_M_put_113 rfl hl (by decide) rfl (fun ls hl => ?_)
    refine lv_goto (tgt := 93) hx hb d_M_put_114 (by decide) ?_
    exact hrec sM_107 (v3 + (1 : Int64)) _ hG adM adM_tape adM_frameAt adM_field adM_draft adM_given adM_low adM_high adM_packet adM_known _ _ hP hD hS _ (lv_sub hl [1, 0] rfl)
theorem k_M_put_93 {p : Program} {l : Launch} {e : Env} {R : Room} {s : State} {m : MethodId} {args : Array Value} {below : List Frame} {meth : Method} {c : Code} {dC : Nat → ClassId} {dI : Nat → Nat → Nat} {cB cI cL : ClassId} {A : Nat → Prop} (X : zx p s m args meth c R R_M b_M_put (some .int) 5 3 75) (hA : ∀ q, s.heap.size ≤ q → A q) (zz : zk dC dI cB cI cL A s)  (N : Nat) : ∀ (k : Nat) (sM : zM) (v3 : Int64) (a : Int32 × zM) (hG : g_M_put_93 N k sM v3 = some a) (adM adM_tape adM_frameAt adM_field adM_draft adM_given adM_low adM_high adM_packet adM_known : Nat) (H : Heap) (locs : List Loc) (hP : va_P (dC, dI) zcl (zwM adM adM_tape adM_frameAt adM_field adM_draft adM_given adM_low adM_high adM_packet adM_known cB cI cL sM) H) (hD : va_D A (zwM adM adM_tape adM_frameAt adM_field adM_draft adM_given adM_low adM_high adM_packet adM_known cB cI cL sM)) (hS : va_S A s.heap H locs) (ls : Array Slot) (hl : lv_has ls 5 [(0, .ref adM), (3, .long v3)]), W p l e R s m args below meth c H locs 0 0 (MQ below (q_M_put dC dI cB cI cL A adM adM_tape adM_frameAt adM_field adM_draft adM_given adM_low adM_high adM_packet adM_known a) args s 0 0 A) (F0 m 93 ls []) := by
  intro k
  induction k with
  | zero => intro sM v3 a hG; exact absurd hG (by unfold g_M_put_93; simp)
  | succ k ih => intro sM v3 a hG adM adM_tape adM_frameAt adM_field adM_draft adM_given adM_low adM_high adM_packet adM_known H locs hP hD hS ls hl; exact k_M_put_93_b _ ih X hA zz N sM v3 a hG adM adM_tape adM_frameAt adM_field adM_draft adM_given adM_low adM_high adM_packet adM_known H locs hP hD hS ls hl
set_option maxRecDepth 100000 in
set_option maxHeartbeats 4000000 in
theorem k_M_put_78 {p : Program} {l : Launch} {e : Env} {R : Room} {s : State} {m : MethodId} {args : Array Value} {below : List Frame} {meth : Method} {c : Code} {dC : Nat → ClassId} {dI : Nat → Nat → Nat} {cB cI cL : ClassId} {A : Nat → Prop} (X : zx p s m args meth c R R_M b_M_put (some .int) 5 3 75) (hA : ∀ q, s.heap.size ≤ q → A q) (zz : zk dC dI cB cI cL A s)  (N : Nat) (sM : zM) (v1 : Int32) (s0 : Int32) (a : Int32 × zM) (hG : g_M_put_78 N sM v1 s0 = some a) (adM adM_tape adM_frameAt adM_field adM_draft adM_given adM_low adM_high adM_packet adM_known : Nat) (H : Heap) (locs : List Loc) (hP : va_P (dC, dI) zcl (zwM adM adM_tape adM_frameAt adM_field adM_draft adM_given adM_low adM_high adM_packet adM_known cB cI cL sM) H) (hD : va_D A (zwM adM adM_tape adM_frameAt adM_field adM_draft adM_given adM_low adM_high adM_packet adM_known cB cI cL sM)) (hS : va_S A s.heap H locs) (ls : Array Slot) (hl : lv_has ls 5 [(0, .ref adM), (1, .int v1)]) : W p l e R s m args below meth c H locs 0 0 (MQ below (q_M_put dC dI cB cI cL A adM adM_tape adM_frameAt adM_field adM_draft adM_given adM_low adM_high adM_packet adM_known a) args s 0 0 A) (F0 m 78 ls [.int s0, .ref adM]) := by
  obtain ⟨hx, hb, hr, hml, hown, hts, hlocks, hRf, hRl⟩ := id X
  unfold g_M_put_78 at hG
  refine lv_iconst (v := (2 : Int32)) hx hb d_M_put_78 (by decide) ?_
  obtain ⟨a_79, hx_79, hG⟩ := zb hG
  have hr_79 := zrunV (p := p) (e := e) (below := below) (meth := meth) (As := [.int s0, .int (2 : Int32)]) (rest := []) (st0 := [.int (2 : Int32), .int s0, .ref adM]) (cells := 0) (slots := 0) X zz hP hD hS hA [0, 1, 2, 3, 4, 5, 6, 7, 8, 9] (by decide) rfl (c_M_fails l dC dI cB cI cL H.size adM adM_tape adM_frameAt adM_field adM_draft adM_given adM_low adM_high adM_packet adM_known sM s0 (2 : Int32) _ hx_79) zy_M_fails zv_M_fails (hts (.methodLink R_M 62 y_M_fails) zin_M_62) hl rfl rfl d_M_put_79 (lv_room (Nat.le_of_ble_eq_true rfl)) rfl rfl ⟨Nat.le_trans (Nat.le_of_ble_eq_true rfl) hRf, Nat.le_trans (Nat.le_of_ble_eq_true rfl) hRl⟩ ⟨Nat.zero_le _, Nat.zero_le _⟩ 0 8 rfl rfl
  refine zcalli (wr := ([] : va_W)) hr_79 hP hD hS hA [0, 1, 2, 3, 4, 5, 6, 7, 8, 9] [] rfl rfl (by decide) (by decide) (fun r_79 u_79 H locs hw_79 hP hD hS => ?_)
  obtain ⟨sM_79, rfl⟩ : ∃ z, z = u_79 := ⟨_, rfl⟩
  subst hw_79
  have hP : va_P (dC, dI) zcl (zwM adM adM_tape adM_frameAt adM_field adM_draft adM_given adM_low adM_high adM_packet adM_known cB cI cL sM_79) H := hP
  have hD : va_D A (zwM adM adM_tape adM_frameAt adM_field adM_draft adM_given adM_low adM_high adM_packet adM_known cB cI cL sM_79) := hD
  have hG : g_M_put_c79 N v1 sM_79 r_79 = some a := hG
  unfold g_M_put_c79 at hG
  refine lv_if_eq (tgt := 87) hx hb d_M_put_82 (by decide) (fun hc => ?_) (fun hc => ?_)
  · have hG := zt hG hc
    refine lv_iload_n hx hb d_M_put_87 rfl (lv_at hl 1 rfl) ?_
    refine lv_if_ne (tgt := 122) hx hb d_M_put_88 (by decide) (fun hc => ?_) (fun hc => ?_)
    · have hG := zf hG hc
      refine lv_iload_n hx hb d_M_put_122 rfl (lv_at hl 1 rfl) ?_
      refine lv_bipush (v := (8 : Int32)) hx hb d_M_put_123 (by decide) ?_
      refine lv_icmp_eq (tgt := 132) hx hb d_M_put_125 (by decide) (fun hc => ?_) (fun hc => ?_)
      · have hG := zt hG hc
        refine lv_aload_n hx hb d_M_put_132 rfl (lv_at hl 0 rfl) ?_
        refine va_get (D := (dC, dI)) (ci := 8) (v := .ref adM_draft) (C := R_M) (T := F_M) (N := 26) hx hb hts zi_M hown zz.1 hP 0 rfl rfl 17 (by decide) (hts (.fieldLink R_M 26 "WireCodecModel" "draft" "[J") zin_M_26) (fun _ h9 => h9) rfl d_M_put_133 ?_
        refine lv_iconst (v := (1 : Int32)) hx hb d_M_put_136 (by decide) ?_
        obtain ⟨hin, hG⟩ := zgd hG
        refine va_lald hx hb zz.1 hP 4 2 rfl rfl hin d_M_put_137 ?_
        refine lv_lconst (v := (0 : Int64)) hx hb d_M_put_138 (by decide) ?_
        refine W.lcmp hx hb d_M_put_139 ?_
        refine lv_if_ne (tgt := 147) hx hb d_M_put_140 (by decide) (fun hc => ?_) (fun hc => ?_)
        · have hG := zf hG hc
          refine lv_iconst (v := (4 : Int32)) hx hb d_M_put_147 (by decide) ?_
          exact k_M_put_148 X hA zz N sM_79 v1 (4 : Int32) _ hG adM adM_tape adM_frameAt adM_field adM_draft adM_given adM_low adM_high adM_packet adM_known _ _ hP hD hS _ (lv_sub hl [0, 1] rfl)
        · have hG := zt hG hc
          refine lv_iconst (v := (0 : Int32)) hx hb d_M_put_143 (by decide) ?_
          refine lv_goto (tgt := 148) hx hb d_M_put_144 (by decide) ?_
          exact k_M_put_148 X hA zz N sM_79 v1 (0 : Int32) _ hG adM adM_tape adM_frameAt adM_field adM_draft adM_given adM_low adM_high adM_packet adM_known _ _ hP hD hS _ (lv_sub hl [0, 1] rfl)
      · have hG := zf hG hc
        refine lv_iconst (v := (0 : Int32)) hx hb d_M_put_128 (by decide) ?_
        refine lv_goto (tgt := 167) hx hb d_M_put_129 (by decide) ?_
        exact k_M_put_167 X hA zz N sM_79 v1 (0 : Int32) _ hG adM adM_tape adM_frameAt adM_field adM_draft adM_given adM_low adM_high adM_packet adM_known _ _ hP hD hS _ (lv_sub hl [0, 1] rfl)
    · have hG := zt hG hc
      refine lv_lconst (v := (0 : Int64)) hx hb d_M_put_91 (by decide) ?_
      refine lv_lstore_n (lv' := [(3, .long (0 : Int64)), (0, .ref adM), (1, .int v1)]) hx hb d_M_put_92 rfl hl (by decide) rfl (fun ls hl => ?_)
      exact k_M_put_93 X hA zz N N sM_79 (0 : Int64) _ hG adM adM_tape adM_frameAt adM_field adM_draft adM_given adM_low adM_high adM_packet adM_known _ _ hP hD hS _ (lv_sub hl [1, 0] rfl)
  · have hG := zf hG hc
    exact k_M_put_85 X hA zz N sM_79 _ hG adM adM_tape adM_frameAt adM_field adM_draft adM_given adM_low adM_high adM_packet adM_known _ _ hP hD hS _ (lv_sub hl [] rfl)
set_option maxRecDepth 100000 in
set_option maxHeartbeats 4000000 in
theorem k_M_put_50 {p : Program} {l : Launch} {e : Env} {R : Room} {s : State} {m : MethodId} {args : Array Value} {below : List Frame} {meth : Method} {c : Code} {dC : Nat → ClassId} {dI : Nat → Nat → Nat} {cB cI cL : ClassId} {A : Nat → Prop} (X : zx p s m args meth c R R_M b_M_put (some .int) 5 3 75) (hA : ∀ q, s.heap.size ≤ q → A q) (zz : zk dC dI cB cI cL A s)  (N : Nat) (sM : zM) (v1 : Int32) (s0 : Int32) (a : Int32 × zM) (hG : g_M_put_50 N sM v1 s0 = some a) (adM adM_tape adM_frameAt adM_field adM_draft adM_given adM_low adM_high adM_packet adM_known : Nat) (H : Heap) (locs : List Loc) (hP : va_P (dC, dI) zcl (zwM adM adM_tape adM_frameAt adM_field adM_draft adM_given adM_low adM_high adM_packet adM_known cB cI cL sM) H) (hD : va_D A (zwM adM adM_tape adM_frameAt adM_field adM_draft adM_given adM_low adM_high adM_packet adM_known cB cI cL sM)) (hS : va_S A s.heap H locs) (ls : Array Slot) (hl : lv_has ls 5 [(0, .ref adM), (1, .int v1)]) : W p l e R s m args below meth c H locs 0 0 (MQ below (q_M_put dC dI cB cI cL A adM adM_tape adM_frameAt adM_field adM_draft adM_given adM_low adM_high adM_packet adM_known a) args s 0 0 A) (F0 m 50 ls [.int s0, .ref adM]) := by
  obtain ⟨hx, hb, hr, hml, hown, hts, hlocks, hRf, hRl⟩ := id X
  unfold g_M_put_50 at hG
  refine lv_iconst (v := (1 : Int32)) hx hb d_M_put_50 (by decide) ?_
  obtain ⟨a_51, hx_51, hG⟩ := zb hG
  have hr_51 := zrunV (p := p) (e := e) (below := below) (meth := meth) (As := [.int s0, .int (1 : Int32)]) (rest := []) (st0 := [.int (1 : Int32), .int s0, .ref adM]) (cells := 0) (slots := 0) X zz hP hD hS hA [0, 1, 2, 3, 4, 5, 6, 7, 8, 9] (by decide) rfl (c_M_fails l dC dI cB cI cL H.size adM adM_tape adM_frameAt adM_field adM_draft adM_given adM_low adM_high adM_packet adM_known sM s0 (1 : Int32) _ hx_51) zy_M_fails zv_M_fails (hts (.methodLink R_M 62 y_M_fails) zin_M_62) hl rfl rfl d_M_put_51 (lv_room (Nat.le_of_ble_eq_true rfl)) rfl rfl ⟨Nat.le_trans (Nat.le_of_ble_eq_true rfl) hRf, Nat.le_trans (Nat.le_of_ble_eq_true rfl) hRl⟩ ⟨Nat.zero_le _, Nat.zero_le _⟩ 0 8 rfl rfl
  refine zcalli (wr := ([] : va_W)) hr_51 hP hD hS hA [0, 1, 2, 3, 4, 5, 6, 7, 8, 9] [] rfl rfl (by decide) (by decide) (fun r_51 u_51 H locs hw_51 hP hD hS => ?_)
  obtain ⟨sM_51, rfl⟩ : ∃ z, z = u_51 := ⟨_, rfl⟩
  subst hw_51
  have hP : va_P (dC, dI) zcl (zwM adM adM_tape adM_frameAt adM_field adM_draft adM_given adM_low adM_high adM_packet adM_known cB cI cL sM_51) H := hP
  have hD : va_D A (zwM adM adM_tape adM_frameAt adM_field adM_draft adM_given adM_low adM_high adM_packet adM_known cB cI cL sM_51) := hD
  have hG : g_M_put_c51 N v1 sM_51 r_51 = some a := hG
  unfold g_M_put_c51 at hG
  refine lv_if_ne (tgt := 85) hx hb d_M_put_54 (by decide) (fun hc => ?_) (fun hc => ?_)
  · have hG := zf hG hc
    exact k_M_put_85 X hA zz N sM_51 _ hG adM adM_tape adM_frameAt adM_field adM_draft adM_given adM_low adM_high adM_packet adM_known _ _ hP hD hS _ (lv_sub hl [] rfl)
  · have hG := zt hG hc
    refine lv_aload_n hx hb d_M_put_57 rfl (lv_at hl 0 rfl) ?_
    refine lv_aload_n hx hb d_M_put_58 rfl (lv_at hl 0 rfl) ?_
    refine va_get (D := (dC, dI)) (ci := 8) (v := .int (zM_size sM_51)) (C := R_M) (T := F_M) (N := 26) hx hb hts zi_M hown zz.1 hP 0 rfl rfl 2 (by decide) (hts (.fieldLink R_M 57 "WireCodecModel" "size" "I") zin_M_57) (fun _ h9 => h9) rfl d_M_put_59 ?_
    refine lv_aload_n hx hb d_M_put_62 rfl (lv_at hl 0 rfl) ?_
    refine lv_iload_n hx hb d_M_put_63 rfl (lv_at hl 1 rfl) ?_
    obtain ⟨a_64, hx_64, hG⟩ := zb hG
    have hr_64 := zrunV (p := p) (e := e) (below := below) (meth := meth) (As := [.int v1]) (rest := [.int (zM_size sM_51), .ref adM]) (st0 := [.int v1, .ref adM, .int (zM_size sM_51), .ref adM]) (cells := 0) (slots := 0) X zz hP hD hS hA [0, 1, 2, 3, 4, 5, 6, 7, 8, 9] (by decide) rfl (c_M_sizeOf l dC dI cB cI cL H.size adM adM_tape adM_frameAt adM_field adM_draft adM_given adM_low adM_high adM_packet adM_known N sM_51 v1 _ hx_64) zy_M_sizeOf zv_M_sizeOf (hts (.methodLink R_M 233 y_M_sizeOf) zin_M_233) hl rfl rfl d_M_put_64 (lv_room (Nat.le_of_ble_eq_true rfl)) rfl rfl ⟨Nat.le_trans (Nat.le_of_ble_eq_true rfl) hRf, Nat.le_trans (Nat.le_of_ble_eq_true rfl) hRl⟩ ⟨Nat.zero_le _, Nat.zero_le _⟩ 0 8 rfl rfl
    refine zcalli (wr := ([] : va_W)) hr_64 hP hD hS hA [0, 1, 2, 3, 4, 5, 6, 7, 8, 9] [] rfl rfl (by decide) (by decide) (fun r_64 u_64 H locs hw_64 hP hD hS => ?_)
    subst hw_64
    have hP : va_P (dC, dI) zcl (zwM adM adM_tape adM_frameAt adM_field adM_draft adM_given adM_low adM_high adM_packet adM_known cB cI cL sM_51) H := hP
    have hD : va_D A (zwM adM adM_tape adM_frameAt adM_field adM_draft adM_given adM_low adM_high adM_packet adM_known cB cI cL sM_51) := hD
    have hG : g_M_put_c64 N v1 sM_51 r_64 = some a := hG
    unfold g_M_put_c64 at hG
    refine lv_iadd hx hb d_M_put_67 ?_
    refine lv_ldc (v := (65536 : Int32)) hx hb hown (hts (.constant R_M 7 (65536 : Int32)) zin_M_7) d_M_put_68 ?_
    refine lv_icmp_le (tgt := 77) hx hb d_M_put_70 (by decide) (fun hc => ?_) (fun hc => ?_)
    · have hG := zt hG hc
      refine lv_iconst (v := (0 : Int32)) hx hb d_M_put_77 (by decide) ?_
      exact k_M_put_78 X hA zz N sM_51 v1 (0 : Int32) _ hG adM adM_tape adM_frameAt adM_field adM_draft adM_given adM_low adM_high adM_packet adM_known _ _ hP hD hS _ (lv_sub hl [0, 1] rfl)
    · have hG := zf hG hc
      refine lv_iconst (v := (1 : Int32)) hx hb d_M_put_73 (by decide) ?_
      refine lv_goto (tgt := 78) hx hb d_M_put_74 (by decide) ?_
      exact k_M_put_78 X hA zz N sM_51 v1 (1 : Int32) _ hG adM adM_tape adM_frameAt adM_field adM_draft adM_given adM_low adM_high adM_packet adM_known _ _ hP hD hS _ (lv_sub hl [0, 1] rfl)
set_option maxRecDepth 100000 in
set_option maxHeartbeats 4000000 in
theorem k_M_put_45 {p : Program} {l : Launch} {e : Env} {R : Room} {s : State} {m : MethodId} {args : Array Value} {below : List Frame} {meth : Method} {c : Code} {dC : Nat → ClassId} {dI : Nat → Nat → Nat} {cB cI cL : ClassId} {A : Nat → Prop} (X : zx p s m args meth c R R_M b_M_put (some .int) 5 3 75) (hA : ∀ q, s.heap.size ≤ q → A q) (zz : zk dC dI cB cI cL A s)  (N : Nat) (sM : zM) (v1 : Int32) (a : Int32 × zM) (hG : g_M_put_45 N sM v1 = some a) (adM adM_tape adM_frameAt adM_field adM_draft adM_given adM_low adM_high adM_packet adM_known : Nat) (H : Heap) (locs : List Loc) (hP : va_P (dC, dI) zcl (zwM adM adM_tape adM_frameAt adM_field adM_draft adM_given adM_low adM_high adM_packet adM_known cB cI cL sM) H) (hD : va_D A (zwM adM adM_tape adM_frameAt adM_field adM_draft adM_given adM_low adM_high adM_packet adM_known cB cI cL sM)) (hS : va_S A s.heap H locs) (ls : Array Slot) (hl : lv_has ls 5 [(0, .ref adM), (1, .int v1)]) : W p l e R s m args below meth c H locs 0 0 (MQ below (q_M_put dC dI cB cI cL A adM adM_tape adM_frameAt adM_field adM_draft adM_given adM_low adM_high adM_packet adM_known a) args s 0 0 A) (F0 m 45 ls [.ref adM]) := by
  obtain ⟨hx, hb, hr, hml, hown, hts, hlocks, hRf, hRl⟩ := id X
  unfold g_M_put_45 at hG
  refine lv_iconst (v := (1 : Int32)) hx hb d_M_put_45 (by decide) ?_
  refine lv_goto (tgt := 50) hx hb d_M_put_46 (by decide) ?_
  exact k_M_put_50 X hA zz N sM v1 (1 : Int32) _ hG adM adM_tape adM_frameAt adM_field adM_draft adM_given adM_low adM_high adM_packet adM_known _ _ hP hD hS _ (lv_sub hl [0, 1] rfl)
set_option maxRecDepth 100000 in
set_option maxHeartbeats 4000000 in
theorem k_M_put_31 {p : Program} {l : Launch} {e : Env} {R : Room} {s : State} {m : MethodId} {args : Array Value} {below : List Frame} {meth : Method} {c : Code} {dC : Nat → ClassId} {dI : Nat → Nat → Nat} {cB cI cL : ClassId} {A : Nat → Prop} (X : zx p s m args meth c R R_M b_M_put (some .int) 5 3 75) (hA : ∀ q, s.heap.size ≤ q → A q) (zz : zk dC dI cB cI cL A s)  (N : Nat) (sM : zM) (v1 : Int32) (s0 : Int32) (a : Int32 × zM) (hG : g_M_put_31 N sM v1 s0 = some a) (adM adM_tape adM_frameAt adM_field adM_draft adM_given adM_low adM_high adM_packet adM_known : Nat) (H : Heap) (locs : List Loc) (hP : va_P (dC, dI) zcl (zwM adM adM_tape adM_frameAt adM_field adM_draft adM_given adM_low adM_high adM_packet adM_known cB cI cL sM) H) (hD : va_D A (zwM adM adM_tape adM_frameAt adM_field adM_draft adM_given adM_low adM_high adM_packet adM_known cB cI cL sM)) (hS : va_S A s.heap H locs) (ls : Array Slot) (hl : lv_has ls 5 [(0, .ref adM), (1, .int v1)]) : W p l e R s m args below meth c H locs 0 0 (MQ below (q_M_put dC dI cB cI cL A adM adM_tape adM_frameAt adM_field adM_draft adM_given adM_low adM_high adM_packet adM_known a) args s 0 0 A) (F0 m 31 ls [.int s0]) := by
  obtain ⟨hx, hb, hr, hml, hown, hts, hlocks, hRf, hRl⟩ := id X
  unfold g_M_put_31 at hG
  refine lv_istore_n (lv' := [(2, .int s0), (0, .ref adM), (1, .int v1)]) hx hb d_M_put_31 rfl hl (by decide) rfl (fun ls hl => ?_)
  refine lv_aload_n hx hb d_M_put_32 rfl (lv_at hl 1 rfl) ?_
  refine lv_iload_n hx hb d_M_put_33 rfl (lv_at hl 0 rfl) ?_
  refine lv_if_eq (tgt := 45) hx hb d_M_put_34 (by decide) (fun hc => ?_) (fun hc => ?_)
  · have hG := zt hG hc
    exact k_M_put_45 X hA zz N sM v1 _ hG adM adM_tape adM_frameAt adM_field adM_draft adM_given adM_low adM_high adM_packet adM_known _ _ hP hD hS _ (lv_sub hl [1, 2] rfl)
  · have hG := zf hG hc
    refine lv_aload_n hx hb d_M_put_37 rfl (lv_at hl 1 rfl) ?_
    refine lv_iload_n hx hb d_M_put_38 rfl (lv_at hl 2 rfl) ?_
    obtain ⟨a_39, hx_39, hG⟩ := zb hG
    have hr_39 := zrunV (p := p) (e := e) (below := below) (meth := meth) (As := [.int v1]) (rest := [.ref adM]) (st0 := [.int v1, .ref adM, .ref adM]) (cells := 0) (slots := 0) X zz hP hD hS hA [0, 1, 2, 3, 4, 5, 6, 7, 8, 9] (by decide) rfl (c_M_suits l dC dI cB cI cL H.size adM adM_tape adM_frameAt adM_field adM_draft adM_given adM_low adM_high adM_packet adM_known N sM v1 _ hx_39) zy_M_suits zv_M_suits (hts (.methodLink R_M 230 y_M_suits) zin_M_230) hl rfl rfl d_M_put_39 (lv_room (Nat.le_of_ble_eq_true rfl)) rfl rfl ⟨Nat.le_trans (Nat.le_of_ble_eq_true rfl) hRf, Nat.le_trans (Nat.le_of_ble_eq_true rfl) hRl⟩ ⟨Nat.zero_le _, Nat.zero_le _⟩ 0 8 rfl rfl
    refine zcalli (wr := ([] : va_W)) hr_39 hP hD hS hA [0, 1, 2, 3, 4, 5, 6, 7, 8, 9] [] rfl rfl (by decide) (by decide) (fun r_39 u_39 H locs hw_39 hP hD hS => ?_)
    subst hw_39
    have hP : va_P (dC, dI) zcl (zwM adM adM_tape adM_frameAt adM_field adM_draft adM_given adM_low adM_high adM_packet adM_known cB cI cL sM) H := hP
    have hD : va_D A (zwM adM adM_tape adM_frameAt adM_field adM_draft adM_given adM_low adM_high adM_packet adM_known cB cI cL sM) := hD
    have hG : g_M_put_c39 N sM v1 r_39 = some a := hG
    unfold g_M_put_c39 at hG
    refine lv_if_ne (tgt := 49) hx hb d_M_put_42 (by decide) (fun hc => ?_) (fun hc => ?_)
    · have hG := zf hG hc
      refine lv_iconst (v := (0 : Int32)) hx hb d_M_put_49 (by decide) ?_
      exact k_M_put_50 X hA zz N sM v1 (0 : Int32) _ hG adM adM_tape adM_frameAt adM_field adM_draft adM_given adM_low adM_high adM_packet adM_known _ _ hP hD hS _ (lv_sub hl [1, 2] rfl)
    · have hG := zt hG hc
      exact k_M_put_45 X hA zz N sM v1 _ hG adM adM_tape adM_frameAt adM_field adM_draft adM_given adM_low adM_high adM_packet adM_known _ _ hP hD hS _ (lv_sub hl [1, 2] rfl)
set_option maxRecDepth 100000 in
set_option maxHeartbeats 4000000 in
theorem k_M_put_26 {p : Program} {l : Launch} {e : Env} {R : Room} {s : State} {m : MethodId} {args : Array Value} {below : List Frame} {meth : Method} {c : Code} {dC : Nat → ClassId} {dI : Nat → Nat → Nat} {cB cI cL : ClassId} {A : Nat → Prop} (X : zx p s m args meth c R R_M b_M_put (some .int) 5 3 75) (hA : ∀ q, s.heap.size ≤ q → A q) (zz : zk dC dI cB cI cL A s)  (N : Nat) (sM : zM) (v1 : Int32) (a : Int32 × zM) (hG : g_M_put_26 N sM v1 = some a) (adM adM_tape adM_frameAt adM_field adM_draft adM_given adM_low adM_high adM_packet adM_known : Nat) (H : Heap) (locs : List Loc) (hP : va_P (dC, dI) zcl (zwM adM adM_tape adM_frameAt adM_field adM_draft adM_given adM_low adM_high adM_packet adM_known cB cI cL sM) H) (hD : va_D A (zwM adM adM_tape adM_frameAt adM_field adM_draft adM_given adM_low adM_high adM_packet adM_known cB cI cL sM)) (hS : va_S A s.heap H locs) (ls : Array Slot) (hl : lv_has ls 5 [(0, .ref adM), (1, .int v1)]) : W p l e R s m args below meth c H locs 0 0 (MQ below (q_M_put dC dI cB cI cL A adM adM_tape adM_frameAt adM_field adM_draft adM_given adM_low adM_high adM_packet adM_known a) args s 0 0 A) (F0 m 26 ls []) := by
  obtain ⟨hx, hb, hr, hml, hown, hts, hlocks, hRf, hRl⟩ := id X
  unfold g_M_put_26 at hG
  refine lv_iconst (v := (1 : Int32)) hx hb d_M_put_26 (by decide) ?_
  refine lv_goto (tgt := 31) hx hb d_M_put_27 (by decide) ?_
  exact k_M_put_31 X hA zz N sM v1 (1 : Int32) _ hG adM adM_tape adM_frameAt adM_field adM_draft adM_given adM_low adM_high adM_packet adM_known _ _ hP hD hS _ (lv_sub hl [0, 1] rfl)
set_option maxRecDepth 100000 in
set_option maxHeartbeats 4000000 in
theorem k_M_put_0 {p : Program} {l : Launch} {e : Env} {R : Room} {s : State} {m : MethodId} {args : Array Value} {below : List Frame} {meth : Method} {c : Code} {dC : Nat → ClassId} {dI : Nat → Nat → Nat} {cB cI cL : ClassId} {A : Nat → Prop} (X : zx p s m args meth c R R_M b_M_put (some .int) 5 3 75) (hA : ∀ q, s.heap.size ≤ q → A q) (zz : zk dC dI cB cI cL A s)  (N : Nat) (sM : zM) (v1 : Int32) (a : Int32 × zM) (hG : g_M_put N sM v1 = some a) (adM adM_tape adM_frameAt adM_field adM_draft adM_given adM_low adM_high adM_packet adM_known : Nat) (H : Heap) (locs : List Loc) (hP : va_P (dC, dI) zcl (zwM adM adM_tape adM_frameAt adM_field adM_draft adM_given adM_low adM_high adM_packet adM_known cB cI cL sM) H) (hD : va_D A (zwM adM adM_tape adM_frameAt adM_field adM_draft adM_given adM_low adM_high adM_packet adM_known cB cI cL sM)) (hS : va_S A s.heap H locs) (ls : Array Slot) (hl : lv_has ls 5 [(0, .ref adM), (1, .int v1)]) : W p l e R s m args below meth c H locs 0 0 (MQ below (q_M_put dC dI cB cI cL A adM adM_tape adM_frameAt adM_field adM_draft adM_given adM_low adM_high adM_packet adM_known a) args s 0 0 A) (F0 m 0 ls []) := by
  obtain ⟨hx, hb, hr, hml, hown, hts, hlocks, hRf, hRl⟩ := id X
  unfold g_M_put at hG
  refine lv_iload_n hx hb d_M_put_0 rfl (lv_at hl 1 rfl) ?_
  refine lv_i2l hx hb d_M_put_1 rfl ?_
  refine lv_lconst (v := (0 : Int64)) hx hb d_M_put_2 (by decide) ?_
  refine lv_ldc2 (v := (8 : Int64)) hx hb hown (hts (.constantLong R_M 60 (8 : Int64)) zin_M_60) d_M_put_3 ?_
  obtain ⟨a_6, hx_6, hG⟩ := zb hG
  have hr_6 := zrunS (p := p) (e := e) (below := below) (meth := meth) (As := [.long v1.toInt64, .long (0 : Int64), .long (8 : Int64)]) (rest := []) (st0 := [.long (8 : Int64), .long (0 : Int64), .long v1.toInt64]) (cells := 0) (slots := 0) X zz hP hD hS hA [] (by decide) rfl (c_M_within l dC dI cB cI cL H.size v1.toInt64 (0 : Int64) (8 : Int64) _ hx_6) zy_M_within zv_M_within (hts (.methodLink R_M 53 y_M_within) zin_M_53) hl rfl rfl d_M_put_6 (lv_room (Nat.le_of_ble_eq_true rfl)) rfl rfl ⟨Nat.le_trans (Nat.le_of_ble_eq_true rfl) hRf, Nat.le_trans (Nat.le_of_ble_eq_true rfl) hRl⟩ ⟨Nat.zero_le _, Nat.zero_le _⟩
  refine zcalli (wr := (zwM adM adM_tape adM_frameAt adM_field adM_draft adM_given adM_low adM_high adM_packet adM_known cB cI cL sM)) hr_6 hP hD hS hA [] [0, 1, 2, 3, 4, 5, 6, 7, 8, 9] rfl rfl (by decide) (by decide) (fun r_6 u_6 H locs hw_6 hP hD hS => ?_)
  subst hw_6
  have hP : va_P (dC, dI) zcl (zwM adM adM_tape adM_frameAt adM_field adM_draft adM_given adM_low adM_high adM_packet adM_known cB cI cL sM) H := hP
  have hD : va_D A (zwM adM adM_tape adM_frameAt adM_field adM_draft adM_given adM_low adM_high adM_packet adM_known cB cI cL sM) := hD
  have hG : g_M_put_c6 N sM v1 r_6 = some a := hG
  unfold g_M_put_c6 at hG
  refine lv_if_ne (tgt := 26) hx hb d_M_put_9 (by decide) (fun hc => ?_) (fun hc => ?_)
  · have hG := zf hG hc
    exact k_M_put_26 X hA zz N sM v1 _ hG adM adM_tape adM_frameAt adM_field adM_draft adM_given adM_low adM_high adM_packet adM_known _ _ hP hD hS _ (lv_sub hl [0, 1] rfl)
  · have hG := zt hG hc
    refine lv_iload_n hx hb d_M_put_12 rfl (lv_at hl 1 rfl) ?_
    refine lv_i2l hx hb d_M_put_13 rfl ?_
    refine lv_ldc2 (v := (16 : Int64)) hx hb hown (hts (.constantLong R_M 160 (16 : Int64)) zin_M_160) d_M_put_14 ?_
    refine lv_ldc2 (v := (30 : Int64)) hx hb hown (hts (.constantLong R_M 228 (30 : Int64)) zin_M_228) d_M_put_17 ?_
    obtain ⟨a_20, hx_20, hG⟩ := zb hG
    have hr_20 := zrunS (p := p) (e := e) (below := below) (meth := meth) (As := [.long v1.toInt64, .long (16 : Int64), .long (30 : Int64)]) (rest := []) (st0 := [.long (30 : Int64), .long (16 : Int64), .long v1.toInt64]) (cells := 0) (slots := 0) X zz hP hD hS hA [] (by decide) rfl (c_M_within l dC dI cB cI cL H.size v1.toInt64 (16 : Int64) (30 : Int64) _ hx_20) zy_M_within zv_M_within (hts (.methodLink R_M 53 y_M_within) zin_M_53) hl rfl rfl d_M_put_20 (lv_room (Nat.le_of_ble_eq_true rfl)) rfl rfl ⟨Nat.le_trans (Nat.le_of_ble_eq_true rfl) hRf, Nat.le_trans (Nat.le_of_ble_eq_true rfl) hRl⟩ ⟨Nat.zero_le _, Nat.zero_le _⟩
    refine zcalli (wr := (zwM adM adM_tape adM_frameAt adM_field adM_draft adM_given adM_low adM_high adM_packet adM_known cB cI cL sM)) hr_20 hP hD hS hA [] [0, 1, 2, 3, 4, 5, 6, 7, 8, 9] rfl rfl (by decide) (by decide) (fun r_20 u_20 H locs hw_20 hP hD hS => ?_)
    subst hw_20
    have hP : va_P (dC, dI) zcl (zwM adM adM_tape adM_frameAt adM_field adM_draft adM_given adM_low adM_high adM_packet adM_known cB cI cL sM) H := hP
    have hD : va_D A (zwM adM adM_tape adM_frameAt adM_field adM_draft adM_given adM_low adM_high adM_packet adM_known cB cI cL sM) := hD
    have hG : g_M_put_c20 N sM v1 r_20 = some a := hG
    unfold g_M_put_c20 at hG
    refine lv_if_eq (tgt := 30) hx hb d_M_put_23 (by decide) (fun hc => ?_) (fun hc => ?_)
    · have hG := zt hG hc
      refine lv_iconst (v := (0 : Int32)) hx hb d_M_put_30 (by decide) ?_
      exact k_M_put_31 X hA zz N sM v1 (0 : Int32) _ hG adM adM_tape adM_frameAt adM_field adM_draft adM_given adM_low adM_high adM_packet adM_known _ _ hP hD hS _ (lv_sub hl [0, 1] rfl)
    · have hG := zf hG hc
      exact k_M_put_26 X hA zz N sM v1 _ hG adM adM_tape adM_frameAt adM_field adM_draft adM_given adM_low adM_high adM_packet adM_known _ _ hP hD hS _ (lv_sub hl [0, 1] rfl)
set_option maxRecDepth 100000 in
set_option maxHeartbeats 4000000 in
theorem c_M_put (l : Launch) (dC : Nat → ClassId) (dI : Nat → Nat → Nat) (cB cI cL : ClassId) (sz : Nat) (adM adM_tape adM_frameAt adM_field adM_draft adM_given adM_low adM_high adM_packet adM_known : Nat) (N : Nat) (sM : zM) (v1 : Int32) (a : Int32 × zM) (hG : g_M_put N sM v1 = some a) : Met l y_M_put (zw y_M_put b_M_put 5 (some .int)) ({ frames := 3, cells := 0, slots := 0, locals := 75 }) (va_Pc [.ref adM, .int v1] (zpre dC dI cB cI cL sz (zwM adM adM_tape adM_frameAt adM_field adM_draft adM_given adM_low adM_high adM_packet adM_known cB cI cL sM))) (q_M_put dC dI cB cI cL (va_A (zwM adM adM_tape adM_frameAt adM_field adM_draft adM_given adM_low adM_high adM_packet adM_known cB cI cL sM) sz) adM adM_tape adM_frameAt adM_field adM_draft adM_given adM_low adM_high adM_packet adM_known a) 0 0 (va_A (zwM adM adM_tape adM_frameAt adM_field adM_draft adM_given adM_low adM_high adM_packet adM_known cB cI cL sM) sz) := by
  refine Met.ofW (cc := b_M_put) (maxL := 5) (ret := (some .int)) (by decide) rfl ?_
  intro p e s m args below meth c s₁ B hml hv
  obtain ⟨rfl, hsz, hP, zz, hD0⟩ := hv
  subst hsz
  have X := zx_of (F := 3) (L := 75) B hml (Nat.le_refl _) (Nat.le_refl _)
  have hD := hD0.self (sz := s.heap.size)
  have hA : ∀ q : Nat, s.heap.size ≤ q → va_A (zwM adM adM_tape adM_frameAt adM_field adM_draft adM_given adM_low adM_high adM_packet adM_known cB cI cL sM) s.heap.size q := fun q h => Or.inr h
  have hl := lv_entry ([.ref adM, .int v1]) (n := 5) (Nat.le_of_ble_eq_true rfl)
  rw [lg_entry_eq]
  generalize (lg_sl ([.ref adM, .int v1]) ++ List.replicate (5 - (lg_sl ([.ref adM, .int v1])).length) Slot.unset).toArray = ls at hl ⊢
  exact k_M_put_0 X hA zz N sM v1 a hG adM adM_tape adM_frameAt adM_field adM_draft adM_given adM_low adM_high adM_packet adM_known _ _ hP hD va_S.rf ls hl
noncomputable def g_M_note_w14 (sM_14 : zM) : Option (zM) := some (sM_14)
noncomputable def g_M_note (sM : zM) (v1 : Int32) (v2 : Int32) : Option (zM) := zg (vp_in (((12 : Int32) * (zM_packets sM)) + v1) 49152) (g_M_note_w14 (zM_packet' sM (upd (zM_packet sM) ((((12 : Int32) * (zM_packets sM)) + v1).toNatClampNeg) v2)))
def q_M_note (dC : Nat → ClassId) (dI : Nat → Nat → Nat) (cB cI cL : ClassId) (A : Nat → Prop) (adM : Nat) (adM_tape : Nat) (adM_frameAt : Nat) (adM_field : Nat) (adM_draft : Nat) (adM_given : Nat) (adM_low : Nat) (adM_high : Nat) (adM_packet : Nat) (adM_known : Nat) (a : zM) : Array Value → State → Outcome → State → Prop := va_Qv (fun (u : zM) => (u) = a) (fun u U => va_P (dC, dI) zcl (zwM adM adM_tape adM_frameAt adM_field adM_draft adM_given adM_low adM_high adM_packet adM_known cB cI cL u) U.heap ∧ va_D A (zwM adM adM_tape adM_frameAt adM_field adM_draft adM_given adM_low adM_high adM_packet adM_known cB cI cL u)) A
set_option maxRecDepth 100000 in
set_option maxHeartbeats 4000000 in
theorem k_M_note_0 {p : Program} {l : Launch} {e : Env} {R : Room} {s : State} {m : MethodId} {args : Array Value} {below : List Frame} {meth : Method} {c : Code} {dC : Nat → ClassId} {dI : Nat → Nat → Nat} {cB cI cL : ClassId} {A : Nat → Prop} (X : zx p s m args meth c R R_M b_M_note none 3 0 0) (hA : ∀ q, s.heap.size ≤ q → A q) (zz : zk dC dI cB cI cL A s)  (sM : zM) (v1 : Int32) (v2 : Int32) (a : zM) (hG : g_M_note sM v1 v2 = some a) (adM adM_tape adM_frameAt adM_field adM_draft adM_given adM_low adM_high adM_packet adM_known : Nat) (H : Heap) (locs : List Loc) (hP : va_P (dC, dI) zcl (zwM adM adM_tape adM_frameAt adM_field adM_draft adM_given adM_low adM_high adM_packet adM_known cB cI cL sM) H) (hD : va_D A (zwM adM adM_tape adM_frameAt adM_field adM_draft adM_given adM_low adM_high adM_packet adM_known cB cI cL sM)) (hS : va_S A s.heap H locs) (ls : Array Slot) (hl : lv_has ls 3 [(0, .ref adM), (1, .int v1), (2, .int v2)]) : W p l e R s m args below meth c H locs 0 0 (MQ below (q_M_note dC dI cB cI cL A adM adM_tape adM_frameAt adM_field adM_draft adM_given adM_low adM_high adM_packet adM_known a) args s 0 0 A) (F0 m 0 ls []) := by
  obtain ⟨hx, hb, hr, hml, hown, hts, hlocks, hRf, hRl⟩ := id X
  unfold g_M_note at hG
  refine lv_aload_n hx hb d_M_note_0 rfl (lv_at hl 0 rfl) ?_
  refine va_get (D := (dC, dI)) (ci := 8) (v := .ref adM_packet) (C := R_M) (T := F_M) (N := 26) hx hb hts zi_M hown zz.1 hP 0 rfl rfl 24 (by decide) (hts (.fieldLink R_M 39 "WireCodecModel" "packet" "[I") zin_M_39) (fun _ h9 => h9) rfl d_M_note_1 ?_
  refine lv_bipush (v := (12 : Int32)) hx hb d_M_note_4 (by decide) ?_
  refine lv_aload_n hx hb d_M_note_6 rfl (lv_at hl 0 rfl) ?_
  refine va_get (D := (dC, dI)) (ci := 8) (v := .int (zM_packets sM)) (C := R_M) (T := F_M) (N := 26) hx hb hts zi_M hown zz.1 hP 0 rfl rfl 23 (by decide) (hts (.fieldLink R_M 97 "WireCodecModel" "packets" "I") zin_M_97) (fun _ h9 => h9) rfl d_M_note_7 ?_
  refine lv_imul hx hb d_M_note_10 ?_
  refine lv_iload_n hx hb d_M_note_11 rfl (lv_at hl 1 rfl) ?_
  refine lv_iadd hx hb d_M_note_12 ?_
  refine lv_iload_n hx hb d_M_note_13 rfl (lv_at hl 2 rfl) ?_
  obtain ⟨hin, hG⟩ := zgd hG
  refine va_iast hx hb zz.1 hP hD hS 8 1 rfl rfl hin d_M_note_14 (fun H locs hP hD hS => ?_)
  have hP := zp_M_packet hP
  have hD := zd_M_packet hD
  have hG : g_M_note_w14 (zM_packet' sM (upd (zM_packet sM) ((((12 : Int32) * (zM_packets sM)) + v1).toNatClampNeg) v2)) = some a := hG
  generalize zM_packet' sM (upd (zM_packet sM) ((((12 : Int32) * (zM_packets sM)) + v1).toNatClampNeg) v2) = sM_14 at hP hD hG
  unfold g_M_note_w14 at hG
  exact W.vret hx hb hr (fun t9 ht9 hW9 => ⟨⟨(sM_14), rfl, Option.some.inj hG, by rw [ht9]; exact hP, hD⟩, hS.F ht9⟩) hS.2.2 d_M_note_15
set_option maxRecDepth 100000 in
set_option maxHeartbeats 4000000 in
theorem c_M_note (l : Launch) (dC : Nat → ClassId) (dI : Nat → Nat → Nat) (cB cI cL : ClassId) (sz : Nat) (adM adM_tape adM_frameAt adM_field adM_draft adM_given adM_low adM_high adM_packet adM_known : Nat) (sM : zM) (v1 : Int32) (v2 : Int32) (a : zM) (hG : g_M_note sM v1 v2 = some a) : Met l y_M_note (zw y_M_note b_M_note 3 none) ({ frames := 0, cells := 0, slots := 0, locals := 0 }) (va_Pc [.ref adM, .int v1, .int v2] (zpre dC dI cB cI cL sz (zwM adM adM_tape adM_frameAt adM_field adM_draft adM_given adM_low adM_high adM_packet adM_known cB cI cL sM))) (q_M_note dC dI cB cI cL (va_A (zwM adM adM_tape adM_frameAt adM_field adM_draft adM_given adM_low adM_high adM_packet adM_known cB cI cL sM) sz) adM adM_tape adM_frameAt adM_field adM_draft adM_given adM_low adM_high adM_packet adM_known a) 0 0 (va_A (zwM adM adM_tape adM_frameAt adM_field adM_draft adM_given adM_low adM_high adM_packet adM_known cB cI cL sM) sz) := by
  refine Met.ofW (cc := b_M_note) (maxL := 3) (ret := none) (by decide) rfl ?_
  intro p e s m args below meth c s₁ B hml hv
  obtain ⟨rfl, hsz, hP, zz, hD0⟩ := hv
  subst hsz
  have X := zx_of (F := 0) (L := 0) B hml (Nat.le_refl _) (Nat.le_refl _)
  have hD := hD0.self (sz := s.heap.size)
  have hA : ∀ q : Nat, s.heap.size ≤ q → va_A (zwM adM adM_tape adM_frameAt adM_field adM_draft adM_given adM_low adM_high adM_packet adM_known cB cI cL sM) s.heap.size q := fun q h => Or.inr h
  have hl := lv_entry ([.ref adM, .int v1, .int v2]) (n := 3) (Nat.le_of_ble_eq_true rfl)
  rw [lg_entry_eq]
  generalize (lg_sl ([.ref adM, .int v1, .int v2]) ++ List.replicate (3 - (lg_sl ([.ref adM, .int v1, .int v2])).length) Slot.unset).toArray = ls at hl ⊢
  exact k_M_note_0 X hA zz sM v1 v2 a hG adM adM_tape adM_frameAt adM_field adM_draft adM_given adM_low adM_high adM_packet adM_known _ _ hP hD va_S.rf ls hl
noncomputable def g_M_takeConnection_55 (N : Nat) (sM : zM) (s0 : Int32) : Option (Int32 × zM) := some (s0, sM)
noncomputable def g_M_takeConnection_c40 (N : Nat) (sM_40 : zM) : Option (Int32 × zM) := if (zM_over sM_40) = (0 : Int32) then (g_M_takeConnection_55 N sM_40 (0 : Int32)) else (g_M_takeConnection_55 N sM_40 (1 : Int32))
noncomputable def g_M_takeConnection_c32 (N : Nat) (v1 : Int32) (r_2 : Int64) (sM_32 : zM) : Option (Int32 × zM) := (g_M_note sM_32 (v1 + (1 : Int32)) r_2.toInt32).bind (fun a => g_M_takeConnection_c40 N a)
noncomputable def g_M_takeConnection_c29 (N : Nat) (v1 : Int32) (r_2 : Int64) (sM_29 : zM) (r_29 : Int32) : Option (Int32 × zM) := (g_M_note sM_29 v1 r_29).bind (fun a => g_M_takeConnection_c32 N v1 r_2 a)
noncomputable def g_M_takeConnection_c2 (N : Nat) (v1 : Int32) (sM_2 : zM) (r_2 : Int64) : Option (Int32 × zM) := if (zM_over sM_2) = (0 : Int32) then (if r_2.toInt32 ≤ (20 : Int32) then ((g_M_pass sM_2 r_2.toInt32.toInt64).bind (fun a => g_M_takeConnection_c29 N v1 r_2 a.2 a.1)) else (some ((5 : Int32), sM_2))) else (some ((1 : Int32), sM_2))
noncomputable def g_M_takeConnection (N : Nat) (sM : zM) (v1 : Int32) : Option (Int32 × zM) := (g_M_take N sM (1 : Int32)).bind (fun a => g_M_takeConnection_c2 N v1 a.2 a.1)
def q_M_takeConnection (dC : Nat → ClassId) (dI : Nat → Nat → Nat) (cB cI cL : ClassId) (A : Nat → Prop) (adM : Nat) (adM_tape : Nat) (adM_frameAt : Nat) (adM_field : Nat) (adM_draft : Nat) (adM_given : Nat) (adM_low : Nat) (adM_high : Nat) (adM_packet : Nat) (adM_known : Nat) (a : Int32 × zM) : Array Value → State → Outcome → State → Prop := va_Qi (fun (r : Int32) (u : zM) => (r, u) = a) (fun u U => va_P (dC, dI) zcl (zwM adM adM_tape adM_frameAt adM_field adM_draft adM_given adM_low adM_high adM_packet adM_known cB cI cL u) U.heap ∧ va_D A (zwM adM adM_tape adM_frameAt adM_field adM_draft adM_given adM_low adM_high adM_packet adM_known cB cI cL u)) A
set_option maxRecDepth 100000 in
set_option maxHeartbeats 4000000 in
theorem k_M_takeConnection_55 {p : Program} {l : Launch} {e : Env} {R : Room} {s : State} {m : MethodId} {args : Array Value} {below : List Frame} {meth : Method} {c : Code} {dC : Nat → ClassId} {dI : Nat → Nat → Nat} {cB cI cL : ClassId} {A : Nat → Prop} (X : zx p s m args meth c R R_M b_M_takeConnection (some .int) 3 2 45) (hA : ∀ q, s.heap.size ≤ q → A q) (zz : zk dC dI cB cI cL A s)  (N : Nat) (sM : zM) (s0 : Int32) (a : Int32 × zM) (hG : g_M_takeConnection_55 N sM s0 = some a) (adM adM_tape adM_frameAt adM_field adM_draft adM_given adM_low adM_high adM_packet adM_known : Nat) (H : Heap) (locs : List Loc) (hP : va_P (dC, dI) zcl (zwM adM adM_tape adM_frameAt adM_field adM_draft adM_given adM_low adM_high adM_packet adM_known cB cI cL sM) H) (hD : va_D A (zwM adM adM_tape adM_frameAt adM_field adM_draft adM_given adM_low adM_high adM_packet adM_known cB cI cL sM)) (hS : va_S A s.heap H locs) (ls : Array Slot) (hl : lv_has ls 3 []) : W p l e R s m args below meth c H locs 0 0 (MQ below (q_M_takeConnection dC dI cB cI cL A adM adM_tape adM_frameAt adM_field adM_draft adM_given adM_low adM_high adM_packet adM_known a) args s 0 0 A) (F0 m 55 ls [.int s0]) := by
  obtain ⟨hx, hb, hr, hml, hown, hts, hlocks, hRf, hRl⟩ := id X
  unfold g_M_takeConnection_55 at hG
  exact W.iret (v := s0) hx hb hr (fun t9 ht9 hW9 => ⟨⟨s0, (sM), rfl, Option.some.inj hG, by rw [ht9]; exact hP, hD⟩, hS.F ht9⟩) hS.2.2 d_M_takeConnection_55
set_option maxRecDepth 100000 in
set_option maxHeartbeats 4000000 in
theorem k_M_takeConnection_0 {p : Program} {l : Launch} {e : Env} {R : Room} {s : State} {m : MethodId} {args : Array Value} {below : List Frame} {meth : Method} {c : Code} {dC : Nat → ClassId} {dI : Nat → Nat → Nat} {cB cI cL : ClassId} {A : Nat → Prop} (X : zx p s m args meth c R R_M b_M_takeConnection (some .int) 3 2 45) (hA : ∀ q, s.heap.size ≤ q → A q) (zz : zk dC dI cB cI cL A s)  (N : Nat) (sM : zM) (v1 : Int32) (a : Int32 × zM) (hG : g_M_takeConnection N sM v1 = some a) (adM adM_tape adM_frameAt adM_field adM_draft adM_given adM_low adM_high adM_packet adM_known : Nat) (H : Heap) (locs : List Loc) (hP : va_P (dC, dI) zcl (zwM adM adM_tape adM_frameAt adM_field adM_draft adM_given adM_low adM_high adM_packet adM_known cB cI cL sM) H) (hD : va_D A (zwM adM adM_tape adM_frameAt adM_field adM_draft adM_given adM_low adM_high adM_packet adM_known cB cI cL sM)) (hS : va_S A s.heap H locs) (ls : Array Slot) (hl : lv_has ls 3 [(0, .ref adM), (1, .int v1)]) : W p l e R s m args below meth c H locs 0 0 (MQ below (q_M_takeConnection dC dI cB cI cL A adM adM_tape adM_frameAt adM_field adM_draft adM_given adM_low adM_high adM_packet adM_known a) args s 0 0 A) (F0 m 0 ls []) := by
  obtain ⟨hx, hb, hr, hml, hown, hts, hlocks, hRf, hRl⟩ := id X
  unfold g_M_takeConnection at hG
  refine lv_aload_n hx hb d_M_takeConnection_0 rfl (lv_at hl 0 rfl) ?_
  refine lv_iconst (v := (1 : Int32)) hx hb d_M_takeConnection_1 (by decide) ?_
  obtain ⟨a_2, hx_2, hG⟩ := zb hG
  have hr_2 := zrunV (p := p) (e := e) (below := below) (meth := meth) (As := [.int (1 : Int32)]) (rest := []) (st0 := [.int (1 : Int32), .ref adM]) (cells := 0) (slots := 0) X zz hP hD hS hA [0, 1, 2, 3, 4, 5, 6, 7, 8, 9] (by decide) rfl (c_M_take l dC dI cB cI cL H.size adM adM_tape adM_frameAt adM_field adM_draft adM_given adM_low adM_high adM_packet adM_known N sM (1 : Int32) _ hx_2) zy_M_take zv_M_take (hts (.methodLink R_M 120 y_M_take) zin_M_120) hl rfl rfl d_M_takeConnection_2 (lv_room (Nat.le_of_ble_eq_true rfl)) rfl rfl ⟨Nat.le_trans (Nat.le_of_ble_eq_true rfl) hRf, Nat.le_trans (Nat.le_of_ble_eq_true rfl) hRl⟩ ⟨Nat.zero_le _, Nat.zero_le _⟩ 0 8 rfl rfl
  refine zcalll (wr := ([] : va_W)) hr_2 hP hD hS hA [0, 1, 2, 3, 4, 5, 6, 7, 8, 9] [] rfl rfl (by decide) (by decide) (fun r_2 u_2 H locs hw_2 hP hD hS => ?_)
  obtain ⟨sM_2, rfl⟩ : ∃ z, z = u_2 := ⟨_, rfl⟩
  subst hw_2
  have hP : va_P (dC, dI) zcl (zwM adM adM_tape adM_frameAt adM_field adM_draft adM_given adM_low adM_high adM_packet adM_known cB cI cL sM_2) H := hP
  have hD : va_D A (zwM adM adM_tape adM_frameAt adM_field adM_draft adM_given adM_low adM_high adM_packet adM_known cB cI cL sM_2) := hD
  have hG : g_M_takeConnection_c2 N v1 sM_2 r_2 = some a := hG
  unfold g_M_takeConnection_c2 at hG
  refine lv_l2i hx hb d_M_takeConnection_5 rfl ?_
  refine lv_istore_n (lv' := [(2, .int r_2.toInt32), (0, .ref adM), (1, .int v1)]) hx hb d_M_takeConnection_6 rfl hl (by decide) rfl (fun ls hl => ?_)
  refine lv_aload_n hx hb d_M_takeConnection_7 rfl (lv_at hl 1 rfl) ?_
  refine va_get (D := (dC, dI)) (ci := 8) (v := .int (zM_over sM_2)) (C := R_M) (T := F_M) (N := 26) hx hb hts zi_M hown zz.1 hP 0 rfl rfl 15 (by decide) (hts (.fieldLink R_M 116 "WireCodecModel" "over" "Z") zin_M_116) (fun _ h9 => h9) rfl d_M_takeConnection_8 ?_
  refine lv_if_eq (tgt := 16) hx hb d_M_takeConnection_11 (by decide) (fun hc => ?_) (fun hc => ?_)
  · have hG := zt hG hc
    refine lv_iload_n hx hb d_M_takeConnection_16 rfl (lv_at hl 0 rfl) ?_
    refine lv_bipush (v := (20 : Int32)) hx hb d_M_takeConnection_17 (by decide) ?_
    refine lv_icmp_le (tgt := 24) hx hb d_M_takeConnection_19 (by decide) (fun hc => ?_) (fun hc => ?_)
    · have hG := zt hG hc
      refine lv_aload_n hx hb d_M_takeConnection_24 rfl (lv_at hl 1 rfl) ?_
      refine lv_iload_n hx hb d_M_takeConnection_25 rfl (lv_at hl 2 rfl) ?_
      refine lv_aload_n hx hb d_M_takeConnection_26 rfl (lv_at hl 1 rfl) ?_
      refine lv_iload_n hx hb d_M_takeConnection_27 rfl (lv_at hl 0 rfl) ?_
      refine lv_i2l hx hb d_M_takeConnection_28 rfl ?_
      obtain ⟨a_29, hx_29, hG⟩ := zb hG
      have hr_29 := zrunV (p := p) (e := e) (below := below) (meth := meth) (As := [.long r_2.toInt32.toInt64]) (rest := [.int v1, .ref adM]) (st0 := [.long r_2.toInt32.toInt64, .ref adM, .int v1, .ref adM]) (cells := 0) (slots := 0) X zz hP hD hS hA [0, 1, 2, 3, 4, 5, 6, 7, 8, 9] (by decide) rfl (c_M_pass l dC dI cB cI cL H.size adM adM_tape adM_frameAt adM_field adM_draft adM_given adM_low adM_high adM_packet adM_known sM_2 r_2.toInt32.toInt64 _ hx_29) zy_M_pass zv_M_pass (hts (.methodLink R_M 141 y_M_pass) zin_M_141) hl rfl rfl d_M_takeConnection_29 (lv_room (Nat.le_of_ble_eq_true rfl)) rfl rfl ⟨Nat.le_trans (Nat.le_of_ble_eq_true rfl) hRf, Nat.le_trans (Nat.le_of_ble_eq_true rfl) hRl⟩ ⟨Nat.zero_le _, Nat.zero_le _⟩ 0 8 rfl rfl
      refine zcalli (wr := ([] : va_W)) hr_29 hP hD hS hA [0, 1, 2, 3, 4, 5, 6, 7, 8, 9] [] rfl rfl (by decide) (by decide) (fun r_29 u_29 H locs hw_29 hP hD hS => ?_)
      obtain ⟨sM_29, rfl⟩ : ∃ z, z = u_29 := ⟨_, rfl⟩
      subst hw_29
      have hP : va_P (dC, dI) zcl (zwM adM adM_tape adM_frameAt adM_field adM_draft adM_given adM_low adM_high adM_packet adM_known cB cI cL sM_29) H := hP
      have hD : va_D A (zwM adM adM_tape adM_frameAt adM_field adM_draft adM_given adM_low adM_high adM_packet adM_known cB cI cL sM_29) := hD
      have hG : g_M_takeConnection_c29 N v1 r_2 sM_29 r_29 = some a := hG
      unfold g_M_takeConnection_c29 at hG
      obtain ⟨a_32, hx_32, hG⟩ := zb hG
      have hr_32 := zrunV (p := p) (e := e) (below := below) (meth := meth) (As := [.int v1, .int r_29]) (rest := []) (st0 := [.int r_29, .int v1, .ref adM]) (cells := 0) (slots := 0) X zz hP hD hS hA [0, 1, 2, 3, 4, 5, 6, 7, 8, 9] (by decide) rfl (c_M_note l dC dI cB cI cL H.size adM adM_tape adM_frameAt adM_field adM_draft adM_given adM_low adM_high adM_packet adM_known sM_29 v1 r_29 _ hx_32) zy_M_note zv_M_note (hts (.methodLink R_M 245 y_M_note) zin_M_245) hl rfl rfl d_M_takeConnection_32 (lv_room (Nat.le_of_ble_eq_true rfl)) rfl rfl ⟨Nat.le_trans (Nat.le_of_ble_eq_true rfl) hRf, Nat.le_trans (Nat.le_of_ble_eq_true rfl) hRl⟩ ⟨Nat.zero_le _, Nat.zero_le _⟩ 0 8 rfl rfl
      refine zcallv (wr := ([] : va_W)) hr_32 hP hD hS hA [0, 1, 2, 3, 4, 5, 6, 7, 8, 9] [] rfl rfl (by decide) (by decide) (fun u_32 H locs hw_32 hP hD hS => ?_)
      obtain ⟨sM_32, rfl⟩ : ∃ z, z = u_32 := ⟨_, rfl⟩
      subst hw_32
      have hP : va_P (dC, dI) zcl (zwM adM adM_tape adM_frameAt adM_field adM_draft adM_given adM_low adM_high adM_packet adM_known cB cI cL sM_32) H := hP
      have hD : va_D A (zwM adM adM_tape adM_frameAt adM_field adM_draft adM_given adM_low adM_high adM_packet adM_known cB cI cL sM_32) := hD
      have hG : g_M_takeConnection_c32 N v1 r_2 sM_32 = some a := hG
      unfold g_M_takeConnection_c32 at hG
      refine lv_aload_n hx hb d_M_takeConnection_35 rfl (lv_at hl 1 rfl) ?_
      refine lv_iload_n hx hb d_M_takeConnection_36 rfl (lv_at hl 2 rfl) ?_
      refine lv_iconst (v := (1 : Int32)) hx hb d_M_takeConnection_37 (by decide) ?_
      refine lv_iadd hx hb d_M_takeConnection_38 ?_
      refine lv_iload_n hx hb d_M_takeConnection_39 rfl (lv_at hl 0 rfl) ?_
      obtain ⟨a_40, hx_40, hG⟩ := zb hG
      have hr_40 := zrunV (p := p) (e := e) (below := below) (meth := meth) (As := [.int (v1 + (1 : Int32)), .int r_2.toInt32]) (rest := []) (st0 := [.int r_2.toInt32, .int (v1 + (1 : Int32)), .ref adM]) (cells := 0) (slots := 0) X zz hP hD hS hA [0, 1, 2, 3, 4, 5, 6, 7, 8, 9] (by decide) rfl (c_M_note l dC dI cB cI cL H.size adM adM_tape adM_frameAt adM_field adM_draft adM_given adM_low adM_high adM_packet adM_known sM_32 (v1 + (1 : Int32)) r_2.toInt32 _ hx_40) zy_M_note zv_M_note (hts (.methodLink R_M 245 y_M_note) zin_M_245) hl rfl rfl d_M_takeConnection_40 (lv_room (Nat.le_of_ble_eq_true rfl)) rfl rfl ⟨Nat.le_trans (Nat.le_of_ble_eq_true rfl) hRf, Nat.le_trans (Nat.le_of_ble_eq_true rfl) hRl⟩ ⟨Nat.zero_le _, Nat.zero_le _⟩ 0 8 rfl rfl
      refine zcallv (wr := ([] : va_W)) hr_40 hP hD hS hA [0, 1, 2, 3, 4, 5, 6, 7, 8, 9] [] rfl rfl (by decide) (by decide) (fun u_40 H locs hw_40 hP hD hS => ?_)
      obtain ⟨sM_40, rfl⟩ : ∃ z, z = u_40 := ⟨_, rfl⟩
      subst hw_40
      have hP : va_P (dC, dI) zcl (zwM adM adM_tape adM_frameAt adM_field adM_draft adM_given adM_low adM_high adM_packet adM_known cB cI cL sM_40) H := hP
      have hD : va_D A (zwM adM adM_tape adM_frameAt adM_field adM_draft adM_given adM_low adM_high adM_packet adM_known cB cI cL sM_40) := hD
      have hG : g_M_takeConnection_c40 N sM_40 = some a := hG
      unfold g_M_takeConnection_c40 at hG
      refine lv_aload_n hx hb d_M_takeConnection_43 rfl (lv_at hl 1 rfl) ?_
      refine va_get (D := (dC, dI)) (ci := 8) (v := .int (zM_over sM_40)) (C := R_M) (T := F_M) (N := 26) hx hb hts zi_M hown zz.1 hP 0 rfl rfl 15 (by decide) (hts (.fieldLink R_M 116 "WireCodecModel" "over" "Z") zin_M_116) (fun _ h9 => h9) rfl d_M_takeConnection_44 ?_
      refine lv_if_eq (tgt := 54) hx hb d_M_takeConnection_47 (by decide) (fun hc => ?_) (fun hc => ?_)
      · have hG := zt hG hc
        refine lv_iconst (v := (0 : Int32)) hx hb d_M_takeConnection_54 (by decide) ?_
        exact k_M_takeConnection_55 X hA zz N sM_40 (0 : Int32) _ hG adM adM_tape adM_frameAt adM_field adM_draft adM_given adM_low adM_high adM_packet adM_known _ _ hP hD hS _ (lv_sub hl [] rfl)
      · have hG := zf hG hc
        refine lv_iconst (v := (1 : Int32)) hx hb d_M_takeConnection_50 (by decide) ?_
        refine lv_goto (tgt := 55) hx hb d_M_takeConnection_51 (by decide) ?_
        exact k_M_takeConnection_55 X hA zz N sM_40 (1 : Int32) _ hG adM adM_tape adM_frameAt adM_field adM_draft adM_given adM_low adM_high adM_packet adM_known _ _ hP hD hS _ (lv_sub hl [] rfl)
    · have hG := zf hG hc
      refine lv_iconst (v := (5 : Int32)) hx hb d_M_takeConnection_22 (by decide) ?_
      exact W.iret (v := (5 : Int32)) hx hb hr (fun t9 ht9 hW9 => ⟨⟨(5 : Int32), (sM_2), rfl, Option.some.inj hG, by rw [ht9]; exact hP, hD⟩, hS.F ht9⟩) hS.2.2 d_M_takeConnection_23
  · have hG := zf hG hc
    refine lv_iconst (v := (1 : Int32)) hx hb d_M_takeConnection_14 (by decide) ?_
    exact W.iret (v := (1 : Int32)) hx hb hr (fun t9 ht9 hW9 => ⟨⟨(1 : Int32), (sM_2), rfl, Option.some.inj hG, by rw [ht9]; exact hP, hD⟩, hS.F ht9⟩) hS.2.2 d_M_takeConnection_15
set_option maxRecDepth 100000 in
set_option maxHeartbeats 4000000 in
theorem c_M_takeConnection (l : Launch) (dC : Nat → ClassId) (dI : Nat → Nat → Nat) (cB cI cL : ClassId) (sz : Nat) (adM adM_tape adM_frameAt adM_field adM_draft adM_given adM_low adM_high adM_packet adM_known : Nat) (N : Nat) (sM : zM) (v1 : Int32) (a : Int32 × zM) (hG : g_M_takeConnection N sM v1 = some a) : Met l y_M_takeConnection (zw y_M_takeConnection b_M_takeConnection 3 (some .int)) ({ frames := 2, cells := 0, slots := 0, locals := 45 }) (va_Pc [.ref adM, .int v1] (zpre dC dI cB cI cL sz (zwM adM adM_tape adM_frameAt adM_field adM_draft adM_given adM_low adM_high adM_packet adM_known cB cI cL sM))) (q_M_takeConnection dC dI cB cI cL (va_A (zwM adM adM_tape adM_frameAt adM_field adM_draft adM_given adM_low adM_high adM_packet adM_known cB cI cL sM) sz) adM adM_tape adM_frameAt adM_field adM_draft adM_given adM_low adM_high adM_packet adM_known a) 0 0 (va_A (zwM adM adM_tape adM_frameAt adM_field adM_draft adM_given adM_low adM_high adM_packet adM_known cB cI cL sM) sz) := by
  refine Met.ofW (cc := b_M_takeConnection) (maxL := 3) (ret := (some .int)) (by decide) rfl ?_
  intro p e s m args below meth c s₁ B hml hv
  obtain ⟨rfl, hsz, hP, zz, hD0⟩ := hv
  subst hsz
  have X := zx_of (F := 2) (L := 45) B hml (Nat.le_refl _) (Nat.le_refl _)
  have hD := hD0.self (sz := s.heap.size)
  have hA : ∀ q : Nat, s.heap.size ≤ q → va_A (zwM adM adM_tape adM_frameAt adM_field adM_draft adM_given adM_low adM_high adM_packet adM_known cB cI cL sM) s.heap.size q := fun q h => Or.inr h
  have hl := lv_entry ([.ref adM, .int v1]) (n := 3) (Nat.le_of_ble_eq_true rfl)
  rw [lg_entry_eq]
  generalize (lg_sl ([.ref adM, .int v1]) ++ List.replicate (3 - (lg_sl ([.ref adM, .int v1])).length) Slot.unset).toArray = ls at hl ⊢
  exact k_M_takeConnection_0 X hA zz N sM v1 a hG adM adM_tape adM_frameAt adM_field adM_draft adM_given adM_low adM_high adM_packet adM_known _ _ hP hD va_S.rf ls hl
noncomputable def g_M_shortFlaw_72 (sM : zM) (s0 : Int32) : Option (Int32 × zM) := some (s0, sM)
noncomputable def g_M_shortFlaw_c57 (sM_57 : zM) : Option (Int32 × zM) := if (zM_over sM_57) = (0 : Int32) then (g_M_shortFlaw_72 sM_57 (0 : Int32)) else (g_M_shortFlaw_72 sM_57 (1 : Int32))
noncomputable def g_M_shortFlaw_c47 (sM_47 : zM) : Option (Int32 × zM) := (g_M_note sM_47 (5 : Int32) (zM_size sM_47)).bind (fun a => g_M_shortFlaw_c57 a)
noncomputable def g_M_shortFlaw_c40 (sM_40 : zM) : Option (Int32 × zM) := (g_M_pass sM_40 (20 : Int64)).bind (fun a => g_M_shortFlaw_c47 a.2)
noncomputable def g_M_shortFlaw_c31 (sM_31 : zM) : Option (Int32 × zM) := (g_M_note sM_31 (4 : Int32) (zM_at sM_31)).bind (fun a => g_M_shortFlaw_c40 a)
noncomputable def g_M_shortFlaw_c24 (v2 : Int32) (sM_24 : zM) : Option (Int32 × zM) := (g_M_note sM_24 (7 : Int32) v2).bind (fun a => g_M_shortFlaw_c31 a)
noncomputable def g_M_shortFlaw_c21 (v2 : Int32) (sM_21 : zM) (r_21 : Int32) : Option (Int32 × zM) := (g_M_note sM_21 (6 : Int32) r_21).bind (fun a => g_M_shortFlaw_c24 v2 a)
noncomputable def g_M_shortFlaw_c12 (v2 : Int32) (sM_12 : zM) : Option (Int32 × zM) := (g_M_pass sM_12 v2.toInt64).bind (fun a => g_M_shortFlaw_c21 v2 a.2 a.1)
noncomputable def g_M_shortFlaw_c3 (v1 : Int32) (v2 : Int32) (sM_3 : zM) : Option (Int32 × zM) := (g_M_note sM_3 (1 : Int32) (v1 &&& (63 : Int32))).bind (fun a => g_M_shortFlaw_c12 v2 a)
noncomputable def g_M_shortFlaw (sM : zM) (v1 : Int32) (v2 : Int32) : Option (Int32 × zM) := (g_M_note sM (0 : Int32) (4 : Int32)).bind (fun a => g_M_shortFlaw_c3 v1 v2 a)
def q_M_shortFlaw (dC : Nat → ClassId) (dI : Nat → Nat → Nat) (cB cI cL : ClassId) (A : Nat → Prop) (adM : Nat) (adM_tape : Nat) (adM_frameAt : Nat) (adM_field : Nat) (adM_draft : Nat) (adM_given : Nat) (adM_low : Nat) (adM_high : Nat) (adM_packet : Nat) (adM_known : Nat) (a : Int32 × zM) : Array Value → State → Outcome → State → Prop := va_Qi (fun (r : Int32) (u : zM) => (r, u) = a) (fun u U => va_P (dC, dI) zcl (zwM adM adM_tape adM_frameAt adM_field adM_draft adM_given adM_low adM_high adM_packet adM_known cB cI cL u) U.heap ∧ va_D A (zwM adM adM_tape adM_frameAt adM_field adM_draft adM_given adM_low adM_high adM_packet adM_known cB cI cL u)) A
set_option maxRecDepth 100000 in
set_option maxHeartbeats 4000000 in
theorem k_M_shortFlaw_72 {p : Program} {l : Launch} {e : Env} {R : Room} {s : State} {m : MethodId} {args : Array Value} {below : List Frame} {meth : Method} {c : Code} {dC : Nat → ClassId} {dI : Nat → Nat → Nat} {cB cI cL : ClassId} {A : Nat → Prop} (X : zx p s m args meth c R R_M b_M_shortFlaw (some .int) 3 1 23) (hA : ∀ q, s.heap.size ≤ q → A q) (zz : zk dC dI cB cI cL A s)  (sM : zM) (s0 : Int32) (a : Int32 × zM) (hG : g_M_shortFlaw_72 sM s0 = some a) (adM adM_tape adM_frameAt adM_field adM_draft adM_given adM_low adM_high adM_packet adM_known : Nat) (H : Heap) (locs : List Loc) (hP : va_P (dC, dI) zcl (zwM adM adM_tape adM_frameAt adM_field adM_draft adM_given adM_low adM_high adM_packet adM_known cB cI cL sM) H) (hD : va_D A (zwM adM adM_tape adM_frameAt adM_field adM_draft adM_given adM_low adM_high adM_packet adM_known cB cI cL sM)) (hS : va_S A s.heap H locs) (ls : Array Slot) (hl : lv_has ls 3 []) : W p l e R s m args below meth c H locs 0 0 (MQ below (q_M_shortFlaw dC dI cB cI cL A adM adM_tape adM_frameAt adM_field adM_draft adM_given adM_low adM_high adM_packet adM_known a) args s 0 0 A) (F0 m 72 ls [.int s0]) := by
  obtain ⟨hx, hb, hr, hml, hown, hts, hlocks, hRf, hRl⟩ := id X
  unfold g_M_shortFlaw_72 at hG
  exact W.iret (v := s0) hx hb hr (fun t9 ht9 hW9 => ⟨⟨s0, (sM), rfl, Option.some.inj hG, by rw [ht9]; exact hP, hD⟩, hS.F ht9⟩) hS.2.2 d_M_shortFlaw_72
set_option maxRecDepth 100000 in
set_option maxHeartbeats 4000000 in
theorem k_M_shortFlaw_0 {p : Program} {l : Launch} {e : Env} {R : Room} {s : State} {m : MethodId} {args : Array Value} {below : List Frame} {meth : Method} {c : Code} {dC : Nat → ClassId} {dI : Nat → Nat → Nat} {cB cI cL : ClassId} {A : Nat → Prop} (X : zx p s m args meth c R R_M b_M_shortFlaw (some .int) 3 1 23) (hA : ∀ q, s.heap.size ≤ q → A q) (zz : zk dC dI cB cI cL A s)  (sM : zM) (v1 : Int32) (v2 : Int32) (a : Int32 × zM) (hG : g_M_shortFlaw sM v1 v2 = some a) (adM adM_tape adM_frameAt adM_field adM_draft adM_given adM_low adM_high adM_packet adM_known : Nat) (H : Heap) (locs : List Loc) (hP : va_P (dC, dI) zcl (zwM adM adM_tape adM_frameAt adM_field adM_draft adM_given adM_low adM_high adM_packet adM_known cB cI cL sM) H) (hD : va_D A (zwM adM adM_tape adM_frameAt adM_field adM_draft adM_given adM_low adM_high adM_packet adM_known cB cI cL sM)) (hS : va_S A s.heap H locs) (ls : Array Slot) (hl : lv_has ls 3 [(0, .ref adM), (1, .int v1), (2, .int v2)]) : W p l e R s m args below meth c H locs 0 0 (MQ below (q_M_shortFlaw dC dI cB cI cL A adM adM_tape adM_frameAt adM_field adM_draft adM_given adM_low adM_high adM_packet adM_known a) args s 0 0 A) (F0 m 0 ls []) := by
  obtain ⟨hx, hb, hr, hml, hown, hts, hlocks, hRf, hRl⟩ := id X
  unfold g_M_shortFlaw at hG
  refine lv_aload_n hx hb d_M_shortFlaw_0 rfl (lv_at hl 0 rfl) ?_
  refine lv_iconst (v := (0 : Int32)) hx hb d_M_shortFlaw_1 (by decide) ?_
  refine lv_iconst (v := (4 : Int32)) hx hb d_M_shortFlaw_2 (by decide) ?_
  obtain ⟨a_3, hx_3, hG⟩ := zb hG
  have hr_3 := zrunV (p := p) (e := e) (below := below) (meth := meth) (As := [.int (0 : Int32), .int (4 : Int32)]) (rest := []) (st0 := [.int (4 : Int32), .int (0 : Int32), .ref adM]) (cells := 0) (slots := 0) X zz hP hD hS hA [0, 1, 2, 3, 4, 5, 6, 7, 8, 9] (by decide) rfl (c_M_note l dC dI cB cI cL H.size adM adM_tape adM_frameAt adM_field adM_draft adM_given adM_low adM_high adM_packet adM_known sM (0 : Int32) (4 : Int32) _ hx_3) zy_M_note zv_M_note (hts (.methodLink R_M 245 y_M_note) zin_M_245) hl rfl rfl d_M_shortFlaw_3 (lv_room (Nat.le_of_ble_eq_true rfl)) rfl rfl ⟨Nat.le_trans (Nat.le_of_ble_eq_true rfl) hRf, Nat.le_trans (Nat.le_of_ble_eq_true rfl) hRl⟩ ⟨Nat.zero_le _, Nat.zero_le _⟩ 0 8 rfl rfl
  refine zcallv (wr := ([] : va_W)) hr_3 hP hD hS hA [0, 1, 2, 3, 4, 5, 6, 7, 8, 9] [] rfl rfl (by decide) (by decide) (fun u_3 H locs hw_3 hP hD hS => ?_)
  obtain ⟨sM_3, rfl⟩ : ∃ z, z = u_3 := ⟨_, rfl⟩
  subst hw_3
  have hP : va_P (dC, dI) zcl (zwM adM adM_tape adM_frameAt adM_field adM_draft adM_given adM_low adM_high adM_packet adM_known cB cI cL sM_3) H := hP
  have hD : va_D A (zwM adM adM_tape adM_frameAt adM_field adM_draft adM_given adM_low adM_high adM_packet adM_known cB cI cL sM_3) := hD
  have hG : g_M_shortFlaw_c3 v1 v2 sM_3 = some a := hG
  unfold g_M_shortFlaw_c3 at hG
  refine lv_aload_n hx hb d_M_shortFlaw_6 rfl (lv_at hl 0 rfl) ?_
  refine lv_iconst (v := (1 : Int32)) hx hb d_M_shortFlaw_7 (by decide) ?_
  refine lv_iload_n hx hb d_M_shortFlaw_8 rfl (lv_at hl 1 rfl) ?_
  refine lv_bipush (v := (63 : Int32)) hx hb d_M_shortFlaw_9 (by decide) ?_
  refine lv_iand hx hb d_M_shortFlaw_11 ?_
  obtain ⟨a_12, hx_12, hG⟩ := zb hG
  have hr_12 := zrunV (p := p) (e := e) (below := below) (meth := meth) (As := [.int (1 : Int32), .int (v1 &&& (63 : Int32))]) (rest := []) (st0 := [.int (v1 &&& (63 : Int32)), .int (1 : Int32), .ref adM]) (cells := 0) (slots := 0) X zz hP hD hS hA [0, 1, 2, 3, 4, 5, 6, 7, 8, 9] (by decide) rfl (c_M_note l dC dI cB cI cL H.size adM adM_tape adM_frameAt adM_field adM_draft adM_given adM_low adM_high adM_packet adM_known sM_3 (1 : Int32) (v1 &&& (63 : Int32)) _ hx_12) zy_M_note zv_M_note (hts (.methodLink R_M 245 y_M_note) zin_M_245) hl rfl rfl d_M_shortFlaw_12 (lv_room (Nat.le_of_ble_eq_true rfl)) rfl rfl ⟨Nat.le_trans (Nat.le_of_ble_eq_true rfl) hRf, Nat.le_trans (Nat.le_of_ble_eq_true rfl) hRl⟩ ⟨Nat.zero_le _, Nat.zero_le _⟩ 0 8 rfl rfl
  refine zcallv (wr := ([] : va_W)) hr_12 hP hD hS hA [0, 1, 2, 3, 4, 5, 6, 7, 8, 9] [] rfl rfl (by decide) (by decide) (fun u_12 H locs hw_12 hP hD hS => ?_)
  obtain ⟨sM_12, rfl⟩ : ∃ z, z = u_12 := ⟨_, rfl⟩
  subst hw_12
  have hP : va_P (dC, dI) zcl (zwM adM adM_tape adM_frameAt adM_field adM_draft adM_given adM_low adM_high adM_packet adM_known cB cI cL sM_12) H := hP
  have hD : va_D A (zwM adM adM_tape adM_frameAt adM_field adM_draft adM_given adM_low adM_high adM_packet adM_known cB cI cL sM_12) := hD
  have hG : g_M_shortFlaw_c12 v2 sM_12 = some a := hG
  unfold g_M_shortFlaw_c12 at hG
  refine lv_aload_n hx hb d_M_shortFlaw_15 rfl (lv_at hl 0 rfl) ?_
  refine lv_bipush (v := (6 : Int32)) hx hb d_M_shortFlaw_16 (by decide) ?_
  refine lv_aload_n hx hb d_M_shortFlaw_18 rfl (lv_at hl 0 rfl) ?_
  refine lv_iload_n hx hb d_M_shortFlaw_19 rfl (lv_at hl 2 rfl) ?_
  refine lv_i2l hx hb d_M_shortFlaw_20 rfl ?_
  obtain ⟨a_21, hx_21, hG⟩ := zb hG
  have hr_21 := zrunV (p := p) (e := e) (below := below) (meth := meth) (As := [.long v2.toInt64]) (rest := [.int (6 : Int32), .ref adM]) (st0 := [.long v2.toInt64, .ref adM, .int (6 : Int32), .ref adM]) (cells := 0) (slots := 0) X zz hP hD hS hA [0, 1, 2, 3, 4, 5, 6, 7, 8, 9] (by decide) rfl (c_M_pass l dC dI cB cI cL H.size adM adM_tape adM_frameAt adM_field adM_draft adM_given adM_low adM_high adM_packet adM_known sM_12 v2.toInt64 _ hx_21) zy_M_pass zv_M_pass (hts (.methodLink R_M 141 y_M_pass) zin_M_141) hl rfl rfl d_M_shortFlaw_21 (lv_room (Nat.le_of_ble_eq_true rfl)) rfl rfl ⟨Nat.le_trans (Nat.le_of_ble_eq_true rfl) hRf, Nat.le_trans (Nat.le_of_ble_eq_true rfl) hRl⟩ ⟨Nat.zero_le _, Nat.zero_le _⟩ 0 8 rfl rfl
  refine zcalli (wr := ([] : va_W)) hr_21 hP hD hS hA [0, 1, 2, 3, 4, 5, 6, 7, 8, 9] [] rfl rfl (by decide) (by decide) (fun r_21 u_21 H locs hw_21 hP hD hS => ?_)
  obtain ⟨sM_21, rfl⟩ : ∃ z, z = u_21 := ⟨_, rfl⟩
  subst hw_21
  have hP : va_P (dC, dI) zcl (zwM adM adM_tape adM_frameAt adM_field adM_draft adM_given adM_low adM_high adM_packet adM_known cB cI cL sM_21) H := hP
  have hD : va_D A (zwM adM adM_tape adM_frameAt adM_field adM_draft adM_given adM_low adM_high adM_packet adM_known cB cI cL sM_21) := hD
  have hG : g_M_shortFlaw_c21 v2 sM_21 r_21 = some a := hG
  unfold g_M_shortFlaw_c21 at hG
  obtain ⟨a_24, hx_24, hG⟩ := zb hG
  have hr_24 := zrunV (p := p) (e := e) (below := below) (meth := meth) (As := [.int (6 : Int32), .int r_21]) (rest := []) (st0 := [.int r_21, .int (6 : Int32), .ref adM]) (cells := 0) (slots := 0) X zz hP hD hS hA [0, 1, 2, 3, 4, 5, 6, 7, 8, 9] (by decide) rfl (c_M_note l dC dI cB cI cL H.size adM adM_tape adM_frameAt adM_field adM_draft adM_given adM_low adM_high adM_packet adM_known sM_21 (6 : Int32) r_21 _ hx_24) zy_M_note zv_M_note (hts (.methodLink R_M 245 y_M_note) zin_M_245) hl rfl rfl d_M_shortFlaw_24 (lv_room (Nat.le_of_ble_eq_true rfl)) rfl rfl ⟨Nat.le_trans (Nat.le_of_ble_eq_true rfl) hRf, Nat.le_trans (Nat.le_of_ble_eq_true rfl) hRl⟩ ⟨Nat.zero_le _, Nat.zero_le _⟩ 0 8 rfl rfl
  refine zcallv (wr := ([] : va_W)) hr_24 hP hD hS hA [0, 1, 2, 3, 4, 5, 6, 7, 8, 9] [] rfl rfl (by decide) (by decide) (fun u_24 H locs hw_24 hP hD hS => ?_)
  obtain ⟨sM_24, rfl⟩ : ∃ z, z = u_24 := ⟨_, rfl⟩
  subst hw_24
  have hP : va_P (dC, dI) zcl (zwM adM adM_tape adM_frameAt adM_field adM_draft adM_given adM_low adM_high adM_packet adM_known cB cI cL sM_24) H := hP
  have hD : va_D A (zwM adM adM_tape adM_frameAt adM_field adM_draft adM_given adM_low adM_high adM_packet adM_known cB cI cL sM_24) := hD
  have hG : g_M_shortFlaw_c24 v2 sM_24 = some a := hG
  unfold g_M_shortFlaw_c24 at hG
  refine lv_aload_n hx hb d_M_shortFlaw_27 rfl (lv_at hl 0 rfl) ?_
  refine lv_bipush (v := (7 : Int32)) hx hb d_M_shortFlaw_28 (by decide) ?_
  refine lv_iload_n hx hb d_M_shortFlaw_30 rfl (lv_at hl 2 rfl) ?_
  obtain ⟨a_31, hx_31, hG⟩ := zb hG
  have hr_31 := zrunV (p := p) (e := e) (below := below) (meth := meth) (As := [.int (7 : Int32), .int v2]) (rest := []) (st0 := [.int v2, .int (7 : Int32), .ref adM]) (cells := 0) (slots := 0) X zz hP hD hS hA [0, 1, 2, 3, 4, 5, 6, 7, 8, 9] (by decide) rfl (c_M_note l dC dI cB cI cL H.size adM adM_tape adM_frameAt adM_field adM_draft adM_given adM_low adM_high adM_packet adM_known sM_24 (7 : Int32) v2 _ hx_31) zy_M_note zv_M_note (hts (.methodLink R_M 245 y_M_note) zin_M_245) hl rfl rfl d_M_shortFlaw_31 (lv_room (Nat.le_of_ble_eq_true rfl)) rfl rfl ⟨Nat.le_trans (Nat.le_of_ble_eq_true rfl) hRf, Nat.le_trans (Nat.le_of_ble_eq_true rfl) hRl⟩ ⟨Nat.zero_le _, Nat.zero_le _⟩ 0 8 rfl rfl
  refine zcallv (wr := ([] : va_W)) hr_31 hP hD hS hA [0, 1, 2, 3, 4, 5, 6, 7, 8, 9] [] rfl rfl (by decide) (by decide) (fun u_31 H locs hw_31 hP hD hS => ?_)
  obtain ⟨sM_31, rfl⟩ : ∃ z, z = u_31 := ⟨_, rfl⟩
  subst hw_31
  have hP : va_P (dC, dI) zcl (zwM adM adM_tape adM_frameAt adM_field adM_draft adM_given adM_low adM_high adM_packet adM_known cB cI cL sM_31) H := hP
  have hD : va_D A (zwM adM adM_tape adM_frameAt adM_field adM_draft adM_given adM_low adM_high adM_packet adM_known cB cI cL sM_31) := hD
  have hG : g_M_shortFlaw_c31 sM_31 = some a := hG
  unfold g_M_shortFlaw_c31 at hG
  refine lv_aload_n hx hb d_M_shortFlaw_34 rfl (lv_at hl 0 rfl) ?_
  refine lv_iconst (v := (4 : Int32)) hx hb d_M_shortFlaw_35 (by decide) ?_
  refine lv_aload_n hx hb d_M_shortFlaw_36 rfl (lv_at hl 0 rfl) ?_
  refine va_get (D := (dC, dI)) (ci := 8) (v := .int (zM_at sM_31)) (C := R_M) (T := F_M) (N := 26) hx hb hts zi_M hown zz.1 hP 0 rfl rfl 14 (by decide) (hts (.fieldLink R_M 110 "WireCodecModel" "at" "I") zin_M_110) (fun _ h9 => h9) rfl d_M_shortFlaw_37 ?_
  obtain ⟨a_40, hx_40, hG⟩ := zb hG
  have hr_40 := zrunV (p := p) (e := e) (below := below) (meth := meth) (As := [.int (4 : Int32), .int (zM_at sM_31)]) (rest := []) (st0 := [.int (zM_at sM_31), .int (4 : Int32), .ref adM]) (cells := 0) (slots := 0) X zz hP hD hS hA [0, 1, 2, 3, 4, 5, 6, 7, 8, 9] (by decide) rfl (c_M_note l dC dI cB cI cL H.size adM adM_tape adM_frameAt adM_field adM_draft adM_given adM_low adM_high adM_packet adM_known sM_31 (4 : Int32) (zM_at sM_31) _ hx_40) zy_M_note zv_M_note (hts (.methodLink R_M 245 y_M_note) zin_M_245) hl rfl rfl d_M_shortFlaw_40 (lv_room (Nat.le_of_ble_eq_true rfl)) rfl rfl ⟨Nat.le_trans (Nat.le_of_ble_eq_true rfl) hRf, Nat.le_trans (Nat.le_of_ble_eq_true rfl) hRl⟩ ⟨Nat.zero_le _, Nat.zero_le _⟩ 0 8 rfl rfl
  refine zcallv (wr := ([] : va_W)) hr_40 hP hD hS hA [0, 1, 2, 3, 4, 5, 6, 7, 8, 9] [] rfl rfl (by decide) (by decide) (fun u_40 H locs hw_40 hP hD hS => ?_)
  obtain ⟨sM_40, rfl⟩ : ∃ z, z = u_40 := ⟨_, rfl⟩
  subst hw_40
  have hP : va_P (dC, dI) zcl (zwM adM adM_tape adM_frameAt adM_field adM_draft adM_given adM_low adM_high adM_packet adM_known cB cI cL sM_40) H := hP
  have hD : va_D A (zwM adM adM_tape adM_frameAt adM_field adM_draft adM_given adM_low adM_high adM_packet adM_known cB cI cL sM_40) := hD
  have hG : g_M_shortFlaw_c40 sM_40 = some a := hG
  unfold g_M_shortFlaw_c40 at hG
  refine lv_aload_n hx hb d_M_shortFlaw_43 rfl (lv_at hl 0 rfl) ?_
  refine lv_ldc2 (v := (20 : Int64)) hx hb hown (hts (.constantLong R_M 254 (20 : Int64)) zin_M_254) d_M_shortFlaw_44 ?_
  obtain ⟨a_47, hx_47, hG⟩ := zb hG
  have hr_47 := zrunV (p := p) (e := e) (below := below) (meth := meth) (As := [.long (20 : Int64)]) (rest := []) (st0 := [.long (20 : Int64), .ref adM]) (cells := 0) (slots := 0) X zz hP hD hS hA [0, 1, 2, 3, 4, 5, 6, 7, 8, 9] (by decide) rfl (c_M_pass l dC dI cB cI cL H.size adM adM_tape adM_frameAt adM_field adM_draft adM_given adM_low adM_high adM_packet adM_known sM_40 (20 : Int64) _ hx_47) zy_M_pass zv_M_pass (hts (.methodLink R_M 141 y_M_pass) zin_M_141) hl rfl rfl d_M_shortFlaw_47 (lv_room (Nat.le_of_ble_eq_true rfl)) rfl rfl ⟨Nat.le_trans (Nat.le_of_ble_eq_true rfl) hRf, Nat.le_trans (Nat.le_of_ble_eq_true rfl) hRl⟩ ⟨Nat.zero_le _, Nat.zero_le _⟩ 0 8 rfl rfl
  refine zcalli (wr := ([] : va_W)) hr_47 hP hD hS hA [0, 1, 2, 3, 4, 5, 6, 7, 8, 9] [] rfl rfl (by decide) (by decide) (fun r_47 u_47 H locs hw_47 hP hD hS => ?_)
  obtain ⟨sM_47, rfl⟩ : ∃ z, z = u_47 := ⟨_, rfl⟩
  subst hw_47
  have hP : va_P (dC, dI) zcl (zwM adM adM_tape adM_frameAt adM_field adM_draft adM_given adM_low adM_high adM_packet adM_known cB cI cL sM_47) H := hP
  have hD : va_D A (zwM adM adM_tape adM_frameAt adM_field adM_draft adM_given adM_low adM_high adM_packet adM_known cB cI cL sM_47) := hD
  have hG : g_M_shortFlaw_c47 sM_47 = some a := hG
  unfold g_M_shortFlaw_c47 at hG
  refine lv_pop hx hb d_M_shortFlaw_50 rfl ?_
  refine lv_aload_n hx hb d_M_shortFlaw_51 rfl (lv_at hl 0 rfl) ?_
  refine lv_iconst (v := (5 : Int32)) hx hb d_M_shortFlaw_52 (by decide) ?_
  refine lv_aload_n hx hb d_M_shortFlaw_53 rfl (lv_at hl 0 rfl) ?_
  refine va_get (D := (dC, dI)) (ci := 8) (v := .int (zM_size sM_47)) (C := R_M) (T := F_M) (N := 26) hx hb hts zi_M hown zz.1 hP 0 rfl rfl 2 (by decide) (hts (.fieldLink R_M 57 "WireCodecModel" "size" "I") zin_M_57) (fun _ h9 => h9) rfl d_M_shortFlaw_54 ?_
  obtain ⟨a_57, hx_57, hG⟩ := zb hG
  have hr_57 := zrunV (p := p) (e := e) (below := below) (meth := meth) (As := [.int (5 : Int32), .int (zM_size sM_47)]) (rest := []) (st0 := [.int (zM_size sM_47), .int (5 : Int32), .ref adM]) (cells := 0) (slots := 0) X zz hP hD hS hA [0, 1, 2, 3, 4, 5, 6, 7, 8, 9] (by decide) rfl (c_M_note l dC dI cB cI cL H.size adM adM_tape adM_frameAt adM_field adM_draft adM_given adM_low adM_high adM_packet adM_known sM_47 (5 : Int32) (zM_size sM_47) _ hx_57) zy_M_note zv_M_note (hts (.methodLink R_M 245 y_M_note) zin_M_245) hl rfl rfl d_M_shortFlaw_57 (lv_room (Nat.le_of_ble_eq_true rfl)) rfl rfl ⟨Nat.le_trans (Nat.le_of_ble_eq_true rfl) hRf, Nat.le_trans (Nat.le_of_ble_eq_true rfl) hRl⟩ ⟨Nat.zero_le _, Nat.zero_le _⟩ 0 8 rfl rfl
  refine zcallv (wr := ([] : va_W)) hr_57 hP hD hS hA [0, 1, 2, 3, 4, 5, 6, 7, 8, 9] [] rfl rfl (by decide) (by decide) (fun u_57 H locs hw_57 hP hD hS => ?_)
  obtain ⟨sM_57, rfl⟩ : ∃ z, z = u_57 := ⟨_, rfl⟩
  subst hw_57
  have hP : va_P (dC, dI) zcl (zwM adM adM_tape adM_frameAt adM_field adM_draft adM_given adM_low adM_high adM_packet adM_known cB cI cL sM_57) H := hP
  have hD : va_D A (zwM adM adM_tape adM_frameAt adM_field adM_draft adM_given adM_low adM_high adM_packet adM_known cB cI cL sM_57) := hD
  have hG : g_M_shortFlaw_c57 sM_57 = some a := hG
  unfold g_M_shortFlaw_c57 at hG
  refine lv_aload_n hx hb d_M_shortFlaw_60 rfl (lv_at hl 0 rfl) ?_
  refine va_get (D := (dC, dI)) (ci := 8) (v := .int (zM_over sM_57)) (C := R_M) (T := F_M) (N := 26) hx hb hts zi_M hown zz.1 hP 0 rfl rfl 15 (by decide) (hts (.fieldLink R_M 116 "WireCodecModel" "over" "Z") zin_M_116) (fun _ h9 => h9) rfl d_M_shortFlaw_61 ?_
  refine lv_if_eq (tgt := 71) hx hb d_M_shortFlaw_64 (by decide) (fun hc => ?_) (fun hc => ?_)
  · have hG := zt hG hc
    refine lv_iconst (v := (0 : Int32)) hx hb d_M_shortFlaw_71 (by decide) ?_
    exact k_M_shortFlaw_72 X hA zz sM_57 (0 : Int32) _ hG adM adM_tape adM_frameAt adM_field adM_draft adM_given adM_low adM_high adM_packet adM_known _ _ hP hD hS _ (lv_sub hl [] rfl)
  · have hG := zf hG hc
    refine lv_iconst (v := (1 : Int32)) hx hb d_M_shortFlaw_67 (by decide) ?_
    refine lv_goto (tgt := 72) hx hb d_M_shortFlaw_68 (by decide) ?_
    exact k_M_shortFlaw_72 X hA zz sM_57 (1 : Int32) _ hG adM adM_tape adM_frameAt adM_field adM_draft adM_given adM_low adM_high adM_packet adM_known _ _ hP hD hS _ (lv_sub hl [] rfl)
set_option maxRecDepth 100000 in
set_option maxHeartbeats 4000000 in
theorem c_M_shortFlaw (l : Launch) (dC : Nat → ClassId) (dI : Nat → Nat → Nat) (cB cI cL : ClassId) (sz : Nat) (adM adM_tape adM_frameAt adM_field adM_draft adM_given adM_low adM_high adM_packet adM_known : Nat) (sM : zM) (v1 : Int32) (v2 : Int32) (a : Int32 × zM) (hG : g_M_shortFlaw sM v1 v2 = some a) : Met l y_M_shortFlaw (zw y_M_shortFlaw b_M_shortFlaw 3 (some .int)) ({ frames := 1, cells := 0, slots := 0, locals := 23 }) (va_Pc [.ref adM, .int v1, .int v2] (zpre dC dI cB cI cL sz (zwM adM adM_tape adM_frameAt adM_field adM_draft adM_given adM_low adM_high adM_packet adM_known cB cI cL sM))) (q_M_shortFlaw dC dI cB cI cL (va_A (zwM adM adM_tape adM_frameAt adM_field adM_draft adM_given adM_low adM_high adM_packet adM_known cB cI cL sM) sz) adM adM_tape adM_frameAt adM_field adM_draft adM_given adM_low adM_high adM_packet adM_known a) 0 0 (va_A (zwM adM adM_tape adM_frameAt adM_field adM_draft adM_given adM_low adM_high adM_packet adM_known cB cI cL sM) sz) := by
  refine Met.ofW (cc := b_M_shortFlaw) (maxL := 3) (ret := (some .int)) (by decide) rfl ?_
  intro p e s m args below meth c s₁ B hml hv
  obtain ⟨rfl, hsz, hP, zz, hD0⟩ := hv
  subst hsz
  have X := zx_of (F := 1) (L := 23) B hml (Nat.le_refl _) (Nat.le_refl _)
  have hD := hD0.self (sz := s.heap.size)
  have hA : ∀ q : Nat, s.heap.size ≤ q → va_A (zwM adM adM_tape adM_frameAt adM_field adM_draft adM_given adM_low adM_high adM_packet adM_known cB cI cL sM) s.heap.size q := fun q h => Or.inr h
  have hl := lv_entry ([.ref adM, .int v1, .int v2]) (n := 3) (Nat.le_of_ble_eq_true rfl)
  rw [lg_entry_eq]
  generalize (lg_sl ([.ref adM, .int v1, .int v2]) ++ List.replicate (3 - (lg_sl ([.ref adM, .int v1, .int v2])).length) Slot.unset).toArray = ls at hl ⊢
  exact k_M_shortFlaw_0 X hA zz sM v1 v2 a hG adM adM_tape adM_frameAt adM_field adM_draft adM_given adM_low adM_high adM_packet adM_known _ _ hP hD va_S.rf ls hl
noncomputable def g_M_longFlaw_45 (N : Nat) (sM : zM) : Option (Int32 × zM) := some ((1 : Int32), sM)
noncomputable def g_M_longFlaw_100 (N : Nat) (sM : zM) : Option (Int32 × zM) := some ((4 : Int32), sM)
noncomputable def g_M_longFlaw_182 (N : Nat) (sM : zM) : Option (Int32 × zM) := some ((1 : Int32), sM)
noncomputable def g_M_longFlaw_c203 (sM_203 : zM) : Option (Int32 × zM) := some ((0 : Int32), sM_203)
noncomputable def g_M_longFlaw_c190 (r_145 : Int64) (sM_190 : zM) : Option (Int32 × zM) := (g_M_note sM_190 (5 : Int32) ((zM_at sM_190) + r_145.toInt32)).bind (fun a => g_M_longFlaw_c203 a)
noncomputable def g_M_longFlaw_c145 (N : Nat) (sM_145 : zM) (r_145 : Int64) : Option (Int32 × zM) := if (zM_over sM_145) = (0 : Int32) then (if (lg_cmp r_145 (20 : Int64)) < (0 : Int32) then (g_M_longFlaw_182 N sM_145) else (if (0 : Int32) ≤ (lg_cmp (((zM_end sM_145) - (zM_at sM_145)).toInt64) r_145) then ((g_M_note sM_145 (4 : Int32) (zM_at sM_145)).bind (fun a => g_M_longFlaw_c190 r_145 a)) else (g_M_longFlaw_182 N sM_145))) else (g_M_longFlaw_182 N sM_145)
noncomputable def g_M_longFlaw_144 (N : Nat) (sM : zM) : Option (Int32 × zM) := (g_M_takeNumber N sM).bind (fun a => g_M_longFlaw_c145 N a.2 a.1)
noncomputable def g_M_longFlaw_c141 (N : Nat) (sM_141 : zM) : Option (Int32 × zM) := g_M_longFlaw_144 N sM_141
noncomputable def g_M_longFlaw_141 (N : Nat) (sM : zM) (s0 : Int32) (s1 : Int32) : Option (Int32 × zM) := (g_M_note sM s1 s0).bind (fun a => g_M_longFlaw_c141 N a)
noncomputable def g_M_longFlaw_c121 (N : Nat) (r_107 : Int64) (sM_121 : zM) : Option (Int32 × zM) := if (zM_over sM_121) = (0 : Int32) then (g_M_longFlaw_141 N sM_121 r_107.toInt32 (11 : Int32)) else (g_M_longFlaw_141 N sM_121 (0 : Int32) (11 : Int32))
noncomputable def g_M_longFlaw_c118 (N : Nat) (r_107 : Int64) (sM_118 : zM) (r_118 : Int32) : Option (Int32 × zM) := (g_M_note sM_118 (10 : Int32) r_118).bind (fun a => g_M_longFlaw_c121 N r_107 a)
noncomputable def g_M_longFlaw_c107 (N : Nat) (sM_107 : zM) (r_107 : Int64) : Option (Int32 × zM) := (g_M_pass sM_107 r_107).bind (fun a => g_M_longFlaw_c118 N r_107 a.2 a.1)
noncomputable def g_M_longFlaw_82 (N : Nat) (sM : zM) (v2 : Int32) (v5 : Int32) : Option (Int32 × zM) := if v5 ≤ (0 : Int32) then (if v2 = (1 : Int32) then (g_M_longFlaw_100 N sM) else (if v2 = (3 : Int32) then (g_M_longFlaw_100 N sM) else (if v2 = (0 : Int32) then ((g_M_takeNumber N sM).bind (fun a => g_M_longFlaw_c107 N a.2 a.1)) else (g_M_longFlaw_144 N sM)))) else (some (v5, sM))
noncomputable def g_M_longFlaw_c77 (N : Nat) (v1 : Int32) (sM_77 : zM) (r_77 : Int32) : Option (Int32 × zM) := g_M_longFlaw_82 N sM_77 ((v1 >>> ((4 : Int32) &&& 31)) &&& (3 : Int32)) r_77
noncomputable def g_M_longFlaw_c64 (N : Nat) (v1 : Int32) (sM_64 : zM) (r_64 : Int32) : Option (Int32 × zM) := if r_64 = (0 : Int32) then ((g_M_takeConnection N sM_64 (8 : Int32)).bind (fun a => g_M_longFlaw_c77 N v1 a.2 a.1)) else (g_M_longFlaw_82 N sM_64 ((v1 >>> ((4 : Int32) &&& 31)) &&& (3 : Int32)) r_64)
noncomputable def g_M_longFlaw_c58 (N : Nat) (v1 : Int32) (sM_58 : zM) : Option (Int32 × zM) := (g_M_takeConnection N sM_58 (6 : Int32)).bind (fun a => g_M_longFlaw_c64 N v1 a.2 a.1)
noncomputable def g_M_longFlaw_c23 (N : Nat) (v1 : Int32) (sM_23 : zM) (r_23 : Int64) : Option (Int32 × zM) := if (zM_over sM_23) = (0 : Int32) then (if (zM_at sM_23) = (zM_end sM_23) then (g_M_longFlaw_45 N sM_23) else (if (lg_cmp r_23 (1 : Int64)) = (0 : Int32) then ((g_M_note sM_23 (2 : Int32) (1 : Int32)).bind (fun a => g_M_longFlaw_c58 N v1 a)) else (some ((3 : Int32), sM_23)))) else (g_M_longFlaw_45 N sM_23)
noncomputable def g_M_longFlaw_c18 (N : Nat) (v1 : Int32) (sM_18 : zM) : Option (Int32 × zM) := (g_M_take N sM_18 (4 : Int32)).bind (fun a => g_M_longFlaw_c23 N v1 a.2 a.1)
noncomputable def g_M_longFlaw_c9 (N : Nat) (v1 : Int32) (sM_9 : zM) : Option (Int32 × zM) := (g_M_note sM_9 (1 : Int32) (v1 &&& (15 : Int32))).bind (fun a => g_M_longFlaw_c18 N v1 a)
noncomputable def g_M_longFlaw (N : Nat) (sM : zM) (v1 : Int32) : Option (Int32 × zM) := (g_M_note sM (0 : Int32) ((v1 >>> ((4 : Int32) &&& 31)) &&& (3 : Int32))).bind (fun a => g_M_longFlaw_c9 N v1 a)
def q_M_longFlaw (dC : Nat → ClassId) (dI : Nat → Nat → Nat) (cB cI cL : ClassId) (A : Nat → Prop) (adM : Nat) (adM_tape : Nat) (adM_frameAt : Nat) (adM_field : Nat) (adM_draft : Nat) (adM_given : Nat) (adM_low : Nat) (adM_high : Nat) (adM_packet : Nat) (adM_known : Nat) (a : Int32 × zM) : Array Value → State → Outcome → State → Prop := va_Qi (fun (r : Int32) (u : zM) => (r, u) = a) (fun u U => va_P (dC, dI) zcl (zwM adM adM_tape adM_frameAt adM_field adM_draft adM_given adM_low adM_high adM_packet adM_known cB cI cL u) U.heap ∧ va_D A (zwM adM adM_tape adM_frameAt adM_field adM_draft adM_given adM_low adM_high adM_packet adM_known cB cI cL u)) A
set_option maxRecDepth 100000 in
set_option maxHeartbeats 4000000 in
theorem k_M_longFlaw_45 {p : Program} {l : Launch} {e : Env} {R : Room} {s : State} {m : MethodId} {args : Array Value} {below : List Frame} {meth : Method} {c : Code} {dC : Nat → ClassId} {dI : Nat → Nat → Nat} {cB cI cL : ClassId} {A : Nat → Prop} (X : zx p s m args meth c R R_M b_M_longFlaw (some .int) 8 3 68) (hA : ∀ q, s.heap.size ≤ q → A q) (zz : zk dC dI cB cI cL A s)  (N : Nat) (sM : zM) (a : Int32 × zM) (hG : g_M_longFlaw_45 N sM = some a) (adM adM_tape adM_frameAt adM_field adM_draft adM_given adM_low adM_high adM_packet adM_known : Nat) (H : Heap) (locs : List Loc) (hP : va_P (dC, dI) zcl (zwM adM adM_tape adM_frameAt adM_field adM_draft adM_given adM_low adM_high adM_packet adM_known cB cI cL sM) H) (hD : va_D A (zwM adM adM_tape adM_frameAt adM_field adM_draft adM_given adM_low adM_high adM_packet adM_known cB cI cL sM)) (hS : va_S A s.heap H locs) (ls : Array Slot) (hl : lv_has ls 8 []) : W p l e R s m args below meth c H locs 0 0 (MQ below (q_M_longFlaw dC dI cB cI cL A adM adM_tape adM_frameAt adM_field adM_draft adM_given adM_low adM_high adM_packet adM_known a) args s 0 0 A) (F0 m 45 ls []) := by
  obtain ⟨hx, hb, hr, hml, hown, hts, hlocks, hRf, hRl⟩ := id X
  unfold g_M_longFlaw_45 at hG
  refine lv_iconst (v := (1 : Int32)) hx hb d_M_longFlaw_45 (by decide) ?_
  exact W.iret (v := (1 : Int32)) hx hb hr (fun t9 ht9 hW9 => ⟨⟨(1 : Int32), (sM), rfl, Option.some.inj hG, by rw [ht9]; exact hP, hD⟩, hS.F ht9⟩) hS.2.2 d_M_longFlaw_46
set_option maxRecDepth 100000 in
set_option maxHeartbeats 4000000 in
theorem k_M_longFlaw_100 {p : Program} {l : Launch} {e : Env} {R : Room} {s : State} {m : MethodId} {args : Array Value} {below : List Frame} {meth : Method} {c : Code} {dC : Nat → ClassId} {dI : Nat → Nat → Nat} {cB cI cL : ClassId} {A : Nat → Prop} (X : zx p s m args meth c R R_M b_M_longFlaw (some .int) 8 3 68) (hA : ∀ q, s.heap.size ≤ q → A q) (zz : zk dC dI cB cI cL A s)  (N : Nat) (sM : zM) (a : Int32 × zM) (hG : g_M_longFlaw_100 N sM = some a) (adM adM_tape adM_frameAt adM_field adM_draft adM_given adM_low adM_high adM_packet adM_known : Nat) (H : Heap) (locs : List Loc) (hP : va_P (dC, dI) zcl (zwM adM adM_tape adM_frameAt adM_field adM_draft adM_given adM_low adM_high adM_packet adM_known cB cI cL sM) H) (hD : va_D A (zwM adM adM_tape adM_frameAt adM_field adM_draft adM_given adM_low adM_high adM_packet adM_known cB cI cL sM)) (hS : va_S A s.heap H locs) (ls : Array Slot) (hl : lv_has ls 8 []) : W p l e R s m args below meth c H locs 0 0 (MQ below (q_M_longFlaw dC dI cB cI cL A adM adM_tape adM_frameAt adM_field adM_draft adM_given adM_low adM_high adM_packet adM_known a) args s 0 0 A) (F0 m 100 ls []) := by
  obtain ⟨hx, hb, hr, hml, hown, hts, hlocks, hRf, hRl⟩ := id X
  unfold g_M_longFlaw_100 at hG
  refine lv_iconst (v := (4 : Int32)) hx hb d_M_longFlaw_100 (by decide) ?_
  exact W.iret (v := (4 : Int32)) hx hb hr (fun t9 ht9 hW9 => ⟨⟨(4 : Int32), (sM), rfl, Option.some.inj hG, by rw [ht9]; exact hP, hD⟩, hS.F ht9⟩) hS.2.2 d_M_longFlaw_101
set_option maxRecDepth 100000 in
set_option maxHeartbeats 4000000 in
theorem k_M_longFlaw_182 {p : Program} {l : Launch} {e : Env} {R : Room} {s : State} {m : MethodId} {args : Array Value} {below : List Frame} {meth : Method} {c : Code} {dC : Nat → ClassId} {dI : Nat → Nat → Nat} {cB cI cL : ClassId} {A : Nat → Prop} (X : zx p s m args meth c R R_M b_M_longFlaw (some .int) 8 3 68) (hA : ∀ q, s.heap.size ≤ q → A q) (zz : zk dC dI cB cI cL A s)  (N : Nat) (sM : zM) (a : Int32 × zM) (hG : g_M_longFlaw_182 N sM = some a) (adM adM_tape adM_frameAt adM_field adM_draft adM_given adM_low adM_high adM_packet adM_known : Nat) (H : Heap) (locs : List Loc) (hP : va_P (dC, dI) zcl (zwM adM adM_tape adM_frameAt adM_field adM_draft adM_given adM_low adM_high adM_packet adM_known cB cI cL sM) H) (hD : va_D A (zwM adM adM_tape adM_frameAt adM_field adM_draft adM_given adM_low adM_high adM_packet adM_known cB cI cL sM)) (hS : va_S A s.heap H locs) (ls : Array Slot) (hl : lv_has ls 8 []) : W p l e R s m args below meth c H locs 0 0 (MQ below (q_M_longFlaw dC dI cB cI cL A adM adM_tape adM_frameAt adM_field adM_draft adM_given adM_low adM_high adM_packet adM_known a) args s 0 0 A) (F0 m 182 ls []) := by
  obtain ⟨hx, hb, hr, hml, hown, hts, hlocks, hRf, hRl⟩ := id X
  unfold g_M_longFlaw_182 at hG
  refine lv_iconst (v := (1 : Int32)) hx hb d_M_longFlaw_182 (by decide) ?_
  exact W.iret (v := (1 : Int32)) hx hb hr (fun t9 ht9 hW9 => ⟨⟨(1 : Int32), (sM), rfl, Option.some.inj hG, by rw [ht9]; exact hP, hD⟩, hS.F ht9⟩) hS.2.2 d_M_longFlaw_183
set_option maxRecDepth 100000 in
set_option maxHeartbeats 4000000 in
theorem k_M_longFlaw_144 {p : Program} {l : Launch} {e : Env} {R : Room} {s : State} {m : MethodId} {args : Array Value} {below : List Frame} {meth : Method} {c : Code} {dC : Nat → ClassId} {dI : Nat → Nat → Nat} {cB cI cL : ClassId} {A : Nat → Prop} (X : zx p s m args meth c R R_M b_M_longFlaw (some .int) 8 3 68) (hA : ∀ q, s.heap.size ≤ q → A q) (zz : zk dC dI cB cI cL A s)  (N : Nat) (sM : zM) (a : Int32 × zM) (hG : g_M_longFlaw_144 N sM = some a) (adM adM_tape adM_frameAt adM_field adM_draft adM_given adM_low adM_high adM_packet adM_known : Nat) (H : Heap) (locs : List Loc) (hP : va_P (dC, dI) zcl (zwM adM adM_tape adM_frameAt adM_field adM_draft adM_given adM_low adM_high adM_packet adM_known cB cI cL sM) H) (hD : va_D A (zwM adM adM_tape adM_frameAt adM_field adM_draft adM_given adM_low adM_high adM_packet adM_known cB cI cL sM)) (hS : va_S A s.heap H locs) (ls : Array Slot) (hl : lv_has ls 8 [(0, .ref adM)]) : W p l e R s m args below meth c H locs 0 0 (MQ below (q_M_longFlaw dC dI cB cI cL A adM adM_tape adM_frameAt adM_field adM_draft adM_given adM_low adM_high adM_packet adM_known a) args s 0 0 A) (F0 m 144 ls []) := by
  obtain ⟨hx, hb, hr, hml, hown, hts, hlocks, hRf, hRl⟩ := id X
  unfold g_M_longFlaw_144 at hG
  refine lv_aload_n hx hb d_M_longFlaw_144 rfl (lv_at hl 0 rfl) ?_
  obtain ⟨a_145, hx_145, hG⟩ := zb hG
  have hr_145 := zrunV (p := p) (e := e) (below := below) (meth := meth) (As := []) (rest := []) (st0 := [.ref adM]) (cells := 0) (slots := 0) X zz hP hD hS hA [0, 1, 2, 3, 4, 5, 6, 7, 8, 9] (by decide) rfl (c_M_takeNumber l dC dI cB cI cL H.size adM adM_tape adM_frameAt adM_field adM_draft adM_given adM_low adM_high adM_packet adM_known N sM _ hx_145) zy_M_takeNumber zv_M_takeNumber (hts (.methodLink R_M 128 y_M_takeNumber) zin_M_128) hl rfl rfl d_M_longFlaw_145 (lv_room (Nat.le_of_ble_eq_true rfl)) rfl rfl ⟨Nat.le_trans (Nat.le_of_ble_eq_true rfl) hRf, Nat.le_trans (Nat.le_of_ble_eq_true rfl) hRl⟩ ⟨Nat.zero_le _, Nat.zero_le _⟩ 0 8 rfl rfl
  refine zcalll (wr := ([] : va_W)) hr_145 hP hD hS hA [0, 1, 2, 3, 4, 5, 6, 7, 8, 9] [] rfl rfl (by decide) (by decide) (fun r_145 u_145 H locs hw_145 hP hD hS => ?_)
  obtain ⟨sM_145, rfl⟩ : ∃ z, z = u_145 := ⟨_, rfl⟩
  subst hw_145
  have hP : va_P (dC, dI) zcl (zwM adM adM_tape adM_frameAt adM_field adM_draft adM_given adM_low adM_high adM_packet adM_known cB cI cL sM_145) H := hP
  have hD : va_D A (zwM adM adM_tape adM_frameAt adM_field adM_draft adM_given adM_low adM_high adM_packet adM_known cB cI cL sM_145) := hD
  have hG : g_M_longFlaw_c145 N sM_145 r_145 = some a := hG
  unfold g_M_longFlaw_c145 at hG
  refine lv_lstore (lv' := [(6, .long r_145), (0, .ref adM)]) hx hb d_M_longFlaw_148 hl (by decide) rfl (fun ls hl => ?_)
  refine lv_aload_n hx hb d_M_longFlaw_150 rfl (lv_at hl 1 rfl) ?_
  refine va_get (D := (dC, dI)) (ci := 8) (v := .int (zM_over sM_145)) (C := R_M) (T := F_M) (N := 26) hx hb hts zi_M hown zz.1 hP 0 rfl rfl 15 (by decide) (hts (.fieldLink R_M 116 "WireCodecModel" "over" "Z") zin_M_116) (fun _ h9 => h9) rfl d_M_longFlaw_151 ?_
  refine lv_if_ne (tgt := 182) hx hb d_M_longFlaw_154 (by decide) (fun hc => ?_) (fun hc => ?_)
  · have hG := zf hG hc
    exact k_M_longFlaw_182 X hA zz N sM_145 _ hG adM adM_tape adM_frameAt adM_field adM_draft adM_given adM_low adM_high adM_packet adM_known _ _ hP hD hS _ (lv_sub hl [] rfl)
  · have hG := zt hG hc
    refine lv_lload hx hb d_M_longFlaw_157 (lv_at hl 0 rfl) ?_
    refine lv_ldc2 (v := (20 : Int64)) hx hb hown (hts (.constantLong R_M 254 (20 : Int64)) zin_M_254) d_M_longFlaw_159 ?_
    refine W.lcmp hx hb d_M_longFlaw_162 ?_
    refine lv_if_lt (tgt := 182) hx hb d_M_longFlaw_163 (by decide) (fun hc => ?_) (fun hc => ?_)
    · have hG := zt hG hc
      exact k_M_longFlaw_182 X hA zz N sM_145 _ hG adM adM_tape adM_frameAt adM_field adM_draft adM_given adM_low adM_high adM_packet adM_known _ _ hP hD hS _ (lv_sub hl [] rfl)
    · have hG := zf hG hc
      refine lv_aload_n hx hb d_M_longFlaw_166 rfl (lv_at hl 1 rfl) ?_
      refine va_get (D := (dC, dI)) (ci := 8) (v := .int (zM_end sM_145)) (C := R_M) (T := F_M) (N := 26) hx hb hts zi_M hown zz.1 hP 0 rfl rfl 16 (by decide) (hts (.fieldLink R_M 113 "WireCodecModel" "end" "I") zin_M_113) (fun _ h9 => h9) rfl d_M_longFlaw_167 ?_
      refine lv_aload_n hx hb d_M_longFlaw_170 rfl (lv_at hl 1 rfl) ?_
      refine va_get (D := (dC, dI)) (ci := 8) (v := .int (zM_at sM_145)) (C := R_M) (T := F_M) (N := 26) hx hb hts zi_M hown zz.1 hP 0 rfl rfl 14 (by decide) (hts (.fieldLink R_M 110 "WireCodecModel" "at" "I") zin_M_110) (fun _ h9 => h9) rfl d_M_longFlaw_171 ?_
      refine lv_isub hx hb d_M_longFlaw_174 ?_
      refine lv_i2l hx hb d_M_longFlaw_175 rfl ?_
      refine lv_lload hx hb d_M_longFlaw_176 (lv_at hl 0 rfl) ?_
      refine W.lcmp hx hb d_M_longFlaw_178 ?_
      refine lv_if_ge (tgt := 184) hx hb d_M_longFlaw_179 (by decide) (fun hc => ?_) (fun hc => ?_)
      · have hG := zt hG hc
        refine lv_aload_n hx hb d_M_longFlaw_184 rfl (lv_at hl 1 rfl) ?_
        refine lv_iconst (v := (4 : Int32)) hx hb d_M_longFlaw_185 (by decide) ?_
        refine lv_aload_n hx hb d_M_longFlaw_186 rfl (lv_at hl 1 rfl) ?_
        refine va_get (D := (dC, dI)) (ci := 8) (v := .int (zM_at sM_145)) (C := R_M) (T := F_M) (N := 26) hx hb hts zi_M hown zz.1 hP 0 rfl rfl 14 (by decide) (hts (.fieldLink R_M 110 "WireCodecModel" "at" "I") zin_M_110) (fun _ h9 => h9) rfl d_M_longFlaw_187 ?_
        obtain ⟨a_190, hx_190, hG⟩ := zb hG
        have hr_190 := zrunV (p := p) (e := e) (below := below) (meth := meth) (As := [.int (4 : Int32), .int (zM_at sM_145)]) (rest := []) (st0 := [.int (zM_at sM_145), .int (4 : Int32), .ref adM]) (cells := 0) (slots := 0) X zz hP hD hS hA [0, 1, 2, 3, 4, 5, 6, 7, 8, 9] (by decide) rfl (c_M_note l dC dI cB cI cL H.size adM adM_tape adM_frameAt adM_field adM_draft adM_given adM_low adM_high adM_packet adM_known sM_145 (4 : Int32) (zM_at sM_145) _ hx_190) zy_M_note zv_M_note (hts (.methodLink R_M 245 y_M_note) zin_M_245) hl rfl rfl d_M_longFlaw_190 (lv_room (Nat.le_of_ble_eq_true rfl)) rfl rfl ⟨Nat.le_trans (Nat.le_of_ble_eq_true rfl) hRf, Nat.le_trans (Nat.le_of_ble_eq_true rfl) hRl⟩ ⟨Nat.zero_le _, Nat.zero_le _⟩ 0 8 rfl rfl
        refine zcallv (wr := ([] : va_W)) hr_190 hP hD hS hA [0, 1, 2, 3, 4, 5, 6, 7, 8, 9] [] rfl rfl (by decide) (by decide) (fun u_190 H locs hw_190 hP hD hS => ?_)
        obtain ⟨sM_190, rfl⟩ : ∃ z, z = u_190 := ⟨_, rfl⟩
        subst hw_190
        have hP : va_P (dC, dI) zcl (zwM adM adM_tape adM_frameAt adM_field adM_draft adM_given adM_low adM_high adM_packet adM_known cB cI cL sM_190) H := hP
        have hD : va_D A (zwM adM adM_tape adM_frameAt adM_field adM_draft adM_given adM_low adM_high adM_packet adM_known cB cI cL sM_190) := hD
        have hG : g_M_longFlaw_c190 r_145 sM_190 = some a := hG
        unfold g_M_longFlaw_c190 at hG
        refine lv_aload_n hx hb d_M_longFlaw_193 rfl (lv_at hl 1 rfl) ?_
        refine lv_iconst (v := (5 : Int32)) hx hb d_M_longFlaw_194 (by decide) ?_
        refine lv_aload_n hx hb d_M_longFlaw_195 rfl (lv_at hl 1 rfl) ?_
        refine va_get (D := (dC, dI)) (ci := 8) (v := .int (zM_at sM_190)) (C := R_M) (T := F_M) (N := 26) hx hb hts zi_M hown zz.1 hP 0 rfl rfl 14 (by decide) (hts (.fieldLink R_M 110 "WireCodecModel" "at" "I") zin_M_110) (fun _ h9 => h9) rfl d_M_longFlaw_196 ?_
        refine lv_lload hx hb d_M_longFlaw_199 (lv_at hl 0 rfl) ?_
        refine lv_l2i hx hb d_M_longFlaw_201 rfl ?_
        refine lv_iadd hx hb d_M_longFlaw_202 ?_
        obtain ⟨a_203, hx_203, hG⟩ := zb hG
        have hr_203 := zrunV (p := p) (e := e) (below := below) (meth := meth) (As := [.int (5 : Int32), .int ((zM_at sM_190) + r_145.toInt32)]) (rest := []) (st0 := [.int ((zM_at sM_190) + r_145.toInt32), .int (5 : Int32), .ref adM]) (cells := 0) (slots := 0) X zz hP hD hS hA [0, 1, 2, 3, 4, 5, 6, 7, 8, 9] (by decide) rfl (c_M_note l dC dI cB cI cL H.size adM adM_tape adM_frameAt adM_field adM_draft adM_given adM_low adM_high adM_packet adM_known sM_190 (5 : Int32) ((zM_at sM_190) + r_145.toInt32) _ hx_203) zy_M_note zv_M_note (hts (.methodLink R_M 245 y_M_note) zin_M_245) hl rfl rfl d_M_longFlaw_203 (lv_room (Nat.le_of_ble_eq_true rfl)) rfl rfl ⟨Nat.le_trans (Nat.le_of_ble_eq_true rfl) hRf, Nat.le_trans (Nat.le_of_ble_eq_true rfl) hRl⟩ ⟨Nat.zero_le _, Nat.zero_le _⟩ 0 8 rfl rfl
        refine zcallv (wr := ([] : va_W)) hr_203 hP hD hS hA [0, 1, 2, 3, 4, 5, 6, 7, 8, 9] [] rfl rfl (by decide) (by decide) (fun u_203 H locs hw_203 hP hD hS => ?_)
        obtain ⟨sM_203, rfl⟩ : ∃ z, z = u_203 := ⟨_, rfl⟩
        subst hw_203
        have hP : va_P (dC, dI) zcl (zwM adM adM_tape adM_frameAt adM_field adM_draft adM_given adM_low adM_high adM_packet adM_known cB cI cL sM_203) H := hP
        have hD : va_D A (zwM adM adM_tape adM_frameAt adM_field adM_draft adM_given adM_low adM_high adM_packet adM_known cB cI cL sM_203) := hD
        have hG : g_M_longFlaw_c203 sM_203 = some a := hG
        unfold g_M_longFlaw_c203 at hG
        refine lv_iconst (v := (0 : Int32)) hx hb d_M_longFlaw_206 (by decide) ?_
        exact W.iret (v := (0 : Int32)) hx hb hr (fun t9 ht9 hW9 => ⟨⟨(0 : Int32), (sM_203), rfl, Option.some.inj hG, by rw [ht9]; exact hP, hD⟩, hS.F ht9⟩) hS.2.2 d_M_longFlaw_207
      · have hG := zf hG hc
        exact k_M_longFlaw_182 X hA zz N sM_145 _ hG adM adM_tape adM_frameAt adM_field adM_draft adM_given adM_low adM_high adM_packet adM_known _ _ hP hD hS _ (lv_sub hl [] rfl)
set_option maxRecDepth 100000 in
set_option maxHeartbeats 4000000 in
theorem k_M_longFlaw_141 {p : Program} {l : Launch} {e : Env} {R : Room} {s : State} {m : MethodId} {args : Array Value} {below : List Frame} {meth : Method} {c : Code} {dC : Nat → ClassId} {dI : Nat → Nat → Nat} {cB cI cL : ClassId} {A : Nat → Prop} (X : zx p s m args meth c R R_M b_M_longFlaw (some .int) 8 3 68) (hA : ∀ q, s.heap.size ≤ q → A q) (zz : zk dC dI cB cI cL A s)  (N : Nat) (sM : zM) (s0 : Int32) (s1 : Int32) (a : Int32 × zM) (hG : g_M_longFlaw_141 N sM s0 s1 = some a) (adM adM_tape adM_frameAt adM_field adM_draft adM_given adM_low adM_high adM_packet adM_known : Nat) (H : Heap) (locs : List Loc) (hP : va_P (dC, dI) zcl (zwM adM adM_tape adM_frameAt adM_field adM_draft adM_given adM_low adM_high adM_packet adM_known cB cI cL sM) H) (hD : va_D A (zwM adM adM_tape adM_frameAt adM_field adM_draft adM_given adM_low adM_high adM_packet adM_known cB cI cL sM)) (hS : va_S A s.heap H locs) (ls : Array Slot) (hl : lv_has ls 8 [(0, .ref adM)]) : W p l e R s m args below meth c H locs 0 0 (MQ below (q_M_longFlaw dC dI cB cI cL A adM adM_tape adM_frameAt adM_field adM_draft adM_given adM_low adM_high adM_packet adM_known a) args s 0 0 A) (F0 m 141 ls [.int s0, .int s1, .ref adM]) := by
  obtain ⟨hx, hb, hr, hml, hown, hts, hlocks, hRf, hRl⟩ := id X
  unfold g_M_longFlaw_141 at hG
  obtain ⟨a_141, hx_141, hG⟩ := zb hG
  have hr_141 := zrunV (p := p) (e := e) (below := below) (meth := meth) (As := [.int s1, .int s0]) (rest := []) (st0 := [.int s0, .int s1, .ref adM]) (cells := 0) (slots := 0) X zz hP hD hS hA [0, 1, 2, 3, 4, 5, 6, 7, 8, 9] (by decide) rfl (c_M_note l dC dI cB cI cL H.size adM adM_tape adM_frameAt adM_field adM_draft adM_given adM_low adM_high adM_packet adM_known sM s1 s0 _ hx_141) zy_M_note zv_M_note (hts (.methodLink R_M 245 y_M_note) zin_M_245) hl rfl rfl d_M_longFlaw_141 (lv_room (Nat.le_of_ble_eq_true rfl)) rfl rfl ⟨Nat.le_trans (Nat.le_of_ble_eq_true rfl) hRf, Nat.le_trans (Nat.le_of_ble_eq_true rfl) hRl⟩ ⟨Nat.zero_le _, Nat.zero_le _⟩ 0 8 rfl rfl
  refine zcallv (wr := ([] : va_W)) hr_141 hP hD hS hA [0, 1, 2, 3, 4, 5, 6, 7, 8, 9] [] rfl rfl (by decide) (by decide) (fun u_141 H locs hw_141 hP hD hS => ?_)
  obtain ⟨sM_141, rfl⟩ : ∃ z, z = u_141 := ⟨_, rfl⟩
  subst hw_141
  have hP : va_P (dC, dI) zcl (zwM adM adM_tape adM_frameAt adM_field adM_draft adM_given adM_low adM_high adM_packet adM_known cB cI cL sM_141) H := hP
  have hD : va_D A (zwM adM adM_tape adM_frameAt adM_field adM_draft adM_given adM_low adM_high adM_packet adM_known cB cI cL sM_141) := hD
  have hG : g_M_longFlaw_c141 N sM_141 = some a := hG
  unfold g_M_longFlaw_c141 at hG
  exact k_M_longFlaw_144 X hA zz N sM_141 _ hG adM adM_tape adM_frameAt adM_field adM_draft adM_given adM_low adM_high adM_packet adM_known _ _ hP hD hS _ (lv_sub hl [0] rfl)
set_option maxRecDepth 100000 in
set_option maxHeartbeats 4000000 in
theorem k_M_longFlaw_82 {p : Program} {l : Launch} {e : Env} {R : Room} {s : State} {m : MethodId} {args : Array Value} {below : List Frame} {meth : Method} {c : Code} {dC : Nat → ClassId} {dI : Nat → Nat → Nat} {cB cI cL : ClassId} {A : Nat → Prop} (X : zx p s m args meth c R R_M b_M_longFlaw (some .int) 8 3 68) (hA : ∀ q, s.heap.size ≤ q → A q) (zz : zk dC dI cB cI cL A s)  (N : Nat) (sM : zM) (v2 : Int32) (v5 : Int32) (a : Int32 × zM) (hG : g_M_longFlaw_82 N sM v2 v5 = some a) (adM adM_tape adM_frameAt adM_field adM_draft adM_given adM_low adM_high adM_packet adM_known : Nat) (H : Heap) (locs : List Loc) (hP : va_P (dC, dI) zcl (zwM adM adM_tape adM_frameAt adM_field adM_draft adM_given adM_low adM_high adM_packet adM_known cB cI cL sM) H) (hD : va_D A (zwM adM adM_tape adM_frameAt adM_field adM_draft adM_given adM_low adM_high adM_packet adM_known cB cI cL sM)) (hS : va_S A s.heap H locs) (ls : Array Slot) (hl : lv_has ls 8 [(0, .ref adM), (2, .int v2), (5, .int v5)]) : W p l e R s m args below meth c H locs 0 0 (MQ below (q_M_longFlaw dC dI cB cI cL A adM adM_tape adM_frameAt adM_field adM_draft adM_given adM_low adM_high adM_packet adM_known a) args s 0 0 A) (F0 m 82 ls []) := by
  obtain ⟨hx, hb, hr, hml, hown, hts, hlocks, hRf, hRl⟩ := id X
  unfold g_M_longFlaw_82 at hG
  refine lv_iload hx hb d_M_longFlaw_82 (lv_at hl 2 rfl) ?_
  refine lv_if_le (tgt := 90) hx hb d_M_longFlaw_84 (by decide) (fun hc => ?_) (fun hc => ?_)
  · have hG := zt hG hc
    refine lv_iload_n hx hb d_M_longFlaw_90 rfl (lv_at hl 1 rfl) ?_
    refine lv_iconst (v := (1 : Int32)) hx hb d_M_longFlaw_91 (by decide) ?_
    refine lv_icmp_eq (tgt := 100) hx hb d_M_longFlaw_92 (by decide) (fun hc => ?_) (fun hc => ?_)
    · have hG := zt hG hc
      exact k_M_longFlaw_100 X hA zz N sM _ hG adM adM_tape adM_frameAt adM_field adM_draft adM_given adM_low adM_high adM_packet adM_known _ _ hP hD hS _ (lv_sub hl [] rfl)
    · have hG := zf hG hc
      refine lv_iload_n hx hb d_M_longFlaw_95 rfl (lv_at hl 1 rfl) ?_
      refine lv_iconst (v := (3 : Int32)) hx hb d_M_longFlaw_96 (by decide) ?_
      refine lv_icmp_ne (tgt := 102) hx hb d_M_longFlaw_97 (by decide) (fun hc => ?_) (fun hc => ?_)
      · have hG := zf hG hc
        refine lv_iload_n hx hb d_M_longFlaw_102 rfl (lv_at hl 1 rfl) ?_
        refine lv_if_ne (tgt := 144) hx hb d_M_longFlaw_103 (by decide) (fun hc => ?_) (fun hc => ?_)
        · have hG := zf hG hc
          exact k_M_longFlaw_144 X hA zz N sM _ hG adM adM_tape adM_frameAt adM_field adM_draft adM_given adM_low adM_high adM_packet adM_known _ _ hP hD hS _ (lv_sub hl [0] rfl)
        · have hG := zt hG hc
          refine lv_aload_n hx hb d_M_longFlaw_106 rfl (lv_at hl 0 rfl) ?_
          obtain ⟨a_107, hx_107, hG⟩ := zb hG
          have hr_107 := zrunV (p := p) (e := e) (below := below) (meth := meth) (As := []) (rest := []) (st0 := [.ref adM]) (cells := 0) (slots := 0) X zz hP hD hS hA [0, 1, 2, 3, 4, 5, 6, 7, 8, 9] (by decide) rfl (c_M_takeNumber l dC dI cB cI cL H.size adM adM_tape adM_frameAt adM_field adM_draft adM_given adM_low adM_high adM_packet adM_known N sM _ hx_107) zy_M_takeNumber zv_M_takeNumber (hts (.methodLink R_M 128 y_M_takeNumber) zin_M_128) hl rfl rfl d_M_longFlaw_107 (lv_room (Nat.le_of_ble_eq_true rfl)) rfl rfl ⟨Nat.le_trans (Nat.le_of_ble_eq_true rfl) hRf, Nat.le_trans (Nat.le_of_ble_eq_true rfl) hRl⟩ ⟨Nat.zero_le _, Nat.zero_le _⟩ 0 8 rfl rfl
          refine zcalll (wr := ([] : va_W)) hr_107 hP hD hS hA [0, 1, 2, 3, 4, 5, 6, 7, 8, 9] [] rfl rfl (by decide) (by decide) (fun r_107 u_107 H locs hw_107 hP hD hS => ?_)
          obtain ⟨sM_107, rfl⟩ : ∃ z, z = u_107 := ⟨_, rfl⟩
          subst hw_107
          have hP : va_P (dC, dI) zcl (zwM adM adM_tape adM_frameAt adM_field adM_draft adM_given adM_low adM_high adM_packet adM_known cB cI cL sM_107) H := hP
          have hD : va_D A (zwM adM adM_tape adM_frameAt adM_field adM_draft adM_given adM_low adM_high adM_packet adM_known cB cI cL sM_107) := hD
          have hG : g_M_longFlaw_c107 N sM_107 r_107 = some a := hG
          unfold g_M_longFlaw_c107 at hG
          refine lv_lstore (lv' := [(6, .long r_107), (0, .ref adM), (2, .int v2), (5, .int v5)]) hx hb d_M_longFlaw_110 hl (by decide) rfl (fun ls hl => ?_)
          refine lv_aload_n hx hb d_M_longFlaw_112 rfl (lv_at hl 1 rfl) ?_
          refine lv_bipush (v := (10 : Int32)) hx hb d_M_longFlaw_113 (by decide) ?_
          refine lv_aload_n hx hb d_M_longFlaw_115 rfl (lv_at hl 1 rfl) ?_
          refine lv_lload hx hb d_M_longFlaw_116 (lv_at hl 0 rfl) ?_
          obtain ⟨a_118, hx_118, hG⟩ := zb hG
          have hr_118 := zrunV (p := p) (e := e) (below := below) (meth := meth) (As := [.long r_107]) (rest := [.int (10 : Int32), .ref adM]) (st0 := [.long r_107, .ref adM, .int (10 : Int32), .ref adM]) (cells := 0) (slots := 0) X zz hP hD hS hA [0, 1, 2, 3, 4, 5, 6, 7, 8, 9] (by decide) rfl (c_M_pass l dC dI cB cI cL H.size adM adM_tape adM_frameAt adM_field adM_draft adM_given adM_low adM_high adM_packet adM_known sM_107 r_107 _ hx_118) zy_M_pass zv_M_pass (hts (.methodLink R_M 141 y_M_pass) zin_M_141) hl rfl rfl d_M_longFlaw_118 (lv_room (Nat.le_of_ble_eq_true rfl)) rfl rfl ⟨Nat.le_trans (Nat.le_of_ble_eq_true rfl) hRf, Nat.le_trans (Nat.le_of_ble_eq_true rfl) hRl⟩ ⟨Nat.zero_le _, Nat.zero_le _⟩ 0 8 rfl rfl
          refine zcalli (wr := ([] : va_W)) hr_118 hP hD hS hA [0, 1, 2, 3, 4, 5, 6, 7, 8, 9] [] rfl rfl (by decide) (by decide) (fun r_118 u_118 H locs hw_118 hP hD hS => ?_)
          obtain ⟨sM_118, rfl⟩ : ∃ z, z = u_118 := ⟨_, rfl⟩
          subst hw_118
          have hP : va_P (dC, dI) zcl (zwM adM adM_tape adM_frameAt adM_field adM_draft adM_given adM_low adM_high adM_packet adM_known cB cI cL sM_118) H := hP
          have hD : va_D A (zwM adM adM_tape adM_frameAt adM_field adM_draft adM_given adM_low adM_high adM_packet adM_known cB cI cL sM_118) := hD
          have hG : g_M_longFlaw_c118 N r_107 sM_118 r_118 = some a := hG
          unfold g_M_longFlaw_c118 at hG
          obtain ⟨a_121, hx_121, hG⟩ := zb hG
          have hr_121 := zrunV (p := p) (e := e) (below := below) (meth := meth) (As := [.int (10 : Int32), .int r_118]) (rest := []) (st0 := [.int r_118, .int (10 : Int32), .ref adM]) (cells := 0) (slots := 0) X zz hP hD hS hA [0, 1, 2, 3, 4, 5, 6, 7, 8, 9] (by decide) rfl (c_M_note l dC dI cB cI cL H.size adM adM_tape adM_frameAt adM_field adM_draft adM_given adM_low adM_high adM_packet adM_known sM_118 (10 : Int32) r_118 _ hx_121) zy_M_note zv_M_note (hts (.methodLink R_M 245 y_M_note) zin_M_245) hl rfl rfl d_M_longFlaw_121 (lv_room (Nat.le_of_ble_eq_true rfl)) rfl rfl ⟨Nat.le_trans (Nat.le_of_ble_eq_true rfl) hRf, Nat.le_trans (Nat.le_of_ble_eq_true rfl) hRl⟩ ⟨Nat.zero_le _, Nat.zero_le _⟩ 0 8 rfl rfl
          refine zcallv (wr := ([] : va_W)) hr_121 hP hD hS hA [0, 1, 2, 3, 4, 5, 6, 7, 8, 9] [] rfl rfl (by decide) (by decide) (fun u_121 H locs hw_121 hP hD hS => ?_)
          obtain ⟨sM_121, rfl⟩ : ∃ z, z = u_121 := ⟨_, rfl⟩
          subst hw_121
          have hP : va_P (dC, dI) zcl (zwM adM adM_tape adM_frameAt adM_field adM_draft adM_given adM_low adM_high adM_packet adM_known cB cI cL sM_121) H := hP
          have hD : va_D A (zwM adM adM_tape adM_frameAt adM_field adM_draft adM_given adM_low adM_high adM_packet adM_known cB cI cL sM_121) := hD
          have hG : g_M_longFlaw_c121 N r_107 sM_121 = some a := hG
          unfold g_M_longFlaw_c121 at hG
          refine lv_aload_n hx hb d_M_longFlaw_124 rfl (lv_at hl 1 rfl) ?_
          refine lv_bipush (v := (11 : Int32)) hx hb d_M_longFlaw_125 (by decide) ?_
          refine lv_aload_n hx hb d_M_longFlaw_127 rfl (lv_at hl 1 rfl) ?_
          refine va_get (D := (dC, dI)) (ci := 8) (v := .int (zM_over sM_121)) (C := R_M) (T := F_M) (N := 26) hx hb hts zi_M hown zz.1 hP 0 rfl rfl 15 (by decide) (hts (.fieldLink R_M 116 "WireCodecModel" "over" "Z") zin_M_116) (fun _ h9 => h9) rfl d_M_longFlaw_128 ?_
          refine lv_if_eq (tgt := 138) hx hb d_M_longFlaw_131 (by decide) (fun hc => ?_) (fun hc => ?_)
          · have hG := zt hG hc
            refine lv_lload hx hb d_M_longFlaw_138 (lv_at hl 0 rfl) ?_
            refine lv_l2i hx hb d_M_longFlaw_140 rfl ?_
            exact k_M_longFlaw_141 X hA zz N sM_121 r_107.toInt32 (11 : Int32) _ hG adM adM_tape adM_frameAt adM_field adM_draft adM_given adM_low adM_high adM_packet adM_known _ _ hP hD hS _ (lv_sub hl [1] rfl)
          · have hG := zf hG hc
            refine lv_iconst (v := (0 : Int32)) hx hb d_M_longFlaw_134 (by decide) ?_
            refine lv_goto (tgt := 141) hx hb d_M_longFlaw_135 (by decide) ?_
            exact k_M_longFlaw_141 X hA zz N sM_121 (0 : Int32) (11 : Int32) _ hG adM adM_tape adM_frameAt adM_field adM_draft adM_given adM_low adM_high adM_packet adM_known _ _ hP hD hS _ (lv_sub hl [1] rfl)
      · have hG := zt hG hc
        exact k_M_longFlaw_100 X hA zz N sM _ hG adM adM_tape adM_frameAt adM_field adM_draft adM_given adM_low adM_high adM_packet adM_known _ _ hP hD hS _ (lv_sub hl [] rfl)
  · have hG := zf hG hc
    refine lv_iload hx hb d_M_longFlaw_87 (lv_at hl 2 rfl) ?_
    exact W.iret (v := v5) hx hb hr (fun t9 ht9 hW9 => ⟨⟨v5, (sM), rfl, Option.some.inj hG, by rw [ht9]; exact hP, hD⟩, hS.F ht9⟩) hS.2.2 d_M_longFlaw_89
set_option maxRecDepth 100000 in
set_option maxHeartbeats 4000000 in
theorem k_M_longFlaw_0 {p : Program} {l : Launch} {e : Env} {R : Room} {s : State} {m : MethodId} {args : Array Value} {below : List Frame} {meth : Method} {c : Code} {dC : Nat → ClassId} {dI : Nat → Nat → Nat} {cB cI cL : ClassId} {A : Nat → Prop} (X : zx p s m args meth c R R_M b_M_longFlaw (some .int) 8 3 68) (hA : ∀ q, s.heap.size ≤ q → A q) (zz : zk dC dI cB cI cL A s)  (N : Nat) (sM : zM) (v1 : Int32) (a : Int32 × zM) (hG : g_M_longFlaw N sM v1 = some a) (adM adM_tape adM_frameAt adM_field adM_draft adM_given adM_low adM_high adM_packet adM_known : Nat) (H : Heap) (locs : List Loc) (hP : va_P (dC, dI) zcl (zwM adM adM_tape adM_frameAt adM_field adM_draft adM_given adM_low adM_high adM_packet adM_known cB cI cL sM) H) (hD : va_D A (zwM adM adM_tape adM_frameAt adM_field adM_draft adM_given adM_low adM_high adM_packet adM_known cB cI cL sM)) (hS : va_S A s.heap H locs) (ls : Array Slot) (hl : lv_has ls 8 [(0, .ref adM), (1, .int v1)]) : W p l e R s m args below meth c H locs 0 0 (MQ below (q_M_longFlaw dC dI cB cI cL A adM adM_tape adM_frameAt adM_field adM_draft adM_given adM_low adM_high adM_packet adM_known a) args s 0 0 A) (F0 m 0 ls []) := by
  obtain ⟨hx, hb, hr, hml, hown, hts, hlocks, hRf, hRl⟩ := id X
  unfold g_M_longFlaw at hG
  refine lv_iload_n hx hb d_M_longFlaw_0 rfl (lv_at hl 1 rfl) ?_
  refine lv_iconst (v := (4 : Int32)) hx hb d_M_longFlaw_1 (by decide) ?_
  refine lv_ishr hx hb d_M_longFlaw_2 ?_
  refine lv_iconst (v := (3 : Int32)) hx hb d_M_longFlaw_3 (by decide) ?_
  refine lv_iand hx hb d_M_longFlaw_4 ?_
  refine lv_istore_n (lv' := [(2, .int ((v1 >>> ((4 : Int32) &&& 31)) &&& (3 : Int32))), (0, .ref adM), (1, .int v1)]) hx hb d_M_longFlaw_5 rfl hl (by decide) rfl (fun ls hl => ?_)
  refine lv_aload_n hx hb d_M_longFlaw_6 rfl (lv_at hl 1 rfl) ?_
  refine lv_iconst (v := (0 : Int32)) hx hb d_M_longFlaw_7 (by decide) ?_
  refine lv_iload_n hx hb d_M_longFlaw_8 rfl (lv_at hl 0 rfl) ?_
  obtain ⟨a_9, hx_9, hG⟩ := zb hG
  have hr_9 := zrunV (p := p) (e := e) (below := below) (meth := meth) (As := [.int (0 : Int32), .int ((v1 >>> ((4 : Int32) &&& 31)) &&& (3 : Int32))]) (rest := []) (st0 := [.int ((v1 >>> ((4 : Int32) &&& 31)) &&& (3 : Int32)), .int (0 : Int32), .ref adM]) (cells := 0) (slots := 0) X zz hP hD hS hA [0, 1, 2, 3, 4, 5, 6, 7, 8, 9] (by decide) rfl (c_M_note l dC dI cB cI cL H.size adM adM_tape adM_frameAt adM_field adM_draft adM_given adM_low adM_high adM_packet adM_known sM (0 : Int32) ((v1 >>> ((4 : Int32) &&& 31)) &&& (3 : Int32)) _ hx_9) zy_M_note zv_M_note (hts (.methodLink R_M 245 y_M_note) zin_M_245) hl rfl rfl d_M_longFlaw_9 (lv_room (Nat.le_of_ble_eq_true rfl)) rfl rfl ⟨Nat.le_trans (Nat.le_of_ble_eq_true rfl) hRf, Nat.le_trans (Nat.le_of_ble_eq_true rfl) hRl⟩ ⟨Nat.zero_le _, Nat.zero_le _⟩ 0 8 rfl rfl
  refine zcallv (wr := ([] : va_W)) hr_9 hP hD hS hA [0, 1, 2, 3, 4, 5, 6, 7, 8, 9] [] rfl rfl (by decide) (by decide) (fun u_9 H locs hw_9 hP hD hS => ?_)
  obtain ⟨sM_9, rfl⟩ : ∃ z, z = u_9 := ⟨_, rfl⟩
  subst hw_9
  have hP : va_P (dC, dI) zcl (zwM adM adM_tape adM_frameAt adM_field adM_draft adM_given adM_low adM_high adM_packet adM_known cB cI cL sM_9) H := hP
  have hD : va_D A (zwM adM adM_tape adM_frameAt adM_field adM_draft adM_given adM_low adM_high adM_packet adM_known cB cI cL sM_9) := hD
  have hG : g_M_longFlaw_c9 N v1 sM_9 = some a := hG
  unfold g_M_longFlaw_c9 at hG
  refine lv_aload_n hx hb d_M_longFlaw_12 rfl (lv_at hl 1 rfl) ?_
  refine lv_iconst (v := (1 : Int32)) hx hb d_M_longFlaw_13 (by decide) ?_
  refine lv_iload_n hx hb d_M_longFlaw_14 rfl (lv_at hl 2 rfl) ?_
  refine lv_bipush (v := (15 : Int32)) hx hb d_M_longFlaw_15 (by decide) ?_
  refine lv_iand hx hb d_M_longFlaw_17 ?_
  obtain ⟨a_18, hx_18, hG⟩ := zb hG
  have hr_18 := zrunV (p := p) (e := e) (below := below) (meth := meth) (As := [.int (1 : Int32), .int (v1 &&& (15 : Int32))]) (rest := []) (st0 := [.int (v1 &&& (15 : Int32)), .int (1 : Int32), .ref adM]) (cells := 0) (slots := 0) X zz hP hD hS hA [0, 1, 2, 3, 4, 5, 6, 7, 8, 9] (by decide) rfl (c_M_note l dC dI cB cI cL H.size adM adM_tape adM_frameAt adM_field adM_draft adM_given adM_low adM_high adM_packet adM_known sM_9 (1 : Int32) (v1 &&& (15 : Int32)) _ hx_18) zy_M_note zv_M_note (hts (.methodLink R_M 245 y_M_note) zin_M_245) hl rfl rfl d_M_longFlaw_18 (lv_room (Nat.le_of_ble_eq_true rfl)) rfl rfl ⟨Nat.le_trans (Nat.le_of_ble_eq_true rfl) hRf, Nat.le_trans (Nat.le_of_ble_eq_true rfl) hRl⟩ ⟨Nat.zero_le _, Nat.zero_le _⟩ 0 8 rfl rfl
  refine zcallv (wr := ([] : va_W)) hr_18 hP hD hS hA [0, 1, 2, 3, 4, 5, 6, 7, 8, 9] [] rfl rfl (by decide) (by decide) (fun u_18 H locs hw_18 hP hD hS => ?_)
  obtain ⟨sM_18, rfl⟩ : ∃ z, z = u_18 := ⟨_, rfl⟩
  subst hw_18
  have hP : va_P (dC, dI) zcl (zwM adM adM_tape adM_frameAt adM_field adM_draft adM_given adM_low adM_high adM_packet adM_known cB cI cL sM_18) H := hP
  have hD : va_D A (zwM adM adM_tape adM_frameAt adM_field adM_draft adM_given adM_low adM_high adM_packet adM_known cB cI cL sM_18) := hD
  have hG : g_M_longFlaw_c18 N v1 sM_18 = some a := hG
  unfold g_M_longFlaw_c18 at hG
  refine lv_aload_n hx hb d_M_longFlaw_21 rfl (lv_at hl 1 rfl) ?_
  refine lv_iconst (v := (4 : Int32)) hx hb d_M_longFlaw_22 (by decide) ?_
  obtain ⟨a_23, hx_23, hG⟩ := zb hG
  have hr_23 := zrunV (p := p) (e := e) (below := below) (meth := meth) (As := [.int (4 : Int32)]) (rest := []) (st0 := [.int (4 : Int32), .ref adM]) (cells := 0) (slots := 0) X zz hP hD hS hA [0, 1, 2, 3, 4, 5, 6, 7, 8, 9] (by decide) rfl (c_M_take l dC dI cB cI cL H.size adM adM_tape adM_frameAt adM_field adM_draft adM_given adM_low adM_high adM_packet adM_known N sM_18 (4 : Int32) _ hx_23) zy_M_take zv_M_take (hts (.methodLink R_M 120 y_M_take) zin_M_120) hl rfl rfl d_M_longFlaw_23 (lv_room (Nat.le_of_ble_eq_true rfl)) rfl rfl ⟨Nat.le_trans (Nat.le_of_ble_eq_true rfl) hRf, Nat.le_trans (Nat.le_of_ble_eq_true rfl) hRl⟩ ⟨Nat.zero_le _, Nat.zero_le _⟩ 0 8 rfl rfl
  refine zcalll (wr := ([] : va_W)) hr_23 hP hD hS hA [0, 1, 2, 3, 4, 5, 6, 7, 8, 9] [] rfl rfl (by decide) (by decide) (fun r_23 u_23 H locs hw_23 hP hD hS => ?_)
  obtain ⟨sM_23, rfl⟩ : ∃ z, z = u_23 := ⟨_, rfl⟩
  subst hw_23
  have hP : va_P (dC, dI) zcl (zwM adM adM_tape adM_frameAt adM_field adM_draft adM_given adM_low adM_high adM_packet adM_known cB cI cL sM_23) H := hP
  have hD : va_D A (zwM adM adM_tape adM_frameAt adM_field adM_draft adM_given adM_low adM_high adM_packet adM_known cB cI cL sM_23) := hD
  have hG : g_M_longFlaw_c23 N v1 sM_23 r_23 = some a := hG
  unfold g_M_longFlaw_c23 at hG
  refine lv_lstore_n (lv' := [(3, .long r_23), (2, .int ((v1 >>> ((4 : Int32) &&& 31)) &&& (3 : Int32))), (0, .ref adM), (1, .int v1)]) hx hb d_M_longFlaw_26 rfl hl (by decide) rfl (fun ls hl => ?_)
  refine lv_aload_n hx hb d_M_longFlaw_27 rfl (lv_at hl 2 rfl) ?_
  refine va_get (D := (dC, dI)) (ci := 8) (v := .int (zM_over sM_23)) (C := R_M) (T := F_M) (N := 26) hx hb hts zi_M hown zz.1 hP 0 rfl rfl 15 (by decide) (hts (.fieldLink R_M 116 "WireCodecModel" "over" "Z") zin_M_116) (fun _ h9 => h9) rfl d_M_longFlaw_28 ?_
  refine lv_if_ne (tgt := 45) hx hb d_M_longFlaw_31 (by decide) (fun hc => ?_) (fun hc => ?_)
  · have hG := zf hG hc
    exact k_M_longFlaw_45 X hA zz N sM_23 _ hG adM adM_tape adM_frameAt adM_field adM_draft adM_given adM_low adM_high adM_packet adM_known _ _ hP hD hS _ (lv_sub hl [] rfl)
  · have hG := zt hG hc
    refine lv_aload_n hx hb d_M_longFlaw_34 rfl (lv_at hl 2 rfl) ?_
    refine va_get (D := (dC, dI)) (ci := 8) (v := .int (zM_at sM_23)) (C := R_M) (T := F_M) (N := 26) hx hb hts zi_M hown zz.1 hP 0 rfl rfl 14 (by decide) (hts (.fieldLink R_M 110 "WireCodecModel" "at" "I") zin_M_110) (fun _ h9 => h9) rfl d_M_longFlaw_35 ?_
    refine lv_aload_n hx hb d_M_longFlaw_38 rfl (lv_at hl 2 rfl) ?_
    refine va_get (D := (dC, dI)) (ci := 8) (v := .int (zM_end sM_23)) (C := R_M) (T := F_M) (N := 26) hx hb hts zi_M hown zz.1 hP 0 rfl rfl 16 (by decide) (hts (.fieldLink R_M 113 "WireCodecModel" "end" "I") zin_M_113) (fun _ h9 => h9) rfl d_M_longFlaw_39 ?_
    refine lv_icmp_ne (tgt := 47) hx hb d_M_longFlaw_42 (by decide) (fun hc => ?_) (fun hc => ?_)
    · have hG := zf hG hc
      refine lv_lload_n hx hb d_M_longFlaw_47 rfl (lv_at hl 0 rfl) ?_
      refine lv_lconst (v := (1 : Int64)) hx hb d_M_longFlaw_48 (by decide) ?_
      refine W.lcmp hx hb d_M_longFlaw_49 ?_
      refine lv_if_eq (tgt := 55) hx hb d_M_longFlaw_50 (by decide) (fun hc => ?_) (fun hc => ?_)
      · have hG := zt hG hc
        refine lv_aload_n hx hb d_M_longFlaw_55 rfl (lv_at hl 2 rfl) ?_
        refine lv_iconst (v := (2 : Int32)) hx hb d_M_longFlaw_56 (by decide) ?_
        refine lv_iconst (v := (1 : Int32)) hx hb d_M_longFlaw_57 (by decide) ?_
        obtain ⟨a_58, hx_58, hG⟩ := zb hG
        have hr_58 := zrunV (p := p) (e := e) (below := below) (meth := meth) (As := [.int (2 : Int32), .int (1 : Int32)]) (rest := []) (st0 := [.int (1 : Int32), .int (2 : Int32), .ref adM]) (cells := 0) (slots := 0) X zz hP hD hS hA [0, 1, 2, 3, 4, 5, 6, 7, 8, 9] (by decide) rfl (c_M_note l dC dI cB cI cL H.size adM adM_tape adM_frameAt adM_field adM_draft adM_given adM_low adM_high adM_packet adM_known sM_23 (2 : Int32) (1 : Int32) _ hx_58) zy_M_note zv_M_note (hts (.methodLink R_M 245 y_M_note) zin_M_245) hl rfl rfl d_M_longFlaw_58 (lv_room (Nat.le_of_ble_eq_true rfl)) rfl rfl ⟨Nat.le_trans (Nat.le_of_ble_eq_true rfl) hRf, Nat.le_trans (Nat.le_of_ble_eq_true rfl) hRl⟩ ⟨Nat.zero_le _, Nat.zero_le _⟩ 0 8 rfl rfl
        refine zcallv (wr := ([] : va_W)) hr_58 hP hD hS hA [0, 1, 2, 3, 4, 5, 6, 7, 8, 9] [] rfl rfl (by decide) (by decide) (fun u_58 H locs hw_58 hP hD hS => ?_)
        obtain ⟨sM_58, rfl⟩ : ∃ z, z = u_58 := ⟨_, rfl⟩
        subst hw_58
        have hP : va_P (dC, dI) zcl (zwM adM adM_tape adM_frameAt adM_field adM_draft adM_given adM_low adM_high adM_packet adM_known cB cI cL sM_58) H := hP
        have hD : va_D A (zwM adM adM_tape adM_frameAt adM_field adM_draft adM_given adM_low adM_high adM_packet adM_known cB cI cL sM_58) := hD
        have hG : g_M_longFlaw_c58 N v1 sM_58 = some a := hG
        unfold g_M_longFlaw_c58 at hG
        refine lv_aload_n hx hb d_M_longFlaw_61 rfl (lv_at hl 2 rfl) ?_
        refine lv_bipush (v := (6 : Int32)) hx hb d_M_longFlaw_62 (by decide) ?_
        obtain ⟨a_64, hx_64, hG⟩ := zb hG
        have hr_64 := zrunV (p := p) (e := e) (below := below) (meth := meth) (As := [.int (6 : Int32)]) (rest := []) (st0 := [.int (6 : Int32), .ref adM]) (cells := 0) (slots := 0) X zz hP hD hS hA [0, 1, 2, 3, 4, 5, 6, 7, 8, 9] (by decide) rfl (c_M_takeConnection l dC dI cB cI cL H.size adM adM_tape adM_frameAt adM_field adM_draft adM_given adM_low adM_high adM_packet adM_known N sM_58 (6 : Int32) _ hx_64) zy_M_takeConnection zv_M_takeConnection (hts (.methodLink R_M 256 y_M_takeConnection) zin_M_256) hl rfl rfl d_M_longFlaw_64 (lv_room (Nat.le_of_ble_eq_true rfl)) rfl rfl ⟨Nat.le_trans (Nat.le_of_ble_eq_true rfl) hRf, Nat.le_trans (Nat.le_of_ble_eq_true rfl) hRl⟩ ⟨Nat.zero_le _, Nat.zero_le _⟩ 0 8 rfl rfl
        refine zcalli (wr := ([] : va_W)) hr_64 hP hD hS hA [0, 1, 2, 3, 4, 5, 6, 7, 8, 9] [] rfl rfl (by decide) (by decide) (fun r_64 u_64 H locs hw_64 hP hD hS => ?_)
        obtain ⟨sM_64, rfl⟩ : ∃ z, z = u_64 := ⟨_, rfl⟩
        subst hw_64
        have hP : va_P (dC, dI) zcl (zwM adM adM_tape adM_frameAt adM_field adM_draft adM_given adM_low adM_high adM_packet adM_known cB cI cL sM_64) H := hP
        have hD : va_D A (zwM adM adM_tape adM_frameAt adM_field adM_draft adM_given adM_low adM_high adM_packet adM_known cB cI cL sM_64) := hD
        have hG : g_M_longFlaw_c64 N v1 sM_64 r_64 = some a := hG
        unfold g_M_longFlaw_c64 at hG
        refine lv_istore (lv' := [(5, .int r_64), (3, .long r_23), (2, .int ((v1 >>> ((4 : Int32) &&& 31)) &&& (3 : Int32))), (0, .ref adM), (1, .int v1)]) hx hb d_M_longFlaw_67 hl (by decide) rfl (fun ls hl => ?_)
        refine lv_iload hx hb d_M_longFlaw_69 (lv_at hl 0 rfl) ?_
        refine lv_if_ne (tgt := 82) hx hb d_M_longFlaw_71 (by decide) (fun hc => ?_) (fun hc => ?_)
        · have hG := zf hG hc
          exact k_M_longFlaw_82 X hA zz N sM_64 ((v1 >>> ((4 : Int32) &&& 31)) &&& (3 : Int32)) r_64 _ hG adM adM_tape adM_frameAt adM_field adM_draft adM_given adM_low adM_high adM_packet adM_known _ _ hP hD hS _ (lv_sub hl [3, 2, 0] rfl)
        · have hG := zt hG hc
          refine lv_aload_n hx hb d_M_longFlaw_74 rfl (lv_at hl 3 rfl) ?_
          refine lv_bipush (v := (8 : Int32)) hx hb d_M_longFlaw_75 (by decide) ?_
          obtain ⟨a_77, hx_77, hG⟩ := zb hG
          have hr_77 := zrunV (p := p) (e := e) (below := below) (meth := meth) (As := [.int (8 : Int32)]) (rest := []) (st0 := [.int (8 : Int32), .ref adM]) (cells := 0) (slots := 0) X zz hP hD hS hA [0, 1, 2, 3, 4, 5, 6, 7, 8, 9] (by decide) rfl (c_M_takeConnection l dC dI cB cI cL H.size adM adM_tape adM_frameAt adM_field adM_draft adM_given adM_low adM_high adM_packet adM_known N sM_64 (8 : Int32) _ hx_77) zy_M_takeConnection zv_M_takeConnection (hts (.methodLink R_M 256 y_M_takeConnection) zin_M_256) hl rfl rfl d_M_longFlaw_77 (lv_room (Nat.le_of_ble_eq_true rfl)) rfl rfl ⟨Nat.le_trans (Nat.le_of_ble_eq_true rfl) hRf, Nat.le_trans (Nat.le_of_ble_eq_true rfl) hRl⟩ ⟨Nat.zero_le _, Nat.zero_le _⟩ 0 8 rfl rfl
          refine zcalli (wr := ([] : va_W)) hr_77 hP hD hS hA [0, 1, 2, 3, 4, 5, 6, 7, 8, 9] [] rfl rfl (by decide) (by decide) (fun r_77 u_77 H locs hw_77 hP hD hS => ?_)
          obtain ⟨sM_77, rfl⟩ : ∃ z, z = u_77 := ⟨_, rfl⟩
          subst hw_77
          have hP : va_P (dC, dI) zcl (zwM adM adM_tape adM_frameAt adM_field adM_draft adM_given adM_low adM_high adM_packet adM_known cB cI cL sM_77) H := hP
          have hD : va_D A (zwM adM adM_tape adM_frameAt adM_field adM_draft adM_given adM_low adM_high adM_packet adM_known cB cI cL sM_77) := hD
          have hG : g_M_longFlaw_c77 N v1 sM_77 r_77 = some a := hG
          unfold g_M_longFlaw_c77 at hG
          refine lv_istore (lv' := [(5, .int r_77), (3, .long r_23), (2, .int ((v1 >>> ((4 : Int32) &&& 31)) &&& (3 : Int32))), (0, .ref adM), (1, .int v1)]) hx hb d_M_longFlaw_80 hl (by decide) rfl (fun ls hl => ?_)
          exact k_M_longFlaw_82 X hA zz N sM_77 ((v1 >>> ((4 : Int32) &&& 31)) &&& (3 : Int32)) r_77 _ hG adM adM_tape adM_frameAt adM_field adM_draft adM_given adM_low adM_high adM_packet adM_known _ _ hP hD hS _ (lv_sub hl [3, 2, 0] rfl)
      · have hG := zf hG hc
        refine lv_iconst (v := (3 : Int32)) hx hb d_M_longFlaw_53 (by decide) ?_
        exact W.iret (v := (3 : Int32)) hx hb hr (fun t9 ht9 hW9 => ⟨⟨(3 : Int32), (sM_23), rfl, Option.some.inj hG, by rw [ht9]; exact hP, hD⟩, hS.F ht9⟩) hS.2.2 d_M_longFlaw_54
    · have hG := zt hG hc
      exact k_M_longFlaw_45 X hA zz N sM_23 _ hG adM adM_tape adM_frameAt adM_field adM_draft adM_given adM_low adM_high adM_packet adM_known _ _ hP hD hS _ (lv_sub hl [] rfl)
set_option maxRecDepth 100000 in
set_option maxHeartbeats 4000000 in
theorem c_M_longFlaw (l : Launch) (dC : Nat → ClassId) (dI : Nat → Nat → Nat) (cB cI cL : ClassId) (sz : Nat) (adM adM_tape adM_frameAt adM_field adM_draft adM_given adM_low adM_high adM_packet adM_known : Nat) (N : Nat) (sM : zM) (v1 : Int32) (a : Int32 × zM) (hG : g_M_longFlaw N sM v1 = some a) : Met l y_M_longFlaw (zw y_M_longFlaw b_M_longFlaw 8 (some .int)) ({ frames := 3, cells := 0, slots := 0, locals := 68 }) (va_Pc [.ref adM, .int v1] (zpre dC dI cB cI cL sz (zwM adM adM_tape adM_frameAt adM_field adM_draft adM_given adM_low adM_high adM_packet adM_known cB cI cL sM))) (q_M_longFlaw dC dI cB cI cL (va_A (zwM adM adM_tape adM_frameAt adM_field adM_draft adM_given adM_low adM_high adM_packet adM_known cB cI cL sM) sz) adM adM_tape adM_frameAt adM_field adM_draft adM_given adM_low adM_high adM_packet adM_known a) 0 0 (va_A (zwM adM adM_tape adM_frameAt adM_field adM_draft adM_given adM_low adM_high adM_packet adM_known cB cI cL sM) sz) := by
  refine Met.ofW (cc := b_M_longFlaw) (maxL := 8) (ret := (some .int)) (by decide) rfl ?_
  intro p e s m args below meth c s₁ B hml hv
  obtain ⟨rfl, hsz, hP, zz, hD0⟩ := hv
  subst hsz
  have X := zx_of (F := 3) (L := 68) B hml (Nat.le_refl _) (Nat.le_refl _)
  have hD := hD0.self (sz := s.heap.size)
  have hA : ∀ q : Nat, s.heap.size ≤ q → va_A (zwM adM adM_tape adM_frameAt adM_field adM_draft adM_given adM_low adM_high adM_packet adM_known cB cI cL sM) s.heap.size q := fun q h => Or.inr h
  have hl := lv_entry ([.ref adM, .int v1]) (n := 8) (Nat.le_of_ble_eq_true rfl)
  rw [lg_entry_eq]
  generalize (lg_sl ([.ref adM, .int v1]) ++ List.replicate (8 - (lg_sl ([.ref adM, .int v1])).length) Slot.unset).toArray = ls at hl ⊢
  exact k_M_longFlaw_0 X hA zz N sM v1 a hG adM adM_tape adM_frameAt adM_field adM_draft adM_given adM_low adM_high adM_packet adM_known _ _ hP hD va_S.rf ls hl
noncomputable def g_M_isSame_95 (N : Nat) (sM : zM) (v2 : Int32) : Option (Int32) := zg (narrow .boolean (.int v2) = .int v2) (some (v2))
noncomputable def g_M_isSame_88 (N : Nat) (kr : zM → Int32 → Int32 → Int32 → Option (Int32)) (sM : zM) (v1 : Int32) (v3 : Int32) (s0 : Int32) : Option (Int32) := kr sM v1 s0 (v3 + 1)
noncomputable def g_M_isSame_35_b (N : Nat) (kr : zM → Int32 → Int32 → Int32 → Option (Int32)) (sM : zM) (v1 : Int32) (v2 : Int32) (v3 : Int32) : Option (Int32) := zg (vp_in (7 : Int32) 49152) (if ((zM_packet sM) (7 : Int32).toNatClampNeg) ≤ v3 then (g_M_isSame_95 N sM v2) else (if v2 = (0 : Int32) then (g_M_isSame_95 N sM v2) else (zg (vp_in (v1 + (6 : Int32)) 49152) (zg (vp_in (((zM_packet sM) (v1 + (6 : Int32)).toNatClampNeg) + v3) 65536) (zg (vp_in (6 : Int32) 49152) (zg (vp_in (((zM_packet sM) (6 : Int32).toNatClampNeg) + v3) 65536) (if ((zM_tape sM) (((zM_packet sM) (v1 + (6 : Int32)).toNatClampNeg) + v3).toNatClampNeg) = ((zM_tape sM) (((zM_packet sM) (6 : Int32).toNatClampNeg) + v3).toNatClampNeg) then (g_M_isSame_88 N kr sM v1 v3 (1 : Int32)) else (g_M_isSame_88 N kr sM v1 v3 (0 : Int32)))))))))
noncomputable def g_M_isSame_35 (N : Nat) : Nat → zM → Int32 → Int32 → Int32 → Option (Int32)
  | 0 => fun _ _ _ _ => none
  | k + 1 => fun sM v1 v2 v3 => g_M_isSame_35_b N (g_M_isSame_35 N k) sM v1 v2 v3
noncomputable def g_M_isSame_32 (N : Nat) (sM : zM) (v1 : Int32) (s0 : Int32) : Option (Int32) := g_M_isSame_35 N N sM v1 s0 (0 : Int32)
noncomputable def g_M_isSame (N : Nat) (sM : zM) : Option (Int32) := zg (vp_in (((12 : Int32) * (zM_packets sM)) + (7 : Int32)) 49152) (zg (vp_in (7 : Int32) 49152) (if ((zM_packet sM) (((12 : Int32) * (zM_packets sM)) + (7 : Int32)).toNatClampNeg) = ((zM_packet sM) (7 : Int32).toNatClampNeg) then (g_M_isSame_32 N sM ((12 : Int32) * (zM_packets sM)) (1 : Int32)) else (g_M_isSame_32 N sM ((12 : Int32) * (zM_packets sM)) (0 : Int32))))
def q_M_isSame (dC : Nat → ClassId) (dI : Nat → Nat → Nat) (cB cI cL : ClassId) (A : Nat → Prop) (adM : Nat) (adM_tape : Nat) (adM_frameAt : Nat) (adM_field : Nat) (adM_draft : Nat) (adM_given : Nat) (adM_low : Nat) (adM_high : Nat) (adM_packet : Nat) (adM_known : Nat) (sM : zM) (a : Int32) : Array Value → State → Outcome → State → Prop := va_Qi (fun (r : Int32) (u : Unit) => (r) = a) (fun u U => va_P (dC, dI) zcl (zwM adM adM_tape adM_frameAt adM_field adM_draft adM_given adM_low adM_high adM_packet adM_known cB cI cL sM) U.heap ∧ va_D A (zwM adM adM_tape adM_frameAt adM_field adM_draft adM_given adM_low adM_high adM_packet adM_known cB cI cL sM)) A
set_option maxRecDepth 100000 in
set_option maxHeartbeats 4000000 in
theorem k_M_isSame_95 {p : Program} {l : Launch} {e : Env} {R : Room} {s : State} {m : MethodId} {args : Array Value} {below : List Frame} {meth : Method} {c : Code} {dC : Nat → ClassId} {dI : Nat → Nat → Nat} {cB cI cL : ClassId} {A : Nat → Prop} (X : zx p s m args meth c R R_M b_M_isSame (some .boolean) 4 0 0) (hA : ∀ q, s.heap.size ≤ q → A q) (zz : zk dC dI cB cI cL A s)  (N : Nat) (sM : zM) (v2 : Int32) (a : Int32) (hG : g_M_isSame_95 N sM v2 = some a) (adM adM_tape adM_frameAt adM_field adM_draft adM_given adM_low adM_high adM_packet adM_known : Nat) (H : Heap) (locs : List Loc) (hP : va_P (dC, dI) zcl (zwM adM adM_tape adM_frameAt adM_field adM_draft adM_given adM_low adM_high adM_packet adM_known cB cI cL sM) H) (hD : va_D A (zwM adM adM_tape adM_frameAt adM_field adM_draft adM_given adM_low adM_high adM_packet adM_known cB cI cL sM)) (hS : va_S A s.heap H locs) (ls : Array Slot) (hl : lv_has ls 4 [(2, .int v2)]) : W p l e R s m args below meth c H locs 0 0 (MQ below (q_M_isSame dC dI cB cI cL A adM adM_tape adM_frameAt adM_field adM_draft adM_given adM_low adM_high adM_packet adM_known sM a) args s 0 0 A) (F0 m 95 ls []) := by
  obtain ⟨hx, hb, hr, hml, hown, hts, hlocks, hRf, hRl⟩ := id X
  unfold g_M_isSame_95 at hG
  refine lv_iload_n hx hb d_M_isSame_95 rfl (lv_at hl 0 rfl) ?_
  obtain ⟨hnb, hG⟩ := zgd hG
  exact W.zret (v := v2) hx hb hr hnb (fun t9 ht9 hW9 => ⟨⟨v2, (), rfl, Option.some.inj hG, by rw [ht9]; exact hP, hD⟩, hS.F ht9⟩) hS.2.2 d_M_isSame_96
set_option maxRecDepth 100000 in
set_option maxHeartbeats 4000000 in
theorem k_M_isSame_88 {p : Program} {l : Launch} {e : Env} {R : Room} {s : State} {m : MethodId} {args : Array Value} {below : List Frame} {meth : Method} {c : Code} {dC : Nat → ClassId} {dI : Nat → Nat → Nat} {cB cI cL : ClassId} {A : Nat → Prop} (kr : zM → Int32 → Int32 → Int32 → Option (Int32)) (hrec : ∀ (sM : zM) (v1 : Int32) (v2 : Int32) (v3 : Int32) (a : Int32), kr sM v1 v2 v3 = some a → ∀ (adM adM_tape adM_frameAt adM_field adM_draft adM_given adM_low adM_high adM_packet adM_known : Nat) (H : Heap) (locs : List Loc), va_P (dC, dI) zcl (zwM adM adM_tape adM_frameAt adM_field adM_draft adM_given adM_low adM_high adM_packet adM_known cB cI cL sM) H → va_D A (zwM adM adM_tape adM_frameAt adM_field adM_draft adM_given adM_low adM_high adM_packet adM_known cB cI cL sM) → va_S A s.heap H locs → ∀ ls : Array Slot, lv_has ls 4 [(0, .ref adM), (1, .int v1), (2, .int v2), (3, .int v3)] → W p l e R s m args below meth c H locs 0 0 (MQ below (q_M_isSame dC dI cB cI cL A adM adM_tape adM_frameAt adM_field adM_draft adM_given adM_low adM_high adM_packet adM_known sM a) args s 0 0 A) (F0 m 35 ls [])) (X : zx p s m args meth c R R_M b_M_isSame (some .boolean) 4 0 0) (hA : ∀ q, s.heap.size ≤ q → A q) (zz : zk dC dI cB cI cL A s)  (N : Nat) (sM : zM) (v1 : Int32) (v3 : Int32) (s0 : Int32) (a : Int32) (hG : g_M_isSame_88 N kr sM v1 v3 s0 = some a) (adM adM_tape adM_frameAt adM_field adM_draft adM_given adM_low adM_high adM_packet adM_known : Nat) (H : Heap) (locs : List Loc) (hP : va_P (dC, dI) zcl (zwM adM adM_tape adM_frameAt adM_field adM_draft adM_given adM_low adM_high adM_packet adM_known cB cI cL sM) H) (hD : va_D A (zwM adM adM_tape adM_frameAt adM_field adM_draft adM_given adM_low adM_high adM_packet adM_known cB cI cL sM)) (hS : va_S A s.heap H locs) (ls : Array Slot) (hl : lv_has ls 4 [(0, .ref adM), (1, .int v1), (3, .int v3)]) : W p l e R s m args below meth c H locs 0 0 (MQ below (q_M_isSame dC dI cB cI cL A adM adM_tape adM_frameAt adM_field adM_draft adM_given adM_low adM_high adM_packet adM_known sM a) args s 0 0 A) (F0 m 88 ls [.int s0]) := by
  obtain ⟨hx, hb, hr, hml, hown, hts, hlocks, hRf, hRl⟩ := id X
  unfold g_M_isSame_88 at hG
  refine lv_istore_n (lv' := [(2, .int s0), (0, .ref adM), (1, .int v1), (3, .int v3)]) hx hb d_M_isSame_88 rfl hl (by decide) rfl (fun ls hl => ?_)
  refine lv_iinc (v := v3 + 1) (lv' := [(3, .int (v3 + 1)), (2, .int s0), (0, .ref adM), (1, .int v1)]) hx hb d_M_isSame_89 hl (k := 3) rfl rfl (by decide) rfl (fun ls hl => ?_)
  refine lv_goto (tgt := 35) hx hb d_M_isSame_92 (by decide) ?_
  exact hrec sM v1 s0 (v3 + 1) _ hG adM adM_tape adM_frameAt adM_field adM_draft adM_given adM_low adM_high adM_packet adM_known _ _ hP hD hS _ (lv_sub hl [2, 3, 1, 0] rfl)
set_option maxRecDepth 100000 in
set_option maxHeartbeats 4000000 in
theorem k_M_isSame_35_b {p : Program} {l : Launch} {e : Env} {R : Room} {s : State} {m : MethodId} {args : Array Value} {below : List Frame} {meth : Method} {c : Code} {dC : Nat → ClassId} {dI : Nat → Nat → Nat} {cB cI cL : ClassId} {A : Nat → Prop} (kr : zM → Int32 → Int32 → Int32 → Option (Int32)) (hrec : ∀ (sM : zM) (v1 : Int32) (v2 : Int32) (v3 : Int32) (a : Int32), kr sM v1 v2 v3 = some a → ∀ (adM adM_tape adM_frameAt adM_field adM_draft adM_given adM_low adM_high adM_packet adM_known : Nat) (H : Heap) (locs : List Loc), va_P (dC, dI) zcl (zwM adM adM_tape adM_frameAt adM_field adM_draft adM_given adM_low adM_high adM_packet adM_known cB cI cL sM) H → va_D A (zwM adM adM_tape adM_frameAt adM_field adM_draft adM_given adM_low adM_high adM_packet adM_known cB cI cL sM) → va_S A s.heap H locs → ∀ ls : Array Slot, lv_has ls 4 [(0, .ref adM), (1, .int v1), (2, .int v2), (3, .int v3)] → W p l e R s m args below meth c H locs 0 0 (MQ below (q_M_isSame dC dI cB cI cL A adM adM_tape adM_frameAt adM_field adM_draft adM_given adM_low adM_high adM_packet adM_known sM a) args s 0 0 A) (F0 m 35 ls [])) (X : zx p s m args meth c R R_M b_M_isSame (some .boolean) 4 0 0) (hA : ∀ q, s.heap.size ≤ q → A q) (zz : zk dC dI cB cI cL A s)  (N : Nat) (sM : zM) (v1 : Int32) (v2 : Int32) (v3 : Int32) (a : Int32) (hG : g_M_isSame_35_b N kr sM v1 v2 v3 = some a) (adM adM_tape adM_frameAt adM_field adM_draft adM_given adM_low adM_high adM_packet adM_known : Nat) (H : Heap) (locs : List Loc) (hP : va_P (dC, dI) zcl (zwM adM adM_tape adM_frameAt adM_field adM_draft adM_given adM_low adM_high adM_packet adM_known cB cI cL sM) H) (hD : va_D A (zwM adM adM_tape adM_frameAt adM_field adM_draft adM_given adM_low adM_high adM_packet adM_known cB cI cL sM)) (hS : va_S A s.heap H locs) (ls : Array Slot) (hl : lv_has ls 4 [(0, .ref adM), (1, .int v1), (2, .int v2), (3, .int v3)]) : W p l e R s m args below meth c H locs 0 0 (MQ below (q_M_isSame dC dI cB cI cL A adM adM_tape adM_frameAt adM_field adM_draft adM_given adM_low adM_high adM_packet adM_known sM a) args s 0 0 A) (F0 m 35 ls []) := by
  obtain ⟨hx, hb, hr, hml, hown, hts, hlocks, hRf, hRl⟩ := id X
  unfold g_M_isSame_35_b at hG
  refine lv_iload_n hx hb d_M_isSame_35 rfl (lv_at hl 3 rfl) ?_
  refine lv_aload_n hx hb d_M_isSame_36 rfl (lv_at hl 0 rfl) ?_
  refine va_get (D := (dC, dI)) (ci := 8) (v := .ref adM_packet) (C := R_M) (T := F_M) (N := 26) hx hb hts zi_M hown zz.1 hP 0 rfl rfl 24 (by decide) (hts (.fieldLink R_M 39 "WireCodecModel" "packet" "[I") zin_M_39) (fun _ h9 => h9) rfl d_M_isSame_37 ?_
  refine lv_bipush (v := (7 : Int32)) hx hb d_M_isSame_40 (by decide) ?_
  obtain ⟨hin, hG⟩ := zgd hG
  refine va_iald hx hb zz.1 hP 8 1 rfl rfl hin d_M_isSame_42 ?_
  refine lv_icmp_ge (tgt := 95) hx hb d_M_isSame_43 (by decide) (fun hc => ?_) (fun hc => ?_)
  · have hG := zt hG hc
    exact k_M_isSame_95 X hA zz N sM v2 _ hG adM adM_tape adM_frameAt adM_field adM_draft adM_given adM_low adM_high adM_packet adM_known _ _ hP hD hS _ (lv_sub hl [2] rfl)
  · have hG := zf hG hc
    refine lv_iload_n hx hb d_M_isSame_46 rfl (lv_at hl 2 rfl) ?_
    refine lv_if_eq (tgt := 95) hx hb d_M_isSame_47 (by decide) (fun hc => ?_) (fun hc => ?_)
    · have hG := zt hG hc
      exact k_M_isSame_95 X hA zz N sM v2 _ hG adM adM_tape adM_frameAt adM_field adM_draft adM_given adM_low adM_high adM_packet adM_known _ _ hP hD hS _ (lv_sub hl [2] rfl)
    · have hG := zf hG hc
      refine lv_aload_n hx hb d_M_isSame_50 rfl (lv_at hl 0 rfl) ?_
      refine va_get (D := (dC, dI)) (ci := 8) (v := .ref adM_tape) (C := R_M) (T := F_M) (N := 26) hx hb hts zi_M hown zz.1 hP 0 rfl rfl 1 (by decide) (hts (.fieldLink R_M 8 "WireCodecModel" "tape" "[B") zin_M_8) (fun _ h9 => h9) rfl d_M_isSame_51 ?_
      refine lv_aload_n hx hb d_M_isSame_54 rfl (lv_at hl 0 rfl) ?_
      refine va_get (D := (dC, dI)) (ci := 8) (v := .ref adM_packet) (C := R_M) (T := F_M) (N := 26) hx hb hts zi_M hown zz.1 hP 0 rfl rfl 24 (by decide) (hts (.fieldLink R_M 39 "WireCodecModel" "packet" "[I") zin_M_39) (fun _ h9 => h9) rfl d_M_isSame_55 ?_
      refine lv_iload_n hx hb d_M_isSame_58 rfl (lv_at hl 1 rfl) ?_
      refine lv_bipush (v := (6 : Int32)) hx hb d_M_isSame_59 (by decide) ?_
      refine lv_iadd hx hb d_M_isSame_61 ?_
      obtain ⟨hin, hG⟩ := zgd hG
      refine va_iald hx hb zz.1 hP 8 1 rfl rfl hin d_M_isSame_62 ?_
      refine lv_iload_n hx hb d_M_isSame_63 rfl (lv_at hl 3 rfl) ?_
      refine lv_iadd hx hb d_M_isSame_64 ?_
      obtain ⟨hin, hG⟩ := zgd hG
      refine va_bald hx hb zz.1 hP 1 0 rfl rfl hin d_M_isSame_65 ?_
      refine lv_aload_n hx hb d_M_isSame_66 rfl (lv_at hl 0 rfl) ?_
      refine va_get (D := (dC, dI)) (ci := 8) (v := .ref adM_tape) (C := R_M) (T := F_M) (N := 26) hx hb hts zi_M hown zz.1 hP 0 rfl rfl 1 (by decide) (hts (.fieldLink R_M 8 "WireCodecModel" "tape" "[B") zin_M_8) (fun _ h9 => h9) rfl d_M_isSame_67 ?_
      refine lv_aload_n hx hb d_M_isSame_70 rfl (lv_at hl 0 rfl) ?_
      refine va_get (D := (dC, dI)) (ci := 8) (v := .ref adM_packet) (C := R_M) (T := F_M) (N := 26) hx hb hts zi_M hown zz.1 hP 0 rfl rfl 24 (by decide) (hts (.fieldLink R_M 39 "WireCodecModel" "packet" "[I") zin_M_39) (fun _ h9 => h9) rfl d_M_isSame_71 ?_
      refine lv_bipush (v := (6 : Int32)) hx hb d_M_isSame_74 (by decide) ?_
      obtain ⟨hin, hG⟩ := zgd hG
      refine va_iald hx hb zz.1 hP 8 1 rfl rfl hin d_M_isSame_76 ?_
      refine lv_iload_n hx hb d_M_isSame_77 rfl (lv_at hl 3 rfl) ?_
      refine lv_iadd hx hb d_M_isSame_78 ?_
      obtain ⟨hin, hG⟩ := zgd hG
      refine va_bald hx hb zz.1 hP 1 0 rfl rfl hin d_M_isSame_79 ?_
      refine lv_icmp_ne (tgt := 87) hx hb d_M_isSame_80 (by decide) (fun hc => ?_) (fun hc => ?_)
      · have hG := zf hG hc
        refine lv_iconst (v := (0 : Int32)) hx hb d_M_isSame_87 (by decide) ?_
        exact k_M_isSame_88 kr hrec X hA zz N sM v1 v3 (0 : Int32) _ hG adM adM_tape adM_frameAt adM_field adM_draft adM_given adM_low adM_high adM_packet adM_known _ _ hP hD hS _ (lv_sub hl [0, 1, 3] rfl)
      · have hG := zt hG hc
        refine lv_iconst (v := (1 : Int32)) hx hb d_M_isSame_83 (by decide) ?_
        refine lv_goto (tgt := 88) hx hb d_M_isSame_84 (by decide) ?_
        exact k_M_isSame_88 kr hrec X hA zz N sM v1 v3 (1 : Int32) _ hG adM adM_tape adM_frameAt adM_field adM_draft adM_given adM_low adM_high adM_packet adM_known _ _ hP hD hS _ (lv_sub hl [0, 1, 3] rfl)
theorem k_M_isSame_35 {p : Program} {l : Launch} {e : Env} {R : Room} {s : State} {m : MethodId} {args : Array Value} {below : List Frame} {meth : Method} {c : Code} {dC : Nat → ClassId} {dI : Nat → Nat → Nat} {cB cI cL : ClassId} {A : Nat → Prop} (X : zx p s m args meth c R R_M b_M_isSame (some .boolean) 4 0 0) (hA : ∀ q, s.heap.size ≤ q → A q) (zz : zk dC dI cB cI cL A s)  (N : Nat) : ∀ (k : Nat) (sM : zM) (v1 : Int32) (v2 : Int32) (v3 : Int32) (a : Int32) (hG : g_M_isSame_35 N k sM v1 v2 v3 = some a) (adM adM_tape adM_frameAt adM_field adM_draft adM_given adM_low adM_high adM_packet adM_known : Nat) (H : Heap) (locs : List Loc) (hP : va_P (dC, dI) zcl (zwM adM adM_tape adM_frameAt adM_field adM_draft adM_given adM_low adM_high adM_packet adM_known cB cI cL sM) H) (hD : va_D A (zwM adM adM_tape adM_frameAt adM_field adM_draft adM_given adM_low adM_high adM_packet adM_known cB cI cL sM)) (hS : va_S A s.heap H locs) (ls : Array Slot) (hl : lv_has ls 4 [(0, .ref adM), (1, .int v1), (2, .int v2), (3, .int v3)]), W p l e R s m args below meth c H locs 0 0 (MQ below (q_M_isSame dC dI cB cI cL A adM adM_tape adM_frameAt adM_field adM_draft adM_given adM_low adM_high adM_packet adM_known sM a) args s 0 0 A) (F0 m 35 ls []) := by
  intro k
  induction k with
  | zero => intro sM v1 v2 v3 a hG; exact absurd hG (by unfold g_M_isSame_35; simp)
  | succ k ih => intro sM v1 v2 v3 a hG adM adM_tape adM_frameAt adM_field adM_draft adM_given adM_low adM_high adM_packet adM_known H locs hP hD hS ls hl; exact k_M_isSame_35_b _ ih X hA zz N sM v1 v2 v3 a hG adM adM_tape adM_frameAt adM_field adM_draft adM_given adM_low adM_high adM_packet adM_known H locs hP hD hS ls hl
set_option maxRecDepth 100000 in
set_option maxHeartbeats 4000000 in
theorem k_M_isSame_32 {p : Program} {l : Launch} {e : Env} {R : Room} {s : State} {m : MethodId} {args : Array Value} {below : List Frame} {meth : Method} {c : Code} {dC : Nat → ClassId} {dI : Nat → Nat → Nat} {cB cI cL : ClassId} {A : Nat → Prop} (X : zx p s m args meth c R R_M b_M_isSame (some .boolean) 4 0 0) (hA : ∀ q, s.heap.size ≤ q → A q) (zz : zk dC dI cB cI cL A s)  (N : Nat) (sM : zM) (v1 : Int32) (s0 : Int32) (a : Int32) (hG : g_M_isSame_32 N sM v1 s0 = some a) (adM adM_tape adM_frameAt adM_field adM_draft adM_given adM_low adM_high adM_packet adM_known : Nat) (H : Heap) (locs : List Loc) (hP : va_P (dC, dI) zcl (zwM adM adM_tape adM_frameAt adM_field adM_draft adM_given adM_low adM_high adM_packet adM_known cB cI cL sM) H) (hD : va_D A (zwM adM adM_tape adM_frameAt adM_field adM_draft adM_given adM_low adM_high adM_packet adM_known cB cI cL sM)) (hS : va_S A s.heap H locs) (ls : Array Slot) (hl : lv_has ls 4 [(0, .ref adM), (1, .int v1)]) : W p l e R s m args below meth c H locs 0 0 (MQ below (q_M_isSame dC dI cB cI cL A adM adM_tape adM_frameAt adM_field adM_draft adM_given adM_low adM_high adM_packet adM_known sM a) args s 0 0 A) (F0 m 32 ls [.int s0]) := by
  obtain ⟨hx, hb, hr, hml, hown, hts, hlocks, hRf, hRl⟩ := id X
  unfold g_M_isSame_32 at hG
  refine lv_istore_n (lv' := [(2, .int s0), (0, .ref adM), (1, .int v1)]) hx hb d_M_isSame_32 rfl hl (by decide) rfl (fun ls hl => ?_)
  refine lv_iconst (v := (0 : Int32)) hx hb d_M_isSame_33 (by decide) ?_
  refine lv_istore_n (lv' := [(3, .int (0 : Int32)), (2, .int s0), (0, .ref adM), (1, .int v1)]) hx hb d_M_isSame_34 rfl hl (by decide) rfl (fun ls hl => ?_)
  exact k_M_isSame_35 X hA zz N N sM v1 s0 (0 : Int32) _ hG adM adM_tape adM_frameAt adM_field adM_draft adM_given adM_low adM_high adM_packet adM_known _ _ hP hD hS _ (lv_sub hl [2, 3, 1, 0] rfl)
set_option maxRecDepth 100000 in
set_option maxHeartbeats 4000000 in
theorem k_M_isSame_0 {p : Program} {l : Launch} {e : Env} {R : Room} {s : State} {m : MethodId} {args : Array Value} {below : List Frame} {meth : Method} {c : Code} {dC : Nat → ClassId} {dI : Nat → Nat → Nat} {cB cI cL : ClassId} {A : Nat → Prop} (X : zx p s m args meth c R R_M b_M_isSame (some .boolean) 4 0 0) (hA : ∀ q, s.heap.size ≤ q → A q) (zz : zk dC dI cB cI cL A s)  (N : Nat) (sM : zM) (a : Int32) (hG : g_M_isSame N sM = some a) (adM adM_tape adM_frameAt adM_field adM_draft adM_given adM_low adM_high adM_packet adM_known : Nat) (H : Heap) (locs : List Loc) (hP : va_P (dC, dI) zcl (zwM adM adM_tape adM_frameAt adM_field adM_draft adM_given adM_low adM_high adM_packet adM_known cB cI cL sM) H) (hD : va_D A (zwM adM adM_tape adM_frameAt adM_field adM_draft adM_given adM_low adM_high adM_packet adM_known cB cI cL sM)) (hS : va_S A s.heap H locs) (ls : Array Slot) (hl : lv_has ls 4 [(0, .ref adM)]) : W p l e R s m args below meth c H locs 0 0 (MQ below (q_M_isSame dC dI cB cI cL A adM adM_tape adM_frameAt adM_field adM_draft adM_given adM_low adM_high adM_packet adM_known sM a) args s 0 0 A) (F0 m 0 ls []) := by
  obtain ⟨hx, hb, hr, hml, hown, hts, hlocks, hRf, hRl⟩ := id X
  unfold g_M_isSame at hG
  refine lv_bipush (v := (12 : Int32)) hx hb d_M_isSame_0 (by decide) ?_
  refine lv_aload_n hx hb d_M_isSame_2 rfl (lv_at hl 0 rfl) ?_
  refine va_get (D := (dC, dI)) (ci := 8) (v := .int (zM_packets sM)) (C := R_M) (T := F_M) (N := 26) hx hb hts zi_M hown zz.1 hP 0 rfl rfl 23 (by decide) (hts (.fieldLink R_M 97 "WireCodecModel" "packets" "I") zin_M_97) (fun _ h9 => h9) rfl d_M_isSame_3 ?_
  refine lv_imul hx hb d_M_isSame_6 ?_
  refine lv_istore_n (lv' := [(1, .int ((12 : Int32) * (zM_packets sM))), (0, .ref adM)]) hx hb d_M_isSame_7 rfl hl (by decide) rfl (fun ls hl => ?_)
  refine lv_aload_n hx hb d_M_isSame_8 rfl (lv_at hl 1 rfl) ?_
  refine va_get (D := (dC, dI)) (ci := 8) (v := .ref adM_packet) (C := R_M) (T := F_M) (N := 26) hx hb hts zi_M hown zz.1 hP 0 rfl rfl 24 (by decide) (hts (.fieldLink R_M 39 "WireCodecModel" "packet" "[I") zin_M_39) (fun _ h9 => h9) rfl d_M_isSame_9 ?_
  refine lv_iload_n hx hb d_M_isSame_12 rfl (lv_at hl 0 rfl) ?_
  refine lv_bipush (v := (7 : Int32)) hx hb d_M_isSame_13 (by decide) ?_
  refine lv_iadd hx hb d_M_isSame_15 ?_
  obtain ⟨hin, hG⟩ := zgd hG
  refine va_iald hx hb zz.1 hP 8 1 rfl rfl hin d_M_isSame_16 ?_
  refine lv_aload_n hx hb d_M_isSame_17 rfl (lv_at hl 1 rfl) ?_
  refine va_get (D := (dC, dI)) (ci := 8) (v := .ref adM_packet) (C := R_M) (T := F_M) (N := 26) hx hb hts zi_M hown zz.1 hP 0 rfl rfl 24 (by decide) (hts (.fieldLink R_M 39 "WireCodecModel" "packet" "[I") zin_M_39) (fun _ h9 => h9) rfl d_M_isSame_18 ?_
  refine lv_bipush (v := (7 : Int32)) hx hb d_M_isSame_21 (by decide) ?_
  obtain ⟨hin, hG⟩ := zgd hG
  refine va_iald hx hb zz.1 hP 8 1 rfl rfl hin d_M_isSame_23 ?_
  refine lv_icmp_ne (tgt := 31) hx hb d_M_isSame_24 (by decide) (fun hc => ?_) (fun hc => ?_)
  · have hG := zf hG hc
    refine lv_iconst (v := (0 : Int32)) hx hb d_M_isSame_31 (by decide) ?_
    exact k_M_isSame_32 X hA zz N sM ((12 : Int32) * (zM_packets sM)) (0 : Int32) _ hG adM adM_tape adM_frameAt adM_field adM_draft adM_given adM_low adM_high adM_packet adM_known _ _ hP hD hS _ (lv_sub hl [1, 0] rfl)
  · have hG := zt hG hc
    refine lv_iconst (v := (1 : Int32)) hx hb d_M_isSame_27 (by decide) ?_
    refine lv_goto (tgt := 32) hx hb d_M_isSame_28 (by decide) ?_
    exact k_M_isSame_32 X hA zz N sM ((12 : Int32) * (zM_packets sM)) (1 : Int32) _ hG adM adM_tape adM_frameAt adM_field adM_draft adM_given adM_low adM_high adM_packet adM_known _ _ hP hD hS _ (lv_sub hl [1, 0] rfl)
set_option maxRecDepth 100000 in
set_option maxHeartbeats 4000000 in
theorem c_M_isSame (l : Launch) (dC : Nat → ClassId) (dI : Nat → Nat → Nat) (cB cI cL : ClassId) (sz : Nat) (adM adM_tape adM_frameAt adM_field adM_draft adM_given adM_low adM_high adM_packet adM_known : Nat) (N : Nat) (sM : zM) (a : Int32) (hG : g_M_isSame N sM = some a) : Met l y_M_isSame (zw y_M_isSame b_M_isSame 4 (some .boolean)) ({ frames := 0, cells := 0, slots := 0, locals := 0 }) (va_Pc [.ref adM] (zpre dC dI cB cI cL sz (zwM adM adM_tape adM_frameAt adM_field adM_draft adM_given adM_low adM_high adM_packet adM_known cB cI cL sM))) (q_M_isSame dC dI cB cI cL (va_A (zwM adM adM_tape adM_frameAt adM_field adM_draft adM_given adM_low adM_high adM_packet adM_known cB cI cL sM) sz) adM adM_tape adM_frameAt adM_field adM_draft adM_given adM_low adM_high adM_packet adM_known sM a) 0 0 (va_A (zwM adM adM_tape adM_frameAt adM_field adM_draft adM_given adM_low adM_high adM_packet adM_known cB cI cL sM) sz) := by
  refine Met.ofW (cc := b_M_isSame) (maxL := 4) (ret := (some .boolean)) (by decide) rfl ?_
  intro p e s m args below meth c s₁ B hml hv
  obtain ⟨rfl, hsz, hP, zz, hD0⟩ := hv
  subst hsz
  have X := zx_of (F := 0) (L := 0) B hml (Nat.le_refl _) (Nat.le_refl _)
  have hD := hD0.self (sz := s.heap.size)
  have hA : ∀ q : Nat, s.heap.size ≤ q → va_A (zwM adM adM_tape adM_frameAt adM_field adM_draft adM_given adM_low adM_high adM_packet adM_known cB cI cL sM) s.heap.size q := fun q h => Or.inr h
  have hl := lv_entry ([.ref adM]) (n := 4) (Nat.le_of_ble_eq_true rfl)
  rw [lg_entry_eq]
  generalize (lg_sl ([.ref adM]) ++ List.replicate (4 - (lg_sl ([.ref adM])).length) Slot.unset).toArray = ls at hl ⊢
  exact k_M_isSame_0 X hA zz N sM a hG adM adM_tape adM_frameAt adM_field adM_draft adM_given adM_low adM_high adM_packet adM_known _ _ hP hD va_S.rf ls hl

theorem zy_M_flaw : zy y_M_flaw b_M_flaw 4 (some .int) 2 := ⟨zmem 1098 (by decide +kernel) (by decide +kernel), zmem 73 (by decide +kernel) (by decide +kernel), by decide +kernel⟩
theorem zv_M_flaw : Cond.instanceMethod y_M_flaw ∈ ztb ∧ Cond.selects y_M_flaw.cls y_M_flaw y_M_flaw ∈ ztb := ⟨zmem 1097 (by decide +kernel) (by decide +kernel), zmem 33 (by decide +kernel) (by decide +kernel)⟩
theorem d_M_flaw_0 : decode b_M_flaw 0 = .ok (.aload_n 0, 1) := by decide +kernel
theorem d_M_flaw_1 : decode b_M_flaw 1 = .ok (.iload_n 1, 1) := by decide +kernel
theorem d_M_flaw_2 : decode b_M_flaw 2 = .ok (.invokevirtual 165, 3) := by decide +kernel
theorem d_M_flaw_5 : decode b_M_flaw 5 = .ok (.istore_n 3, 1) := by decide +kernel
theorem d_M_flaw_6 : decode b_M_flaw 6 = .ok (.iload_n 3, 1) := by decide +kernel
theorem d_M_flaw_7 : decode b_M_flaw 7 = .ok (.iconst (-1), 1) := by decide +kernel
theorem d_M_flaw_8 : decode b_M_flaw 8 = .ok (.if_icmp .ne 5, 3) := by decide +kernel
theorem d_M_flaw_11 : decode b_M_flaw 11 = .ok (.iconst 2, 1) := by decide +kernel
theorem d_M_flaw_12 : decode b_M_flaw 12 = .ok (.ireturn, 1) := by decide +kernel
theorem d_M_flaw_13 : decode b_M_flaw 13 = .ok (.iload_n 2, 1) := by decide +kernel
theorem d_M_flaw_14 : decode b_M_flaw 14 = .ok (.iconst 2, 1) := by decide +kernel
theorem d_M_flaw_15 : decode b_M_flaw 15 = .ok (.if_icmp .ge 22, 3) := by decide +kernel
theorem d_M_flaw_18 : decode b_M_flaw 18 = .ok (.iload_n 3, 1) := by decide +kernel
theorem d_M_flaw_19 : decode b_M_flaw 19 = .ok (.iconst 3, 1) := by decide +kernel
theorem d_M_flaw_20 : decode b_M_flaw 20 = .ok (.if_icmp .le 17, 3) := by decide +kernel
theorem d_M_flaw_23 : decode b_M_flaw 23 = .ok (.iload_n 3, 1) := by decide +kernel
theorem d_M_flaw_24 : decode b_M_flaw 24 = .ok (.bipush 6, 2) := by decide +kernel
theorem d_M_flaw_26 : decode b_M_flaw 26 = .ok (.if_icmp .eq 11, 3) := by decide +kernel
theorem d_M_flaw_29 : decode b_M_flaw 29 = .ok (.iload_n 3, 1) := by decide +kernel
theorem d_M_flaw_30 : decode b_M_flaw 30 = .ok (.bipush 28, 2) := by decide +kernel
theorem d_M_flaw_32 : decode b_M_flaw 32 = .ok (.if_icmp .eq 5, 3) := by decide +kernel
theorem d_M_flaw_35 : decode b_M_flaw 35 = .ok (.iconst 4, 1) := by decide +kernel
theorem d_M_flaw_36 : decode b_M_flaw 36 = .ok (.ireturn, 1) := by decide +kernel
theorem d_M_flaw_37 : decode b_M_flaw 37 = .ok (.aload_n 0, 1) := by decide +kernel
theorem d_M_flaw_38 : decode b_M_flaw 38 = .ok (.iload_n 1, 1) := by decide +kernel
theorem d_M_flaw_39 : decode b_M_flaw 39 = .ok (.aload_n 0, 1) := by decide +kernel
theorem d_M_flaw_40 : decode b_M_flaw 40 = .ok (.getfield 190, 3) := by decide +kernel
theorem d_M_flaw_43 : decode b_M_flaw 43 = .ok (.invokevirtual 193, 3) := by decide +kernel
theorem d_M_flaw_46 : decode b_M_flaw 46 = .ok (.aload_n 0, 1) := by decide +kernel
theorem d_M_flaw_47 : decode b_M_flaw 47 = .ok (.getfield 116, 3) := by decide +kernel
theorem d_M_flaw_50 : decode b_M_flaw 50 = .ok (.ifCond .eq 7, 3) := by decide +kernel
theorem d_M_flaw_53 : decode b_M_flaw 53 = .ok (.iconst 1, 1) := by decide +kernel
theorem d_M_flaw_54 : decode b_M_flaw 54 = .ok (.goto 16, 3) := by decide +kernel
theorem d_M_flaw_57 : decode b_M_flaw 57 = .ok (.aload_n 0, 1) := by decide +kernel
theorem d_M_flaw_58 : decode b_M_flaw 58 = .ok (.iload_n 3, 1) := by decide +kernel
theorem d_M_flaw_59 : decode b_M_flaw 59 = .ok (.invokevirtual 196, 3) := by decide +kernel
theorem d_M_flaw_62 : decode b_M_flaw 62 = .ok (.ifCond .eq 7, 3) := by decide +kernel
theorem d_M_flaw_65 : decode b_M_flaw 65 = .ok (.iconst 0, 1) := by decide +kernel
theorem d_M_flaw_66 : decode b_M_flaw 66 = .ok (.goto 4, 3) := by decide +kernel
theorem d_M_flaw_69 : decode b_M_flaw 69 = .ok (.iconst 3, 1) := by decide +kernel
theorem d_M_flaw_70 : decode b_M_flaw 70 = .ok (.ireturn, 1) := by decide +kernel
theorem zy_M_frames : zy y_M_frames b_M_frames 4 (some .int) 2 := ⟨zmem 1094 (by decide +kernel) (by decide +kernel), zmem 73 (by decide +kernel) (by decide +kernel), by decide +kernel⟩
theorem zv_M_frames : Cond.instanceMethod y_M_frames ∈ ztb ∧ Cond.selects y_M_frames.cls y_M_frames y_M_frames ∈ ztb := ⟨zmem 1092 (by decide +kernel) (by decide +kernel), zmem 1093 (by decide +kernel) (by decide +kernel)⟩
theorem d_M_frames_0 : decode b_M_frames 0 = .ok (.aload_n 0, 1) := by decide +kernel
theorem d_M_frames_1 : decode b_M_frames 1 = .ok (.iload_n 1, 1) := by decide +kernel
theorem d_M_frames_2 : decode b_M_frames 2 = .ok (.i2l, 1) := by decide +kernel
theorem d_M_frames_3 : decode b_M_frames 3 = .ok (.lconst 0, 1) := by decide +kernel
theorem d_M_frames_4 : decode b_M_frames 4 = .ok (.aload_n 0, 1) := by decide +kernel
theorem d_M_frames_5 : decode b_M_frames 5 = .ok (.getfield 57, 3) := by decide +kernel
theorem d_M_frames_8 : decode b_M_frames 8 = .ok (.i2l, 1) := by decide +kernel
theorem d_M_frames_9 : decode b_M_frames 9 = .ok (.invokestatic 53, 3) := by decide +kernel
theorem d_M_frames_12 : decode b_M_frames 12 = .ok (.ifCond .eq 15, 3) := by decide +kernel
theorem d_M_frames_15 : decode b_M_frames 15 = .ok (.iload_n 2, 1) := by decide +kernel
theorem d_M_frames_16 : decode b_M_frames 16 = .ok (.i2l, 1) := by decide +kernel
theorem d_M_frames_17 : decode b_M_frames 17 = .ok (.lconst 0, 1) := by decide +kernel
theorem d_M_frames_18 : decode b_M_frames 18 = .ok (.ldc2_w 76, 3) := by decide +kernel
theorem d_M_frames_21 : decode b_M_frames 21 = .ok (.invokestatic 53, 3) := by decide +kernel
theorem d_M_frames_24 : decode b_M_frames 24 = .ok (.ifCond .ne 7, 3) := by decide +kernel
theorem d_M_frames_27 : decode b_M_frames 27 = .ok (.iconst 1, 1) := by decide +kernel
theorem d_M_frames_28 : decode b_M_frames 28 = .ok (.goto 4, 3) := by decide +kernel
theorem d_M_frames_31 : decode b_M_frames 31 = .ok (.iconst 0, 1) := by decide +kernel
theorem d_M_frames_32 : decode b_M_frames 32 = .ok (.iconst 1, 1) := by decide +kernel
theorem d_M_frames_33 : decode b_M_frames 33 = .ok (.invokevirtual 62, 3) := by decide +kernel
theorem d_M_frames_36 : decode b_M_frames 36 = .ok (.ifCond .eq 5, 3) := by decide +kernel
theorem d_M_frames_39 : decode b_M_frames 39 = .ok (.iconst 0, 1) := by decide +kernel
theorem d_M_frames_40 : decode b_M_frames 40 = .ok (.ireturn, 1) := by decide +kernel
theorem d_M_frames_41 : decode b_M_frames 41 = .ok (.aload_n 0, 1) := by decide +kernel
theorem d_M_frames_42 : decode b_M_frames 42 = .ok (.invokevirtual 100, 3) := by decide +kernel
theorem d_M_frames_45 : decode b_M_frames 45 = .ok (.aload_n 0, 1) := by decide +kernel
theorem d_M_frames_46 : decode b_M_frames 46 = .ok (.aload_n 0, 1) := by decide +kernel
theorem d_M_frames_47 : decode b_M_frames 47 = .ok (.getfield 57, 3) := by decide +kernel
theorem d_M_frames_50 : decode b_M_frames 50 = .ok (.putfield 190, 3) := by decide +kernel
theorem d_M_frames_53 : decode b_M_frames 53 = .ok (.iload_n 1, 1) := by decide +kernel
theorem d_M_frames_54 : decode b_M_frames 54 = .ok (.istore_n 3, 1) := by decide +kernel
theorem d_M_frames_55 : decode b_M_frames 55 = .ok (.iload_n 3, 1) := by decide +kernel
theorem d_M_frames_56 : decode b_M_frames 56 = .ok (.aload_n 0, 1) := by decide +kernel
theorem d_M_frames_57 : decode b_M_frames 57 = .ok (.getfield 57, 3) := by decide +kernel
theorem d_M_frames_60 : decode b_M_frames 60 = .ok (.if_icmp .ge 56, 3) := by decide +kernel
theorem d_M_frames_63 : decode b_M_frames 63 = .ok (.aload_n 0, 1) := by decide +kernel
theorem d_M_frames_64 : decode b_M_frames 64 = .ok (.getfield 91, 3) := by decide +kernel
theorem d_M_frames_67 : decode b_M_frames 67 = .ok (.ifCond .ne 49, 3) := by decide +kernel
theorem d_M_frames_70 : decode b_M_frames 70 = .ok (.aload_n 0, 1) := by decide +kernel
theorem d_M_frames_71 : decode b_M_frames 71 = .ok (.aload_n 0, 1) := by decide +kernel
theorem d_M_frames_72 : decode b_M_frames 72 = .ok (.iload_n 3, 1) := by decide +kernel
theorem d_M_frames_73 : decode b_M_frames 73 = .ok (.iload_n 2, 1) := by decide +kernel
theorem d_M_frames_74 : decode b_M_frames 74 = .ok (.invokevirtual 199, 3) := by decide +kernel
theorem d_M_frames_77 : decode b_M_frames 77 = .ok (.iload_n 3, 1) := by decide +kernel
theorem d_M_frames_78 : decode b_M_frames 78 = .ok (.invokevirtual 203, 3) := by decide +kernel
theorem d_M_frames_81 : decode b_M_frames 81 = .ok (.aload_n 0, 1) := by decide +kernel
theorem d_M_frames_82 : decode b_M_frames 82 = .ok (.getfield 91, 3) := by decide +kernel
theorem d_M_frames_85 : decode b_M_frames 85 = .ok (.ifCond .ne (-30), 3) := by decide +kernel
theorem d_M_frames_88 : decode b_M_frames 88 = .ok (.aload_n 0, 1) := by decide +kernel
theorem d_M_frames_89 : decode b_M_frames 89 = .ok (.getfield 18, 3) := by decide +kernel
theorem d_M_frames_92 : decode b_M_frames 92 = .ok (.aload_n 0, 1) := by decide +kernel
theorem d_M_frames_93 : decode b_M_frames 93 = .ok (.getfield 94, 3) := by decide +kernel
theorem d_M_frames_96 : decode b_M_frames 96 = .ok (.iload_n 3, 1) := by decide +kernel
theorem d_M_frames_97 : decode b_M_frames 97 = .ok (.iastore, 1) := by decide +kernel
theorem d_M_frames_98 : decode b_M_frames 98 = .ok (.aload_n 0, 1) := by decide +kernel
theorem d_M_frames_99 : decode b_M_frames 99 = .ok (.dup, 1) := by decide +kernel
theorem d_M_frames_100 : decode b_M_frames 100 = .ok (.getfield 94, 3) := by decide +kernel
theorem d_M_frames_103 : decode b_M_frames 103 = .ok (.iconst 1, 1) := by decide +kernel
theorem d_M_frames_104 : decode b_M_frames 104 = .ok (.iadd, 1) := by decide +kernel
theorem d_M_frames_105 : decode b_M_frames 105 = .ok (.putfield 94, 3) := by decide +kernel
theorem d_M_frames_108 : decode b_M_frames 108 = .ok (.aload_n 0, 1) := by decide +kernel
theorem d_M_frames_109 : decode b_M_frames 109 = .ok (.getfield 110, 3) := by decide +kernel
theorem d_M_frames_112 : decode b_M_frames 112 = .ok (.istore_n 3, 1) := by decide +kernel
theorem d_M_frames_113 : decode b_M_frames 113 = .ok (.goto (-58), 3) := by decide +kernel
theorem d_M_frames_116 : decode b_M_frames 116 = .ok (.aload_n 0, 1) := by decide +kernel
theorem d_M_frames_117 : decode b_M_frames 117 = .ok (.getfield 94, 3) := by decide +kernel
theorem d_M_frames_120 : decode b_M_frames 120 = .ok (.ireturn, 1) := by decide +kernel
theorem zy_M_parsed : zy y_M_parsed b_M_parsed 2 (some .boolean) 1 := ⟨zmem 1167 (by decide +kernel) (by decide +kernel), zmem 73 (by decide +kernel) (by decide +kernel), by decide +kernel⟩
theorem zv_M_parsed : Cond.instanceMethod y_M_parsed ∈ ztb ∧ Cond.selects y_M_parsed.cls y_M_parsed y_M_parsed ∈ ztb := ⟨zmem 1166 (by decide +kernel) (by decide +kernel), zmem 46 (by decide +kernel) (by decide +kernel)⟩
theorem d_M_parsed_0 : decode b_M_parsed 0 = .ok (.iload_n 1, 1) := by decide +kernel
theorem d_M_parsed_1 : decode b_M_parsed 1 = .ok (.i2l, 1) := by decide +kernel
theorem d_M_parsed_2 : decode b_M_parsed 2 = .ok (.lconst 0, 1) := by decide +kernel
theorem d_M_parsed_3 : decode b_M_parsed 3 = .ok (.aload_n 0, 1) := by decide +kernel
theorem d_M_parsed_4 : decode b_M_parsed 4 = .ok (.getfield 94, 3) := by decide +kernel
theorem d_M_parsed_7 : decode b_M_parsed 7 = .ok (.i2l, 1) := by decide +kernel
theorem d_M_parsed_8 : decode b_M_parsed 8 = .ok (.lconst 1, 1) := by decide +kernel
theorem d_M_parsed_9 : decode b_M_parsed 9 = .ok (.lsub, 1) := by decide +kernel
theorem d_M_parsed_10 : decode b_M_parsed 10 = .ok (.invokestatic 53, 3) := by decide +kernel
theorem d_M_parsed_13 : decode b_M_parsed 13 = .ok (.ifCond .ne 5, 3) := by decide +kernel
theorem d_M_parsed_16 : decode b_M_parsed 16 = .ok (.iconst 0, 1) := by decide +kernel
theorem d_M_parsed_17 : decode b_M_parsed 17 = .ok (.ireturn, 1) := by decide +kernel
theorem d_M_parsed_18 : decode b_M_parsed 18 = .ok (.aload_n 0, 1) := by decide +kernel
theorem d_M_parsed_19 : decode b_M_parsed 19 = .ok (.aload_n 0, 1) := by decide +kernel
theorem d_M_parsed_20 : decode b_M_parsed 20 = .ok (.getfield 18, 3) := by decide +kernel
theorem d_M_parsed_23 : decode b_M_parsed 23 = .ok (.iload_n 1, 1) := by decide +kernel
theorem d_M_parsed_24 : decode b_M_parsed 24 = .ok (.iaload, 1) := by decide +kernel
theorem d_M_parsed_25 : decode b_M_parsed 25 = .ok (.aload_n 0, 1) := by decide +kernel
theorem d_M_parsed_26 : decode b_M_parsed 26 = .ok (.getfield 190, 3) := by decide +kernel
theorem d_M_parsed_29 : decode b_M_parsed 29 = .ok (.invokevirtual 193, 3) := by decide +kernel
theorem d_M_parsed_32 : decode b_M_parsed 32 = .ok (.iconst 1, 1) := by decide +kernel
theorem d_M_parsed_33 : decode b_M_parsed 33 = .ok (.ireturn, 1) := by decide +kernel
theorem zy_M_frame : zy y_M_frame b_M_frame 3 (some .long) 2 := ⟨zmem 1162 (by decide +kernel) (by decide +kernel), zmem 73 (by decide +kernel) (by decide +kernel), by decide +kernel⟩
theorem zv_M_frame : Cond.instanceMethod y_M_frame ∈ ztb ∧ Cond.selects y_M_frame.cls y_M_frame y_M_frame ∈ ztb := ⟨zmem 1160 (by decide +kernel) (by decide +kernel), zmem 1161 (by decide +kernel) (by decide +kernel)⟩
theorem d_M_frame_0 : decode b_M_frame 0 = .ok (.aload_n 0, 1) := by decide +kernel
theorem d_M_frame_1 : decode b_M_frame 1 = .ok (.iload_n 2, 1) := by decide +kernel
theorem d_M_frame_2 : decode b_M_frame 2 = .ok (.i2l, 1) := by decide +kernel
theorem d_M_frame_3 : decode b_M_frame 3 = .ok (.lconst 0, 1) := by decide +kernel
theorem d_M_frame_4 : decode b_M_frame 4 = .ok (.ldc2_w 206, 3) := by decide +kernel
theorem d_M_frame_7 : decode b_M_frame 7 = .ok (.invokestatic 53, 3) := by decide +kernel
theorem d_M_frame_10 : decode b_M_frame 10 = .ok (.ifCond .eq 11, 3) := by decide +kernel
theorem d_M_frame_13 : decode b_M_frame 13 = .ok (.aload_n 0, 1) := by decide +kernel
theorem d_M_frame_14 : decode b_M_frame 14 = .ok (.iload_n 1, 1) := by decide +kernel
theorem d_M_frame_15 : decode b_M_frame 15 = .ok (.invokevirtual 208, 3) := by decide +kernel
theorem d_M_frame_18 : decode b_M_frame 18 = .ok (.ifCond .ne 7, 3) := by decide +kernel
theorem d_M_frame_21 : decode b_M_frame 21 = .ok (.iconst 1, 1) := by decide +kernel
theorem d_M_frame_22 : decode b_M_frame 22 = .ok (.goto 4, 3) := by decide +kernel
theorem d_M_frame_25 : decode b_M_frame 25 = .ok (.iconst 0, 1) := by decide +kernel
theorem d_M_frame_26 : decode b_M_frame 26 = .ok (.iconst 1, 1) := by decide +kernel
theorem d_M_frame_27 : decode b_M_frame 27 = .ok (.invokevirtual 62, 3) := by decide +kernel
theorem d_M_frame_30 : decode b_M_frame 30 = .ok (.ifCond .eq 5, 3) := by decide +kernel
theorem d_M_frame_33 : decode b_M_frame 33 = .ok (.lconst 0, 1) := by decide +kernel
theorem d_M_frame_34 : decode b_M_frame 34 = .ok (.lreturn, 1) := by decide +kernel
theorem d_M_frame_35 : decode b_M_frame 35 = .ok (.iload_n 2, 1) := by decide +kernel
theorem d_M_frame_36 : decode b_M_frame 36 = .ok (.tableswitch 74 4 8 #[36, 48, 54, 60, 68], 36) := by decide +kernel
theorem d_M_frame_72 : decode b_M_frame 72 = .ok (.aload_n 0, 1) := by decide +kernel
theorem d_M_frame_73 : decode b_M_frame 73 = .ok (.aload_n 0, 1) := by decide +kernel
theorem d_M_frame_74 : decode b_M_frame 74 = .ok (.getfield 18, 3) := by decide +kernel
theorem d_M_frame_77 : decode b_M_frame 77 = .ok (.iload_n 1, 1) := by decide +kernel
theorem d_M_frame_78 : decode b_M_frame 78 = .ok (.iaload, 1) := by decide +kernel
theorem d_M_frame_79 : decode b_M_frame 79 = .ok (.invokevirtual 165, 3) := by decide +kernel
theorem d_M_frame_82 : decode b_M_frame 82 = .ok (.i2l, 1) := by decide +kernel
theorem d_M_frame_83 : decode b_M_frame 83 = .ok (.lreturn, 1) := by decide +kernel
theorem d_M_frame_84 : decode b_M_frame 84 = .ok (.aload_n 0, 1) := by decide +kernel
theorem d_M_frame_85 : decode b_M_frame 85 = .ok (.getfield 147, 3) := by decide +kernel
theorem d_M_frame_88 : decode b_M_frame 88 = .ok (.i2l, 1) := by decide +kernel
theorem d_M_frame_89 : decode b_M_frame 89 = .ok (.lreturn, 1) := by decide +kernel
theorem d_M_frame_90 : decode b_M_frame 90 = .ok (.aload_n 0, 1) := by decide +kernel
theorem d_M_frame_91 : decode b_M_frame 91 = .ok (.getfield 153, 3) := by decide +kernel
theorem d_M_frame_94 : decode b_M_frame 94 = .ok (.i2l, 1) := by decide +kernel
theorem d_M_frame_95 : decode b_M_frame 95 = .ok (.lreturn, 1) := by decide +kernel
theorem d_M_frame_96 : decode b_M_frame 96 = .ok (.aload_n 0, 1) := by decide +kernel
theorem d_M_frame_97 : decode b_M_frame 97 = .ok (.getfield 18, 3) := by decide +kernel
theorem d_M_frame_100 : decode b_M_frame 100 = .ok (.iload_n 1, 1) := by decide +kernel
theorem d_M_frame_101 : decode b_M_frame 101 = .ok (.iaload, 1) := by decide +kernel
theorem d_M_frame_102 : decode b_M_frame 102 = .ok (.i2l, 1) := by decide +kernel
theorem d_M_frame_103 : decode b_M_frame 103 = .ok (.lreturn, 1) := by decide +kernel
theorem d_M_frame_104 : decode b_M_frame 104 = .ok (.aload_n 0, 1) := by decide +kernel
theorem d_M_frame_105 : decode b_M_frame 105 = .ok (.getfield 110, 3) := by decide +kernel
theorem d_M_frame_108 : decode b_M_frame 108 = .ok (.i2l, 1) := by decide +kernel
theorem d_M_frame_109 : decode b_M_frame 109 = .ok (.lreturn, 1) := by decide +kernel
theorem d_M_frame_110 : decode b_M_frame 110 = .ok (.aload_n 0, 1) := by decide +kernel
theorem d_M_frame_111 : decode b_M_frame 111 = .ok (.getfield 22, 3) := by decide +kernel
theorem d_M_frame_114 : decode b_M_frame 114 = .ok (.iload_n 2, 1) := by decide +kernel
theorem d_M_frame_115 : decode b_M_frame 115 = .ok (.laload, 1) := by decide +kernel
theorem d_M_frame_116 : decode b_M_frame 116 = .ok (.lreturn, 1) := by decide +kernel
theorem zy_M_data : zy y_M_data b_M_data 5 (some .int) 3 := ⟨zmem 1171 (by decide +kernel) (by decide +kernel), zmem 73 (by decide +kernel) (by decide +kernel), by decide +kernel⟩
theorem zv_M_data : Cond.instanceMethod y_M_data ∈ ztb ∧ Cond.selects y_M_data.cls y_M_data y_M_data ∈ ztb := ⟨zmem 1169 (by decide +kernel) (by decide +kernel), zmem 1170 (by decide +kernel) (by decide +kernel)⟩
theorem d_M_data_0 : decode b_M_data 0 = .ok (.aload_n 0, 1) := by decide +kernel
theorem d_M_data_1 : decode b_M_data 1 = .ok (.aload_n 0, 1) := by decide +kernel
theorem d_M_data_2 : decode b_M_data 2 = .ok (.iload_n 1, 1) := by decide +kernel
theorem d_M_data_3 : decode b_M_data 3 = .ok (.invokevirtual 208, 3) := by decide +kernel
theorem d_M_data_6 : decode b_M_data 6 = .ok (.ifCond .ne 7, 3) := by decide +kernel
theorem d_M_data_9 : decode b_M_data 9 = .ok (.iconst 1, 1) := by decide +kernel
theorem d_M_data_10 : decode b_M_data 10 = .ok (.goto 4, 3) := by decide +kernel
theorem d_M_data_13 : decode b_M_data 13 = .ok (.iconst 0, 1) := by decide +kernel
theorem d_M_data_14 : decode b_M_data 14 = .ok (.iconst 1, 1) := by decide +kernel
theorem d_M_data_15 : decode b_M_data 15 = .ok (.invokevirtual 62, 3) := by decide +kernel
theorem d_M_data_18 : decode b_M_data 18 = .ok (.ifCond .eq 5, 3) := by decide +kernel
theorem d_M_data_21 : decode b_M_data 21 = .ok (.iconst 0, 1) := by decide +kernel
theorem d_M_data_22 : decode b_M_data 22 = .ok (.ireturn, 1) := by decide +kernel
theorem d_M_data_23 : decode b_M_data 23 = .ok (.iload_n 3, 1) := by decide +kernel
theorem d_M_data_24 : decode b_M_data 24 = .ok (.ifCond .ne 10, 3) := by decide +kernel
theorem d_M_data_27 : decode b_M_data 27 = .ok (.aload_n 0, 1) := by decide +kernel
theorem d_M_data_28 : decode b_M_data 28 = .ok (.getfield 147, 3) := by decide +kernel
theorem d_M_data_31 : decode b_M_data 31 = .ok (.goto 24, 3) := by decide +kernel
theorem d_M_data_34 : decode b_M_data 34 = .ok (.aload_n 0, 1) := by decide +kernel
theorem d_M_data_35 : decode b_M_data 35 = .ok (.aload_n 0, 1) := by decide +kernel
theorem d_M_data_36 : decode b_M_data 36 = .ok (.getfield 18, 3) := by decide +kernel
theorem d_M_data_39 : decode b_M_data 39 = .ok (.iload_n 1, 1) := by decide +kernel
theorem d_M_data_40 : decode b_M_data 40 = .ok (.iaload, 1) := by decide +kernel
theorem d_M_data_41 : decode b_M_data 41 = .ok (.invokevirtual 165, 3) := by decide +kernel
theorem d_M_data_44 : decode b_M_data 44 = .ok (.bipush 24, 2) := by decide +kernel
theorem d_M_data_46 : decode b_M_data 46 = .ok (.if_icmp .ne 8, 3) := by decide +kernel
theorem d_M_data_49 : decode b_M_data 49 = .ok (.bipush 16, 2) := by decide +kernel
theorem d_M_data_51 : decode b_M_data 51 = .ok (.goto 4, 3) := by decide +kernel
theorem d_M_data_54 : decode b_M_data 54 = .ok (.iconst 0, 1) := by decide +kernel
theorem d_M_data_55 : decode b_M_data 55 = .ok (.istore 4, 2) := by decide +kernel
theorem d_M_data_57 : decode b_M_data 57 = .ok (.aload_n 0, 1) := by decide +kernel
theorem d_M_data_58 : decode b_M_data 58 = .ok (.iload_n 2, 1) := by decide +kernel
theorem d_M_data_59 : decode b_M_data 59 = .ok (.i2l, 1) := by decide +kernel
theorem d_M_data_60 : decode b_M_data 60 = .ok (.lconst 0, 1) := by decide +kernel
theorem d_M_data_61 : decode b_M_data 61 = .ok (.iload 4, 2) := by decide +kernel
theorem d_M_data_63 : decode b_M_data 63 = .ok (.i2l, 1) := by decide +kernel
theorem d_M_data_64 : decode b_M_data 64 = .ok (.lconst 1, 1) := by decide +kernel
theorem d_M_data_65 : decode b_M_data 65 = .ok (.lsub, 1) := by decide +kernel
theorem d_M_data_66 : decode b_M_data 66 = .ok (.invokestatic 53, 3) := by decide +kernel
theorem d_M_data_69 : decode b_M_data 69 = .ok (.ifCond .ne 7, 3) := by decide +kernel
theorem d_M_data_72 : decode b_M_data 72 = .ok (.iconst 1, 1) := by decide +kernel
theorem d_M_data_73 : decode b_M_data 73 = .ok (.goto 4, 3) := by decide +kernel
theorem d_M_data_76 : decode b_M_data 76 = .ok (.iconst 0, 1) := by decide +kernel
theorem d_M_data_77 : decode b_M_data 77 = .ok (.iconst 1, 1) := by decide +kernel
theorem d_M_data_78 : decode b_M_data 78 = .ok (.invokevirtual 62, 3) := by decide +kernel
theorem d_M_data_81 : decode b_M_data 81 = .ok (.ifCond .eq 5, 3) := by decide +kernel
theorem d_M_data_84 : decode b_M_data 84 = .ok (.iconst 0, 1) := by decide +kernel
theorem d_M_data_85 : decode b_M_data 85 = .ok (.ireturn, 1) := by decide +kernel
theorem d_M_data_86 : decode b_M_data 86 = .ok (.aload_n 0, 1) := by decide +kernel
theorem d_M_data_87 : decode b_M_data 87 = .ok (.iload_n 3, 1) := by decide +kernel
theorem d_M_data_88 : decode b_M_data 88 = .ok (.ifCond .eq 10, 3) := by decide +kernel
theorem d_M_data_91 : decode b_M_data 91 = .ok (.aload_n 0, 1) := by decide +kernel
theorem d_M_data_92 : decode b_M_data 92 = .ok (.getfield 162, 3) := by decide +kernel
theorem d_M_data_95 : decode b_M_data 95 = .ok (.goto 7, 3) := by decide +kernel
theorem d_M_data_98 : decode b_M_data 98 = .ok (.aload_n 0, 1) := by decide +kernel
theorem d_M_data_99 : decode b_M_data 99 = .ok (.getfield 144, 3) := by decide +kernel
theorem d_M_data_102 : decode b_M_data 102 = .ok (.iload_n 2, 1) := by decide +kernel
theorem d_M_data_103 : decode b_M_data 103 = .ok (.iadd, 1) := by decide +kernel
theorem d_M_data_104 : decode b_M_data 104 = .ok (.invokevirtual 106, 3) := by decide +kernel
theorem d_M_data_107 : decode b_M_data 107 = .ok (.ireturn, 1) := by decide +kernel
theorem zy_M_range : zy y_M_range b_M_range 4 (some .long) 3 := ⟨zmem 1175 (by decide +kernel) (by decide +kernel), zmem 73 (by decide +kernel) (by decide +kernel), by decide +kernel⟩
theorem zv_M_range : Cond.instanceMethod y_M_range ∈ ztb ∧ Cond.selects y_M_range.cls y_M_range y_M_range ∈ ztb := ⟨zmem 1173 (by decide +kernel) (by decide +kernel), zmem 1174 (by decide +kernel) (by decide +kernel)⟩
theorem d_M_range_0 : decode b_M_range 0 = .ok (.aload_n 0, 1) := by decide +kernel
theorem d_M_range_1 : decode b_M_range 1 = .ok (.aload_n 0, 1) := by decide +kernel
theorem d_M_range_2 : decode b_M_range 2 = .ok (.iload_n 1, 1) := by decide +kernel
theorem d_M_range_3 : decode b_M_range 3 = .ok (.invokevirtual 208, 3) := by decide +kernel
theorem d_M_range_6 : decode b_M_range 6 = .ok (.ifCond .ne 7, 3) := by decide +kernel
theorem d_M_range_9 : decode b_M_range 9 = .ok (.iconst 1, 1) := by decide +kernel
theorem d_M_range_10 : decode b_M_range 10 = .ok (.goto 4, 3) := by decide +kernel
theorem d_M_range_13 : decode b_M_range 13 = .ok (.iconst 0, 1) := by decide +kernel
theorem d_M_range_14 : decode b_M_range 14 = .ok (.iconst 1, 1) := by decide +kernel
theorem d_M_range_15 : decode b_M_range 15 = .ok (.invokevirtual 62, 3) := by decide +kernel
theorem d_M_range_18 : decode b_M_range 18 = .ok (.ifCond .ne 32, 3) := by decide +kernel
theorem d_M_range_21 : decode b_M_range 21 = .ok (.aload_n 0, 1) := by decide +kernel
theorem d_M_range_22 : decode b_M_range 22 = .ok (.iload_n 2, 1) := by decide +kernel
theorem d_M_range_23 : decode b_M_range 23 = .ok (.i2l, 1) := by decide +kernel
theorem d_M_range_24 : decode b_M_range 24 = .ok (.lconst 0, 1) := by decide +kernel
theorem d_M_range_25 : decode b_M_range 25 = .ok (.aload_n 0, 1) := by decide +kernel
theorem d_M_range_26 : decode b_M_range 26 = .ok (.getfield 153, 3) := by decide +kernel
theorem d_M_range_29 : decode b_M_range 29 = .ok (.i2l, 1) := by decide +kernel
theorem d_M_range_30 : decode b_M_range 30 = .ok (.lconst 1, 1) := by decide +kernel
theorem d_M_range_31 : decode b_M_range 31 = .ok (.lsub, 1) := by decide +kernel
theorem d_M_range_32 : decode b_M_range 32 = .ok (.invokestatic 53, 3) := by decide +kernel
theorem d_M_range_35 : decode b_M_range 35 = .ok (.ifCond .ne 7, 3) := by decide +kernel
theorem d_M_range_38 : decode b_M_range 38 = .ok (.iconst 1, 1) := by decide +kernel
theorem d_M_range_39 : decode b_M_range 39 = .ok (.goto 4, 3) := by decide +kernel
theorem d_M_range_42 : decode b_M_range 42 = .ok (.iconst 0, 1) := by decide +kernel
theorem d_M_range_43 : decode b_M_range 43 = .ok (.iconst 1, 1) := by decide +kernel
theorem d_M_range_44 : decode b_M_range 44 = .ok (.invokevirtual 62, 3) := by decide +kernel
theorem d_M_range_47 : decode b_M_range 47 = .ok (.ifCond .eq 5, 3) := by decide +kernel
theorem d_M_range_50 : decode b_M_range 50 = .ok (.lconst 0, 1) := by decide +kernel
theorem d_M_range_51 : decode b_M_range 51 = .ok (.lreturn, 1) := by decide +kernel
theorem d_M_range_52 : decode b_M_range 52 = .ok (.aload_n 0, 1) := by decide +kernel
theorem d_M_range_53 : decode b_M_range 53 = .ok (.iload_n 2, 1) := by decide +kernel
theorem d_M_range_54 : decode b_M_range 54 = .ok (.iload_n 3, 1) := by decide +kernel
theorem d_M_range_55 : decode b_M_range 55 = .ok (.invokevirtual 184, 3) := by decide +kernel
theorem d_M_range_58 : decode b_M_range 58 = .ok (.lreturn, 1) := by decide +kernel
theorem zy_M_headerFlaw : zy y_M_headerFlaw b_M_headerFlaw 4 (some .int) 2 := ⟨zmem 1233 (by decide +kernel) (by decide +kernel), zmem 73 (by decide +kernel) (by decide +kernel), by decide +kernel⟩
theorem zv_M_headerFlaw : Cond.instanceMethod y_M_headerFlaw ∈ ztb ∧ Cond.selects y_M_headerFlaw.cls y_M_headerFlaw y_M_headerFlaw ∈ ztb := ⟨zmem 1232 (by decide +kernel) (by decide +kernel), zmem 53 (by decide +kernel) (by decide +kernel)⟩
theorem d_M_headerFlaw_0 : decode b_M_headerFlaw 0 = .ok (.aload_n 0, 1) := by decide +kernel
theorem d_M_headerFlaw_1 : decode b_M_headerFlaw 1 = .ok (.iload_n 1, 1) := by decide +kernel
theorem d_M_headerFlaw_2 : decode b_M_headerFlaw 2 = .ok (.aload_n 0, 1) := by decide +kernel
theorem d_M_headerFlaw_3 : decode b_M_headerFlaw 3 = .ok (.getfield 57, 3) := by decide +kernel
theorem d_M_headerFlaw_6 : decode b_M_headerFlaw 6 = .ok (.invokevirtual 124, 3) := by decide +kernel
theorem d_M_headerFlaw_9 : decode b_M_headerFlaw 9 = .ok (.iconst 0, 1) := by decide +kernel
theorem d_M_headerFlaw_10 : decode b_M_headerFlaw 10 = .ok (.istore_n 3, 1) := by decide +kernel
theorem d_M_headerFlaw_11 : decode b_M_headerFlaw 11 = .ok (.iload_n 3, 1) := by decide +kernel
theorem d_M_headerFlaw_12 : decode b_M_headerFlaw 12 = .ok (.bipush 12, 2) := by decide +kernel
theorem d_M_headerFlaw_14 : decode b_M_headerFlaw 14 = .ok (.if_icmp .ge 15, 3) := by decide +kernel
theorem d_M_headerFlaw_17 : decode b_M_headerFlaw 17 = .ok (.aload_n 0, 1) := by decide +kernel
theorem d_M_headerFlaw_18 : decode b_M_headerFlaw 18 = .ok (.iload_n 3, 1) := by decide +kernel
theorem d_M_headerFlaw_19 : decode b_M_headerFlaw 19 = .ok (.iconst 0, 1) := by decide +kernel
theorem d_M_headerFlaw_20 : decode b_M_headerFlaw 20 = .ok (.invokevirtual 245, 3) := by decide +kernel
theorem d_M_headerFlaw_23 : decode b_M_headerFlaw 23 = .ok (.iinc 3 1, 3) := by decide +kernel
theorem d_M_headerFlaw_26 : decode b_M_headerFlaw 26 = .ok (.goto (-15), 3) := by decide +kernel
theorem d_M_headerFlaw_29 : decode b_M_headerFlaw 29 = .ok (.aload_n 0, 1) := by decide +kernel
theorem d_M_headerFlaw_30 : decode b_M_headerFlaw 30 = .ok (.iconst 1, 1) := by decide +kernel
theorem d_M_headerFlaw_31 : decode b_M_headerFlaw 31 = .ok (.invokevirtual 120, 3) := by decide +kernel
theorem d_M_headerFlaw_34 : decode b_M_headerFlaw 34 = .ok (.l2i, 1) := by decide +kernel
theorem d_M_headerFlaw_35 : decode b_M_headerFlaw 35 = .ok (.istore_n 3, 1) := by decide +kernel
theorem d_M_headerFlaw_36 : decode b_M_headerFlaw 36 = .ok (.aload_n 0, 1) := by decide +kernel
theorem d_M_headerFlaw_37 : decode b_M_headerFlaw 37 = .ok (.getfield 116, 3) := by decide +kernel
theorem d_M_headerFlaw_40 : decode b_M_headerFlaw 40 = .ok (.ifCond .eq 5, 3) := by decide +kernel
theorem d_M_headerFlaw_43 : decode b_M_headerFlaw 43 = .ok (.iconst 1, 1) := by decide +kernel
theorem d_M_headerFlaw_44 : decode b_M_headerFlaw 44 = .ok (.ireturn, 1) := by decide +kernel
theorem d_M_headerFlaw_45 : decode b_M_headerFlaw 45 = .ok (.iload_n 3, 1) := by decide +kernel
theorem d_M_headerFlaw_46 : decode b_M_headerFlaw 46 = .ok (.bipush 64, 2) := by decide +kernel
theorem d_M_headerFlaw_48 : decode b_M_headerFlaw 48 = .ok (.iand, 1) := by decide +kernel
theorem d_M_headerFlaw_49 : decode b_M_headerFlaw 49 = .ok (.ifCond .ne 5, 3) := by decide +kernel
theorem d_M_headerFlaw_52 : decode b_M_headerFlaw 52 = .ok (.iconst 2, 1) := by decide +kernel
theorem d_M_headerFlaw_53 : decode b_M_headerFlaw 53 = .ok (.ireturn, 1) := by decide +kernel
theorem d_M_headerFlaw_54 : decode b_M_headerFlaw 54 = .ok (.aload_n 0, 1) := by decide +kernel
theorem d_M_headerFlaw_55 : decode b_M_headerFlaw 55 = .ok (.iconst 3, 1) := by decide +kernel
theorem d_M_headerFlaw_56 : decode b_M_headerFlaw 56 = .ok (.iload_n 1, 1) := by decide +kernel
theorem d_M_headerFlaw_57 : decode b_M_headerFlaw 57 = .ok (.invokevirtual 245, 3) := by decide +kernel
theorem d_M_headerFlaw_60 : decode b_M_headerFlaw 60 = .ok (.iload_n 3, 1) := by decide +kernel
theorem d_M_headerFlaw_61 : decode b_M_headerFlaw 61 = .ok (.sipush 128, 3) := by decide +kernel
theorem d_M_headerFlaw_64 : decode b_M_headerFlaw 64 = .ok (.if_icmp .ge 12, 3) := by decide +kernel
theorem d_M_headerFlaw_67 : decode b_M_headerFlaw 67 = .ok (.aload_n 0, 1) := by decide +kernel
theorem d_M_headerFlaw_68 : decode b_M_headerFlaw 68 = .ok (.iload_n 3, 1) := by decide +kernel
theorem d_M_headerFlaw_69 : decode b_M_headerFlaw 69 = .ok (.iload_n 2, 1) := by decide +kernel
theorem d_M_headerFlaw_70 : decode b_M_headerFlaw 70 = .ok (.invokevirtual 248, 3) := by decide +kernel
theorem d_M_headerFlaw_73 : decode b_M_headerFlaw 73 = .ok (.goto 8, 3) := by decide +kernel
theorem d_M_headerFlaw_76 : decode b_M_headerFlaw 76 = .ok (.aload_n 0, 1) := by decide +kernel
theorem d_M_headerFlaw_77 : decode b_M_headerFlaw 77 = .ok (.iload_n 3, 1) := by decide +kernel
theorem d_M_headerFlaw_78 : decode b_M_headerFlaw 78 = .ok (.invokevirtual 251, 3) := by decide +kernel
theorem d_M_headerFlaw_81 : decode b_M_headerFlaw 81 = .ok (.ireturn, 1) := by decide +kernel
theorem zy_M_head : zy y_M_head b_M_head 3 (some .int) 2 := ⟨zmem 1228 (by decide +kernel) (by decide +kernel), zmem 73 (by decide +kernel) (by decide +kernel), by decide +kernel⟩
theorem zv_M_head : Cond.instanceMethod y_M_head ∈ ztb ∧ Cond.selects y_M_head.cls y_M_head y_M_head ∈ ztb := ⟨zmem 1226 (by decide +kernel) (by decide +kernel), zmem 1227 (by decide +kernel) (by decide +kernel)⟩
theorem d_M_head_0 : decode b_M_head 0 = .ok (.aload_n 0, 1) := by decide +kernel
theorem d_M_head_1 : decode b_M_head 1 = .ok (.iload_n 1, 1) := by decide +kernel
theorem d_M_head_2 : decode b_M_head 2 = .ok (.i2l, 1) := by decide +kernel
theorem d_M_head_3 : decode b_M_head 3 = .ok (.lconst 0, 1) := by decide +kernel
theorem d_M_head_4 : decode b_M_head 4 = .ok (.aload_n 0, 1) := by decide +kernel
theorem d_M_head_5 : decode b_M_head 5 = .ok (.getfield 57, 3) := by decide +kernel
theorem d_M_head_8 : decode b_M_head 8 = .ok (.i2l, 1) := by decide +kernel
theorem d_M_head_9 : decode b_M_head 9 = .ok (.invokestatic 53, 3) := by decide +kernel
theorem d_M_head_12 : decode b_M_head 12 = .ok (.ifCond .eq 15, 3) := by decide +kernel
theorem d_M_head_15 : decode b_M_head 15 = .ok (.iload_n 2, 1) := by decide +kernel
theorem d_M_head_16 : decode b_M_head 16 = .ok (.i2l, 1) := by decide +kernel
theorem d_M_head_17 : decode b_M_head 17 = .ok (.lconst 0, 1) := by decide +kernel
theorem d_M_head_18 : decode b_M_head 18 = .ok (.ldc2_w 254, 3) := by decide +kernel
theorem d_M_head_21 : decode b_M_head 21 = .ok (.invokestatic 53, 3) := by decide +kernel
theorem d_M_head_24 : decode b_M_head 24 = .ok (.ifCond .ne 7, 3) := by decide +kernel
theorem d_M_head_27 : decode b_M_head 27 = .ok (.iconst 1, 1) := by decide +kernel
theorem d_M_head_28 : decode b_M_head 28 = .ok (.goto 4, 3) := by decide +kernel
theorem d_M_head_31 : decode b_M_head 31 = .ok (.iconst 0, 1) := by decide +kernel
theorem d_M_head_32 : decode b_M_head 32 = .ok (.iconst 1, 1) := by decide +kernel
theorem d_M_head_33 : decode b_M_head 33 = .ok (.invokevirtual 62, 3) := by decide +kernel
theorem d_M_head_36 : decode b_M_head 36 = .ok (.ifCond .eq 5, 3) := by decide +kernel
theorem d_M_head_39 : decode b_M_head 39 = .ok (.iconst 0, 1) := by decide +kernel
theorem d_M_head_40 : decode b_M_head 40 = .ok (.ireturn, 1) := by decide +kernel
theorem d_M_head_41 : decode b_M_head 41 = .ok (.aload_n 0, 1) := by decide +kernel
theorem d_M_head_42 : decode b_M_head 42 = .ok (.invokevirtual 100, 3) := by decide +kernel
theorem d_M_head_45 : decode b_M_head 45 = .ok (.aload_n 0, 1) := by decide +kernel
theorem d_M_head_46 : decode b_M_head 46 = .ok (.aload_n 0, 1) := by decide +kernel
theorem d_M_head_47 : decode b_M_head 47 = .ok (.iload_n 1, 1) := by decide +kernel
theorem d_M_head_48 : decode b_M_head 48 = .ok (.iload_n 2, 1) := by decide +kernel
theorem d_M_head_49 : decode b_M_head 49 = .ok (.invokevirtual 259, 3) := by decide +kernel
theorem d_M_head_52 : decode b_M_head 52 = .ok (.iload_n 1, 1) := by decide +kernel
theorem d_M_head_53 : decode b_M_head 53 = .ok (.invokevirtual 203, 3) := by decide +kernel
theorem d_M_head_56 : decode b_M_head 56 = .ok (.aload_n 0, 1) := by decide +kernel
theorem d_M_head_57 : decode b_M_head 57 = .ok (.getfield 91, 3) := by decide +kernel
theorem d_M_head_60 : decode b_M_head 60 = .ok (.ifCond .le 5, 3) := by decide +kernel
theorem d_M_head_63 : decode b_M_head 63 = .ok (.iconst (-1), 1) := by decide +kernel
theorem d_M_head_64 : decode b_M_head 64 = .ok (.ireturn, 1) := by decide +kernel
theorem d_M_head_65 : decode b_M_head 65 = .ok (.aload_n 0, 1) := by decide +kernel
theorem d_M_head_66 : decode b_M_head 66 = .ok (.iconst 1, 1) := by decide +kernel
theorem d_M_head_67 : decode b_M_head 67 = .ok (.putfield 97, 3) := by decide +kernel
theorem d_M_head_70 : decode b_M_head 70 = .ok (.aload_n 0, 1) := by decide +kernel
theorem d_M_head_71 : decode b_M_head 71 = .ok (.getfield 39, 3) := by decide +kernel
theorem d_M_head_74 : decode b_M_head 74 = .ok (.iconst 4, 1) := by decide +kernel
theorem d_M_head_75 : decode b_M_head 75 = .ok (.iaload, 1) := by decide +kernel
theorem d_M_head_76 : decode b_M_head 76 = .ok (.ireturn, 1) := by decide +kernel
theorem zy_M_datagram : zy y_M_datagram b_M_datagram 6 (some .int) 2 := ⟨zmem 1253 (by decide +kernel) (by decide +kernel), zmem 73 (by decide +kernel) (by decide +kernel), by decide +kernel⟩
theorem zv_M_datagram : Cond.instanceMethod y_M_datagram ∈ ztb ∧ Cond.selects y_M_datagram.cls y_M_datagram y_M_datagram ∈ ztb := ⟨zmem 1251 (by decide +kernel) (by decide +kernel), zmem 1252 (by decide +kernel) (by decide +kernel)⟩
theorem d_M_datagram_0 : decode b_M_datagram 0 = .ok (.aload_n 0, 1) := by decide +kernel
theorem d_M_datagram_1 : decode b_M_datagram 1 = .ok (.iload_n 1, 1) := by decide +kernel
theorem d_M_datagram_2 : decode b_M_datagram 2 = .ok (.i2l, 1) := by decide +kernel
theorem d_M_datagram_3 : decode b_M_datagram 3 = .ok (.lconst 0, 1) := by decide +kernel
theorem d_M_datagram_4 : decode b_M_datagram 4 = .ok (.aload_n 0, 1) := by decide +kernel
theorem d_M_datagram_5 : decode b_M_datagram 5 = .ok (.getfield 57, 3) := by decide +kernel
theorem d_M_datagram_8 : decode b_M_datagram 8 = .ok (.i2l, 1) := by decide +kernel
theorem d_M_datagram_9 : decode b_M_datagram 9 = .ok (.invokestatic 53, 3) := by decide +kernel
theorem d_M_datagram_12 : decode b_M_datagram 12 = .ok (.ifCond .eq 15, 3) := by decide +kernel
theorem d_M_datagram_15 : decode b_M_datagram 15 = .ok (.iload_n 2, 1) := by decide +kernel
theorem d_M_datagram_16 : decode b_M_datagram 16 = .ok (.i2l, 1) := by decide +kernel
theorem d_M_datagram_17 : decode b_M_datagram 17 = .ok (.lconst 0, 1) := by decide +kernel
theorem d_M_datagram_18 : decode b_M_datagram 18 = .ok (.ldc2_w 254, 3) := by decide +kernel
theorem d_M_datagram_21 : decode b_M_datagram 21 = .ok (.invokestatic 53, 3) := by decide +kernel
theorem d_M_datagram_24 : decode b_M_datagram 24 = .ok (.ifCond .ne 7, 3) := by decide +kernel
theorem d_M_datagram_27 : decode b_M_datagram 27 = .ok (.iconst 1, 1) := by decide +kernel
theorem d_M_datagram_28 : decode b_M_datagram 28 = .ok (.goto 4, 3) := by decide +kernel
theorem d_M_datagram_31 : decode b_M_datagram 31 = .ok (.iconst 0, 1) := by decide +kernel
theorem d_M_datagram_32 : decode b_M_datagram 32 = .ok (.iconst 1, 1) := by decide +kernel
theorem d_M_datagram_33 : decode b_M_datagram 33 = .ok (.invokevirtual 62, 3) := by decide +kernel
theorem d_M_datagram_36 : decode b_M_datagram 36 = .ok (.ifCond .eq 5, 3) := by decide +kernel
theorem d_M_datagram_39 : decode b_M_datagram 39 = .ok (.iconst 0, 1) := by decide +kernel
theorem d_M_datagram_40 : decode b_M_datagram 40 = .ok (.ireturn, 1) := by decide +kernel
theorem d_M_datagram_41 : decode b_M_datagram 41 = .ok (.aload_n 0, 1) := by decide +kernel
theorem d_M_datagram_42 : decode b_M_datagram 42 = .ok (.invokevirtual 100, 3) := by decide +kernel
theorem d_M_datagram_45 : decode b_M_datagram 45 = .ok (.iload_n 1, 1) := by decide +kernel
theorem d_M_datagram_46 : decode b_M_datagram 46 = .ok (.istore_n 3, 1) := by decide +kernel
theorem d_M_datagram_47 : decode b_M_datagram 47 = .ok (.iload_n 3, 1) := by decide +kernel
theorem d_M_datagram_48 : decode b_M_datagram 48 = .ok (.aload_n 0, 1) := by decide +kernel
theorem d_M_datagram_49 : decode b_M_datagram 49 = .ok (.getfield 57, 3) := by decide +kernel
theorem d_M_datagram_52 : decode b_M_datagram 52 = .ok (.if_icmp .ge 7, 3) := by decide +kernel
theorem d_M_datagram_55 : decode b_M_datagram 55 = .ok (.iconst 1, 1) := by decide +kernel
theorem d_M_datagram_56 : decode b_M_datagram 56 = .ok (.goto 4, 3) := by decide +kernel
theorem d_M_datagram_59 : decode b_M_datagram 59 = .ok (.iconst 0, 1) := by decide +kernel
theorem d_M_datagram_60 : decode b_M_datagram 60 = .ok (.istore 4, 2) := by decide +kernel
theorem d_M_datagram_62 : decode b_M_datagram 62 = .ok (.iload 4, 2) := by decide +kernel
theorem d_M_datagram_64 : decode b_M_datagram 64 = .ok (.ifCond .eq 96, 3) := by decide +kernel
theorem d_M_datagram_67 : decode b_M_datagram 67 = .ok (.aload_n 0, 1) := by decide +kernel
theorem d_M_datagram_68 : decode b_M_datagram 68 = .ok (.iload_n 3, 1) := by decide +kernel
theorem d_M_datagram_69 : decode b_M_datagram 69 = .ok (.iload_n 2, 1) := by decide +kernel
theorem d_M_datagram_70 : decode b_M_datagram 70 = .ok (.invokevirtual 259, 3) := by decide +kernel
theorem d_M_datagram_73 : decode b_M_datagram 73 = .ok (.istore 5, 2) := by decide +kernel
theorem d_M_datagram_75 : decode b_M_datagram 75 = .ok (.aload_n 0, 1) := by decide +kernel
theorem d_M_datagram_76 : decode b_M_datagram 76 = .ok (.iload 5, 2) := by decide +kernel
theorem d_M_datagram_78 : decode b_M_datagram 78 = .ok (.ifCond .le 8, 3) := by decide +kernel
theorem d_M_datagram_81 : decode b_M_datagram 81 = .ok (.iload 5, 2) := by decide +kernel
theorem d_M_datagram_83 : decode b_M_datagram 83 = .ok (.goto 16, 3) := by decide +kernel
theorem d_M_datagram_86 : decode b_M_datagram 86 = .ok (.aload_n 0, 1) := by decide +kernel
theorem d_M_datagram_87 : decode b_M_datagram 87 = .ok (.invokevirtual 262, 3) := by decide +kernel
theorem d_M_datagram_90 : decode b_M_datagram 90 = .ok (.ifCond .eq 7, 3) := by decide +kernel
theorem d_M_datagram_93 : decode b_M_datagram 93 = .ok (.iconst 0, 1) := by decide +kernel
theorem d_M_datagram_94 : decode b_M_datagram 94 = .ok (.goto 5, 3) := by decide +kernel
theorem d_M_datagram_97 : decode b_M_datagram 97 = .ok (.bipush 6, 2) := by decide +kernel
theorem d_M_datagram_99 : decode b_M_datagram 99 = .ok (.iload_n 3, 1) := by decide +kernel
theorem d_M_datagram_100 : decode b_M_datagram 100 = .ok (.invokevirtual 203, 3) := by decide +kernel
theorem d_M_datagram_103 : decode b_M_datagram 103 = .ok (.aload_n 0, 1) := by decide +kernel
theorem d_M_datagram_104 : decode b_M_datagram 104 = .ok (.getfield 91, 3) := by decide +kernel
theorem d_M_datagram_107 : decode b_M_datagram 107 = .ok (.ifCond .ne 28, 3) := by decide +kernel
theorem d_M_datagram_110 : decode b_M_datagram 110 = .ok (.aload_n 0, 1) := by decide +kernel
theorem d_M_datagram_111 : decode b_M_datagram 111 = .ok (.getfield 39, 3) := by decide +kernel
theorem d_M_datagram_114 : decode b_M_datagram 114 = .ok (.bipush 12, 2) := by decide +kernel
theorem d_M_datagram_116 : decode b_M_datagram 116 = .ok (.aload_n 0, 1) := by decide +kernel
theorem d_M_datagram_117 : decode b_M_datagram 117 = .ok (.getfield 97, 3) := by decide +kernel
theorem d_M_datagram_120 : decode b_M_datagram 120 = .ok (.imul, 1) := by decide +kernel
theorem d_M_datagram_121 : decode b_M_datagram 121 = .ok (.iconst 5, 1) := by decide +kernel
theorem d_M_datagram_122 : decode b_M_datagram 122 = .ok (.iadd, 1) := by decide +kernel
theorem d_M_datagram_123 : decode b_M_datagram 123 = .ok (.iaload, 1) := by decide +kernel
theorem d_M_datagram_124 : decode b_M_datagram 124 = .ok (.istore_n 3, 1) := by decide +kernel
theorem d_M_datagram_125 : decode b_M_datagram 125 = .ok (.aload_n 0, 1) := by decide +kernel
theorem d_M_datagram_126 : decode b_M_datagram 126 = .ok (.dup, 1) := by decide +kernel
theorem d_M_datagram_127 : decode b_M_datagram 127 = .ok (.getfield 97, 3) := by decide +kernel
theorem d_M_datagram_130 : decode b_M_datagram 130 = .ok (.iconst 1, 1) := by decide +kernel
theorem d_M_datagram_131 : decode b_M_datagram 131 = .ok (.iadd, 1) := by decide +kernel
theorem d_M_datagram_132 : decode b_M_datagram 132 = .ok (.putfield 97, 3) := by decide +kernel
theorem d_M_datagram_135 : decode b_M_datagram 135 = .ok (.aload_n 0, 1) := by decide +kernel
theorem d_M_datagram_136 : decode b_M_datagram 136 = .ok (.getfield 91, 3) := by decide +kernel
theorem d_M_datagram_139 : decode b_M_datagram 139 = .ok (.ifCond .ne 15, 3) := by decide +kernel
theorem d_M_datagram_142 : decode b_M_datagram 142 = .ok (.iload_n 3, 1) := by decide +kernel
theorem d_M_datagram_143 : decode b_M_datagram 143 = .ok (.aload_n 0, 1) := by decide +kernel
theorem d_M_datagram_144 : decode b_M_datagram 144 = .ok (.getfield 57, 3) := by decide +kernel
theorem d_M_datagram_147 : decode b_M_datagram 147 = .ok (.if_icmp .ge 7, 3) := by decide +kernel
theorem d_M_datagram_150 : decode b_M_datagram 150 = .ok (.iconst 1, 1) := by decide +kernel
theorem d_M_datagram_151 : decode b_M_datagram 151 = .ok (.goto 4, 3) := by decide +kernel
theorem d_M_datagram_154 : decode b_M_datagram 154 = .ok (.iconst 0, 1) := by decide +kernel
theorem d_M_datagram_155 : decode b_M_datagram 155 = .ok (.istore 4, 2) := by decide +kernel
theorem d_M_datagram_157 : decode b_M_datagram 157 = .ok (.goto (-95), 3) := by decide +kernel
theorem d_M_datagram_160 : decode b_M_datagram 160 = .ok (.aload_n 0, 1) := by decide +kernel
theorem d_M_datagram_161 : decode b_M_datagram 161 = .ok (.getfield 97, 3) := by decide +kernel
theorem d_M_datagram_164 : decode b_M_datagram 164 = .ok (.ireturn, 1) := by decide +kernel
theorem zin_M_190 : Cond.fieldLink R_M 190 "WireCodecModel" "framesEnd" "I" ∈ ztb := zmem 949 (by decide +kernel) (by decide +kernel)
theorem zin_M_193 : Cond.methodLink R_M 193 y_M_parse ∈ ztb := zmem 1103 (by decide +kernel) (by decide +kernel)
theorem zin_M_196 : Cond.methodLink R_M 196 y_M_isRight ∈ ztb := zmem 1142 (by decide +kernel) (by decide +kernel)
theorem zin_M_199 : Cond.methodLink R_M 199 y_M_flaw ∈ ztb := zmem 1095 (by decide +kernel) (by decide +kernel)
theorem zin_M_18 : Cond.fieldLink R_M 18 "WireCodecModel" "frameAt" "[I" ∈ ztb := zmem 948 (by decide +kernel) (by decide +kernel)
theorem zin_M_208 : Cond.methodLink R_M 208 y_M_parsed ∈ ztb := zmem 1164 (by decide +kernel) (by decide +kernel)
theorem zin_M_251 : Cond.methodLink R_M 251 y_M_longFlaw ∈ ztb := zmem 1242 (by decide +kernel) (by decide +kernel)
theorem zin_M_248 : Cond.methodLink R_M 248 y_M_shortFlaw ∈ ztb := zmem 1238 (by decide +kernel) (by decide +kernel)
theorem zin_M_259 : Cond.methodLink R_M 259 y_M_headerFlaw ∈ ztb := zmem 1230 (by decide +kernel) (by decide +kernel)
theorem zin_M_262 : Cond.methodLink R_M 262 y_M_isSame ∈ ztb := zmem 1254 (by decide +kernel) (by decide +kernel)
noncomputable def g_M_flaw_70 (N : Nat) (sM : zM) (s0 : Int32) : Option (Int32 × zM) := some (s0, sM)
noncomputable def g_M_flaw_c59 (N : Nat) (sM_59 : zM) (r_59 : Int32) : Option (Int32 × zM) := if r_59 = (0 : Int32) then (g_M_flaw_70 N sM_59 (3 : Int32)) else (g_M_flaw_70 N sM_59 (0 : Int32))
noncomputable def g_M_flaw_c43 (N : Nat) (v3 : Int32) (sM_43 : zM) : Option (Int32 × zM) := if (zM_over sM_43) = (0 : Int32) then ((g_M_isRight N sM_43 v3).bind (fun a => g_M_flaw_c59 N a.2 a.1)) else (g_M_flaw_70 N sM_43 (1 : Int32))
noncomputable def g_M_flaw_37 (N : Nat) (sM : zM) (v1 : Int32) (v3 : Int32) : Option (Int32 × zM) := (g_M_parse N sM v1 (zM_framesEnd sM)).bind (fun a => g_M_flaw_c43 N v3 a)
noncomputable def g_M_flaw_c2 (N : Nat) (sM : zM) (v1 : Int32) (v2 : Int32) (r_2 : Int32) : Option (Int32 × zM) := if r_2 = (-1 : Int32) then (some ((2 : Int32), sM)) else (if (2 : Int32) ≤ v2 then (g_M_flaw_37 N sM v1 r_2) else (if r_2 ≤ (3 : Int32) then (g_M_flaw_37 N sM v1 r_2) else (if r_2 = (6 : Int32) then (g_M_flaw_37 N sM v1 r_2) else (if r_2 = (28 : Int32) then (g_M_flaw_37 N sM v1 r_2) else (some ((4 : Int32), sM))))))
noncomputable def g_M_flaw (N : Nat) (sM : zM) (v1 : Int32) (v2 : Int32) : Option (Int32 × zM) := (g_M_kindAt sM v1).bind (fun a => g_M_flaw_c2 N sM v1 v2 a)
def q_M_flaw (dC : Nat → ClassId) (dI : Nat → Nat → Nat) (cB cI cL : ClassId) (A : Nat → Prop) (adM : Nat) (adM_tape : Nat) (adM_frameAt : Nat) (adM_field : Nat) (adM_draft : Nat) (adM_given : Nat) (adM_low : Nat) (adM_high : Nat) (adM_packet : Nat) (adM_known : Nat) (a : Int32 × zM) : Array Value → State → Outcome → State → Prop := va_Qi (fun (r : Int32) (u : zM) => (r, u) = a) (fun u U => va_P (dC, dI) zcl (zwM adM adM_tape adM_frameAt adM_field adM_draft adM_given adM_low adM_high adM_packet adM_known cB cI cL u) U.heap ∧ va_D A (zwM adM adM_tape adM_frameAt adM_field adM_draft adM_given adM_low adM_high adM_packet adM_known cB cI cL u)) A
set_option maxRecDepth 100000 in
set_option maxHeartbeats 4000000 in
theorem k_M_flaw_70 {p : Program} {l : Launch} {e : Env} {R : Room} {s : State} {m : MethodId} {args : Array Value} {below : List Frame} {meth : Method} {c : Code} {dC : Nat → ClassId} {dI : Nat → Nat → Nat} {cB cI cL : ClassId} {A : Nat → Prop} (X : zx p s m args meth c R R_M b_M_flaw (some .int) 4 6 134) (hA : ∀ q, s.heap.size ≤ q → A q) (zz : zk dC dI cB cI cL A s)  (N : Nat) (sM : zM) (s0 : Int32) (a : Int32 × zM) (hG : g_M_flaw_70 N sM s0 = some a) (adM adM_tape adM_frameAt adM_field adM_draft adM_given adM_low adM_high adM_packet adM_known : Nat) (H : Heap) (locs : List Loc) (hP : va_P (dC, dI) zcl (zwM adM adM_tape adM_frameAt adM_field adM_draft adM_given adM_low adM_high adM_packet adM_known cB cI cL sM) H) (hD : va_D A (zwM adM adM_tape adM_frameAt adM_field adM_draft adM_given adM_low adM_high adM_packet adM_known cB cI cL sM)) (hS : va_S A s.heap H locs) (ls : Array Slot) (hl : lv_has ls 4 []) : W p l e R s m args below meth c H locs 0 0 (MQ below (q_M_flaw dC dI cB cI cL A adM adM_tape adM_frameAt adM_field adM_draft adM_given adM_low adM_high adM_packet adM_known a) args s 0 0 A) (F0 m 70 ls [.int s0]) := by
  obtain ⟨hx, hb, hr, hml, hown, hts, hlocks, hRf, hRl⟩ := id X
  unfold g_M_flaw_70 at hG
  exact W.iret (v := s0) hx hb hr (fun t9 ht9 hW9 => ⟨⟨s0, (sM), rfl, Option.some.inj hG, by rw [ht9]; exact hP, hD⟩, hS.F ht9⟩) hS.2.2 d_M_flaw_70
set_option maxRecDepth 100000 in
set_option maxHeartbeats 4000000 in
theorem k_M_flaw_37 {p : Program} {l : Launch} {e : Env} {R : Room} {s : State} {m : MethodId} {args : Array Value} {below : List Frame} {meth : Method} {c : Code} {dC : Nat → ClassId} {dI : Nat → Nat → Nat} {cB cI cL : ClassId} {A : Nat → Prop} (X : zx p s m args meth c R R_M b_M_flaw (some .int) 4 6 134) (hA : ∀ q, s.heap.size ≤ q → A q) (zz : zk dC dI cB cI cL A s)  (N : Nat) (sM : zM) (v1 : Int32) (v3 : Int32) (a : Int32 × zM) (hG : g_M_flaw_37 N sM v1 v3 = some a) (adM adM_tape adM_frameAt adM_field adM_draft adM_given adM_low adM_high adM_packet adM_known : Nat) (H : Heap) (locs : List Loc) (hP : va_P (dC, dI) zcl (zwM adM adM_tape adM_frameAt adM_field adM_draft adM_given adM_low adM_high adM_packet adM_known cB cI cL sM) H) (hD : va_D A (zwM adM adM_tape adM_frameAt adM_field adM_draft adM_given adM_low adM_high adM_packet adM_known cB cI cL sM)) (hS : va_S A s.heap H locs) (ls : Array Slot) (hl : lv_has ls 4 [(0, .ref adM), (1, .int v1), (3, .int v3)]) : W p l e R s m args below meth c H locs 0 0 (MQ below (q_M_flaw dC dI cB cI cL A adM adM_tape adM_frameAt adM_field adM_draft adM_given adM_low adM_high adM_packet adM_known a) args s 0 0 A) (F0 m 37 ls []) := by
  obtain ⟨hx, hb, hr, hml, hown, hts, hlocks, hRf, hRl⟩ := id X
  unfold g_M_flaw_37 at hG
  refine lv_aload_n hx hb d_M_flaw_37 rfl (lv_at hl 0 rfl) ?_
  refine lv_iload_n hx hb d_M_flaw_38 rfl (lv_at hl 1 rfl) ?_
  refine lv_aload_n hx hb d_M_flaw_39 rfl (lv_at hl 0 rfl) ?_
  refine va_get (D := (dC, dI)) (ci := 8) (v := .int (zM_framesEnd sM)) (C := R_M) (T := F_M) (N := 26) hx hb hts zi_M hown zz.1 hP 0 rfl rfl 7 (by decide) (hts (.fieldLink R_M 190 "WireCodecModel" "framesEnd" "I") zin_M_190) (fun _ h9 => h9) rfl d_M_flaw_40 ?_
  obtain ⟨a_43, hx_43, hG⟩ := zb hG
  have hr_43 := zrunV (p := p) (e := e) (below := below) (meth := meth) (As := [.int v1, .int (zM_framesEnd sM)]) (rest := []) (st0 := [.int (zM_framesEnd sM), .int v1, .ref adM]) (cells := 0) (slots := 0) X zz hP hD hS hA [0, 1, 2, 3, 4, 5, 6, 7, 8, 9] (by decide) rfl (c_M_parse l dC dI cB cI cL H.size adM adM_tape adM_frameAt adM_field adM_draft adM_given adM_low adM_high adM_packet adM_known N sM v1 (zM_framesEnd sM) _ hx_43) zy_M_parse zv_M_parse (hts (.methodLink R_M 193 y_M_parse) zin_M_193) hl rfl rfl d_M_flaw_43 (lv_room (Nat.le_of_ble_eq_true rfl)) rfl rfl ⟨Nat.le_trans (Nat.le_of_ble_eq_true rfl) hRf, Nat.le_trans (Nat.le_of_ble_eq_true rfl) hRl⟩ ⟨Nat.zero_le _, Nat.zero_le _⟩ 0 8 rfl rfl
  refine zcallv (wr := ([] : va_W)) hr_43 hP hD hS hA [0, 1, 2, 3, 4, 5, 6, 7, 8, 9] [] rfl rfl (by decide) (by decide) (fun u_43 H locs hw_43 hP hD hS => ?_)
  obtain ⟨sM_43, rfl⟩ : ∃ z, z = u_43 := ⟨_, rfl⟩
  subst hw_43
  have hP : va_P (dC, dI) zcl (zwM adM adM_tape adM_frameAt adM_field adM_draft adM_given adM_low adM_high adM_packet adM_known cB cI cL sM_43) H := hP
  have hD : va_D A (zwM adM adM_tape adM_frameAt adM_field adM_draft adM_given adM_low adM_high adM_packet adM_known cB cI cL sM_43) := hD
  have hG : g_M_flaw_c43 N v3 sM_43 = some a := hG
  unfold g_M_flaw_c43 at hG
  refine lv_aload_n hx hb d_M_flaw_46 rfl (lv_at hl 0 rfl) ?_
  refine va_get (D := (dC, dI)) (ci := 8) (v := .int (zM_over sM_43)) (C := R_M) (T := F_M) (N := 26) hx hb hts zi_M hown zz.1 hP 0 rfl rfl 15 (by decide) (hts (.fieldLink R_M 116 "WireCodecModel" "over" "Z") zin_M_116) (fun _ h9 => h9) rfl d_M_flaw_47 ?_
  refine lv_if_eq (tgt := 57) hx hb d_M_flaw_50 (by decide) (fun hc => ?_) (fun hc => ?_)
  · have hG := zt hG hc
    refine lv_aload_n hx hb d_M_flaw_57 rfl (lv_at hl 0 rfl) ?_
    refine lv_iload_n hx hb d_M_flaw_58 rfl (lv_at hl 2 rfl) ?_
    obtain ⟨a_59, hx_59, hG⟩ := zb hG
    have hr_59 := zrunV (p := p) (e := e) (below := below) (meth := meth) (As := [.int v3]) (rest := []) (st0 := [.int v3, .ref adM]) (cells := 0) (slots := 0) X zz hP hD hS hA [0, 1, 2, 3, 4, 5, 6, 7, 8, 9] (by decide) rfl (c_M_isRight l dC dI cB cI cL H.size adM adM_tape adM_frameAt adM_field adM_draft adM_given adM_low adM_high adM_packet adM_known N sM_43 v3 _ hx_59) zy_M_isRight zv_M_isRight (hts (.methodLink R_M 196 y_M_isRight) zin_M_196) hl rfl rfl d_M_flaw_59 (lv_room (Nat.le_of_ble_eq_true rfl)) rfl rfl ⟨Nat.le_trans (Nat.le_of_ble_eq_true rfl) hRf, Nat.le_trans (Nat.le_of_ble_eq_true rfl) hRl⟩ ⟨Nat.zero_le _, Nat.zero_le _⟩ 0 8 rfl rfl
    refine zcalli (wr := ([] : va_W)) hr_59 hP hD hS hA [0, 1, 2, 3, 4, 5, 6, 7, 8, 9] [] rfl rfl (by decide) (by decide) (fun r_59 u_59 H locs hw_59 hP hD hS => ?_)
    obtain ⟨sM_59, rfl⟩ : ∃ z, z = u_59 := ⟨_, rfl⟩
    subst hw_59
    have hP : va_P (dC, dI) zcl (zwM adM adM_tape adM_frameAt adM_field adM_draft adM_given adM_low adM_high adM_packet adM_known cB cI cL sM_59) H := hP
    have hD : va_D A (zwM adM adM_tape adM_frameAt adM_field adM_draft adM_given adM_low adM_high adM_packet adM_known cB cI cL sM_59) := hD
    have hG : g_M_flaw_c59 N sM_59 r_59 = some a := hG
    unfold g_M_flaw_c59 at hG
    refine lv_if_eq (tgt := 69) hx hb d_M_flaw_62 (by decide) (fun hc => ?_) (fun hc => ?_)
    · have hG := zt hG hc
      refine lv_iconst (v := (3 : Int32)) hx hb d_M_flaw_69 (by decide) ?_
      exact k_M_flaw_70 X hA zz N sM_59 (3 : Int32) _ hG adM adM_tape adM_frameAt adM_field adM_draft adM_given adM_low adM_high adM_packet adM_known _ _ hP hD hS _ (lv_sub hl [] rfl)
    · have hG := zf hG hc
      refine lv_iconst (v := (0 : Int32)) hx hb d_M_flaw_65 (by decide) ?_
      refine lv_goto (tgt := 70) hx hb d_M_flaw_66 (by decide) ?_
      exact k_M_flaw_70 X hA zz N sM_59 (0 : Int32) _ hG adM adM_tape adM_frameAt adM_field adM_draft adM_given adM_low adM_high adM_packet adM_known _ _ hP hD hS _ (lv_sub hl [] rfl)
  · have hG := zf hG hc
    refine lv_iconst (v := (1 : Int32)) hx hb d_M_flaw_53 (by decide) ?_
    refine lv_goto (tgt := 70) hx hb d_M_flaw_54 (by decide) ?_
    exact k_M_flaw_70 X hA zz N sM_43 (1 : Int32) _ hG adM adM_tape adM_frameAt adM_field adM_draft adM_given adM_low adM_high adM_packet adM_known _ _ hP hD hS _ (lv_sub hl [] rfl)
set_option maxRecDepth 100000 in
set_option maxHeartbeats 4000000 in
theorem k_M_flaw_0 {p : Program} {l : Launch} {e : Env} {R : Room} {s : State} {m : MethodId} {args : Array Value} {below : List Frame} {meth : Method} {c : Code} {dC : Nat → ClassId} {dI : Nat → Nat → Nat} {cB cI cL : ClassId} {A : Nat → Prop} (X : zx p s m args meth c R R_M b_M_flaw (some .int) 4 6 134) (hA : ∀ q, s.heap.size ≤ q → A q) (zz : zk dC dI cB cI cL A s)  (N : Nat) (sM : zM) (v1 : Int32) (v2 : Int32) (a : Int32 × zM) (hG : g_M_flaw N sM v1 v2 = some a) (adM adM_tape adM_frameAt adM_field adM_draft adM_given adM_low adM_high adM_packet adM_known : Nat) (H : Heap) (locs : List Loc) (hP : va_P (dC, dI) zcl (zwM adM adM_tape adM_frameAt adM_field adM_draft adM_given adM_low adM_high adM_packet adM_known cB cI cL sM) H) (hD : va_D A (zwM adM adM_tape adM_frameAt adM_field adM_draft adM_given adM_low adM_high adM_packet adM_known cB cI cL sM)) (hS : va_S A s.heap H locs) (ls : Array Slot) (hl : lv_has ls 4 [(0, .ref adM), (1, .int v1), (2, .int v2)]) : W p l e R s m args below meth c H locs 0 0 (MQ below (q_M_flaw dC dI cB cI cL A adM adM_tape adM_frameAt adM_field adM_draft adM_given adM_low adM_high adM_packet adM_known a) args s 0 0 A) (F0 m 0 ls []) := by
  obtain ⟨hx, hb, hr, hml, hown, hts, hlocks, hRf, hRl⟩ := id X
  unfold g_M_flaw at hG
  refine lv_aload_n hx hb d_M_flaw_0 rfl (lv_at hl 0 rfl) ?_
  refine lv_iload_n hx hb d_M_flaw_1 rfl (lv_at hl 1 rfl) ?_
  obtain ⟨a_2, hx_2, hG⟩ := zb hG
  have hr_2 := zrunV (p := p) (e := e) (below := below) (meth := meth) (As := [.int v1]) (rest := []) (st0 := [.int v1, .ref adM]) (cells := 0) (slots := 0) X zz hP hD hS hA [0, 1, 2, 3, 4, 5, 6, 7, 8, 9] (by decide) rfl (c_M_kindAt l dC dI cB cI cL H.size adM adM_tape adM_frameAt adM_field adM_draft adM_given adM_low adM_high adM_packet adM_known sM v1 _ hx_2) zy_M_kindAt zv_M_kindAt (hts (.methodLink R_M 165 y_M_kindAt) zin_M_165) hl rfl rfl d_M_flaw_2 (lv_room (Nat.le_of_ble_eq_true rfl)) rfl rfl ⟨Nat.le_trans (Nat.le_of_ble_eq_true rfl) hRf, Nat.le_trans (Nat.le_of_ble_eq_true rfl) hRl⟩ ⟨Nat.zero_le _, Nat.zero_le _⟩ 0 8 rfl rfl
  refine zcalli (wr := ([] : va_W)) hr_2 hP hD hS hA [0, 1, 2, 3, 4, 5, 6, 7, 8, 9] [] rfl rfl (by decide) (by decide) (fun r_2 u_2 H locs hw_2 hP hD hS => ?_)
  subst hw_2
  have hP : va_P (dC, dI) zcl (zwM adM adM_tape adM_frameAt adM_field adM_draft adM_given adM_low adM_high adM_packet adM_known cB cI cL sM) H := hP
  have hD : va_D A (zwM adM adM_tape adM_frameAt adM_field adM_draft adM_given adM_low adM_high adM_packet adM_known cB cI cL sM) := hD
  have hG : g_M_flaw_c2 N sM v1 v2 r_2 = some a := hG
  unfold g_M_flaw_c2 at hG
  refine lv_istore_n (lv' := [(3, .int r_2), (0, .ref adM), (1, .int v1), (2, .int v2)]) hx hb d_M_flaw_5 rfl hl (by decide) rfl (fun ls hl => ?_)
  refine lv_iload_n hx hb d_M_flaw_6 rfl (lv_at hl 0 rfl) ?_
  refine lv_iconst (v := (-1 : Int32)) hx hb d_M_flaw_7 (by decide) ?_
  refine lv_icmp_ne (tgt := 13) hx hb d_M_flaw_8 (by decide) (fun hc => ?_) (fun hc => ?_)
  · have hG := zf hG hc
    refine lv_iload_n hx hb d_M_flaw_13 rfl (lv_at hl 3 rfl) ?_
    refine lv_iconst (v := (2 : Int32)) hx hb d_M_flaw_14 (by decide) ?_
    refine lv_icmp_ge (tgt := 37) hx hb d_M_flaw_15 (by decide) (fun hc => ?_) (fun hc => ?_)
    · have hG := zt hG hc
      exact k_M_flaw_37 X hA zz N sM v1 r_2 _ hG adM adM_tape adM_frameAt adM_field adM_draft adM_given adM_low adM_high adM_packet adM_known _ _ hP hD hS _ (lv_sub hl [1, 2, 0] rfl)
    · have hG := zf hG hc
      refine lv_iload_n hx hb d_M_flaw_18 rfl (lv_at hl 0 rfl) ?_
      refine lv_iconst (v := (3 : Int32)) hx hb d_M_flaw_19 (by decide) ?_
      refine lv_icmp_le (tgt := 37) hx hb d_M_flaw_20 (by decide) (fun hc => ?_) (fun hc => ?_)
      · have hG := zt hG hc
        exact k_M_flaw_37 X hA zz N sM v1 r_2 _ hG adM adM_tape adM_frameAt adM_field adM_draft adM_given adM_low adM_high adM_packet adM_known _ _ hP hD hS _ (lv_sub hl [1, 2, 0] rfl)
      · have hG := zf hG hc
        refine lv_iload_n hx hb d_M_flaw_23 rfl (lv_at hl 0 rfl) ?_
        refine lv_bipush (v := (6 : Int32)) hx hb d_M_flaw_24 (by decide) ?_
        refine lv_icmp_eq (tgt := 37) hx hb d_M_flaw_26 (by decide) (fun hc => ?_) (fun hc => ?_)
        · have hG := zt hG hc
          exact k_M_flaw_37 X hA zz N sM v1 r_2 _ hG adM adM_tape adM_frameAt adM_field adM_draft adM_given adM_low adM_high adM_packet adM_known _ _ hP hD hS _ (lv_sub hl [1, 2, 0] rfl)
        · have hG := zf hG hc
          refine lv_iload_n hx hb d_M_flaw_29 rfl (lv_at hl 0 rfl) ?_
          refine lv_bipush (v := (28 : Int32)) hx hb d_M_flaw_30 (by decide) ?_
          refine lv_icmp_eq (tgt := 37) hx hb d_M_flaw_32 (by decide) (fun hc => ?_) (fun hc => ?_)
          · have hG := zt hG hc
            exact k_M_flaw_37 X hA zz N sM v1 r_2 _ hG adM adM_tape adM_frameAt adM_field adM_draft adM_given adM_low adM_high adM_packet adM_known _ _ hP hD hS _ (lv_sub hl [1, 2, 0] rfl)
          · have hG := zf hG hc
            refine lv_iconst (v := (4 : Int32)) hx hb d_M_flaw_35 (by decide) ?_
            exact W.iret (v := (4 : Int32)) hx hb hr (fun t9 ht9 hW9 => ⟨⟨(4 : Int32), (sM), rfl, Option.some.inj hG, by rw [ht9]; exact hP, hD⟩, hS.F ht9⟩) hS.2.2 d_M_flaw_36
  · have hG := zt hG hc
    refine lv_iconst (v := (2 : Int32)) hx hb d_M_flaw_11 (by decide) ?_
    exact W.iret (v := (2 : Int32)) hx hb hr (fun t9 ht9 hW9 => ⟨⟨(2 : Int32), (sM), rfl, Option.some.inj hG, by rw [ht9]; exact hP, hD⟩, hS.F ht9⟩) hS.2.2 d_M_flaw_12
set_option maxRecDepth 100000 in
set_option maxHeartbeats 4000000 in
theorem c_M_flaw (l : Launch) (dC : Nat → ClassId) (dI : Nat → Nat → Nat) (cB cI cL : ClassId) (sz : Nat) (adM adM_tape adM_frameAt adM_field adM_draft adM_given adM_low adM_high adM_packet adM_known : Nat) (N : Nat) (sM : zM) (v1 : Int32) (v2 : Int32) (a : Int32 × zM) (hG : g_M_flaw N sM v1 v2 = some a) : Met l y_M_flaw (zw y_M_flaw b_M_flaw 4 (some .int)) ({ frames := 6, cells := 0, slots := 0, locals := 134 }) (va_Pc [.ref adM, .int v1, .int v2] (zpre dC dI cB cI cL sz (zwM adM adM_tape adM_frameAt adM_field adM_draft adM_given adM_low adM_high adM_packet adM_known cB cI cL sM))) (q_M_flaw dC dI cB cI cL (va_A (zwM adM adM_tape adM_frameAt adM_field adM_draft adM_given adM_low adM_high adM_packet adM_known cB cI cL sM) sz) adM adM_tape adM_frameAt adM_field adM_draft adM_given adM_low adM_high adM_packet adM_known a) 0 0 (va_A (zwM adM adM_tape adM_frameAt adM_field adM_draft adM_given adM_low adM_high adM_packet adM_known cB cI cL sM) sz) := by
  refine Met.ofW (cc := b_M_flaw) (maxL := 4) (ret := (some .int)) (by decide) rfl ?_
  intro p e s m args below meth c s₁ B hml hv
  obtain ⟨rfl, hsz, hP, zz, hD0⟩ := hv
  subst hsz
  have X := zx_of (F := 6) (L := 134) B hml (Nat.le_refl _) (Nat.le_refl _)
  have hD := hD0.self (sz := s.heap.size)
  have hA : ∀ q : Nat, s.heap.size ≤ q → va_A (zwM adM adM_tape adM_frameAt adM_field adM_draft adM_given adM_low adM_high adM_packet adM_known cB cI cL sM) s.heap.size q := fun q h => Or.inr h
  have hl := lv_entry ([.ref adM, .int v1, .int v2]) (n := 4) (Nat.le_of_ble_eq_true rfl)
  rw [lg_entry_eq]
  generalize (lg_sl ([.ref adM, .int v1, .int v2]) ++ List.replicate (4 - (lg_sl ([.ref adM, .int v1, .int v2])).length) Slot.unset).toArray = ls at hl ⊢
  exact k_M_flaw_0 X hA zz N sM v1 v2 a hG adM adM_tape adM_frameAt adM_field adM_draft adM_given adM_low adM_high adM_packet adM_known _ _ hP hD va_S.rf ls hl
noncomputable def g_M_frames_116 (N : Nat) (sM : zM) : Option (Int32 × zM) := some (zM_frames sM, sM)
noncomputable def g_M_frames_w105 (kr : zM → Int32 → Int32 → Option (Int32 × zM)) (v2 : Int32) (sM_105 : zM) : Option (Int32 × zM) := kr sM_105 v2 (zM_at sM_105)
noncomputable def g_M_frames_w97 (kr : zM → Int32 → Int32 → Option (Int32 × zM)) (v2 : Int32) (sM_97 : zM) : Option (Int32 × zM) := g_M_frames_w105 kr v2 (zM_frames' sM_97 ((zM_frames sM_97) + (1 : Int32)))
noncomputable def g_M_frames_c78 (kr : zM → Int32 → Int32 → Option (Int32 × zM)) (v2 : Int32) (v3 : Int32) (sM_78 : zM) : Option (Int32 × zM) := if (zM_fault sM_78) = (0 : Int32) then (zg (vp_in (zM_frames sM_78) 65536) (g_M_frames_w97 kr v2 (zM_frameAt' sM_78 (upd (zM_frameAt sM_78) ((zM_frames sM_78).toNatClampNeg) v3)))) else (kr sM_78 v2 v3)
noncomputable def g_M_frames_c74 (kr : zM → Int32 → Int32 → Option (Int32 × zM)) (v2 : Int32) (v3 : Int32) (sM_74 : zM) (r_74 : Int32) : Option (Int32 × zM) := (g_M_tell sM_74 r_74 v3).bind (fun a => g_M_frames_c78 kr v2 v3 a)
noncomputable def g_M_frames_55_b (N : Nat) (kr : zM → Int32 → Int32 → Option (Int32 × zM)) (sM : zM) (v2 : Int32) (v3 : Int32) : Option (Int32 × zM) := if (zM_size sM) ≤ v3 then (g_M_frames_116 N sM) else (if (zM_fault sM) = (0 : Int32) then ((g_M_flaw N sM v3 v2).bind (fun a => g_M_frames_c74 kr v2 v3 a.2 a.1)) else (g_M_frames_116 N sM))
noncomputable def g_M_frames_55 (N : Nat) : Nat → zM → Int32 → Int32 → Option (Int32 × zM)
  | 0 => fun _ _ _ => none
  | k + 1 => fun sM v2 v3 => g_M_frames_55_b N (g_M_frames_55 N k) sM v2 v3
noncomputable def g_M_frames_w50 (N : Nat) (v1 : Int32) (v2 : Int32) (sM_50 : zM) : Option (Int32 × zM) := g_M_frames_55 N N sM_50 v2 v1
noncomputable def g_M_frames_c42 (N : Nat) (v1 : Int32) (v2 : Int32) (sM_42 : zM) : Option (Int32 × zM) := g_M_frames_w50 N v1 v2 (zM_framesEnd' sM_42 (zM_size sM_42))
noncomputable def g_M_frames_c33 (N : Nat) (v1 : Int32) (v2 : Int32) (sM_33 : zM) (r_33 : Int32) : Option (Int32 × zM) := if r_33 = (0 : Int32) then ((g_M_begin sM_33).bind (fun a => g_M_frames_c42 N v1 v2 a)) else (some ((0 : Int32), sM_33))
noncomputable def g_M_frames_32 (N : Nat) (sM : zM) (v1 : Int32) (v2 : Int32) (s0 : Int32) : Option (Int32 × zM) := (g_M_fails sM s0 (1 : Int32)).bind (fun a => g_M_frames_c33 N v1 v2 a.2 a.1)
noncomputable def g_M_frames_27 (N : Nat) (sM : zM) (v1 : Int32) (v2 : Int32) : Option (Int32 × zM) := g_M_frames_32 N sM v1 v2 (1 : Int32)
noncomputable def g_M_frames_c21 (N : Nat) (sM : zM) (v1 : Int32) (v2 : Int32) (r_21 : Int32) : Option (Int32 × zM) := if r_21 = (0 : Int32) then (g_M_frames_27 N sM v1 v2) else (g_M_frames_32 N sM v1 v2 (0 : Int32))
noncomputable def g_M_frames_c9 (N : Nat) (sM : zM) (v1 : Int32) (v2 : Int32) (r_9 : Int32) : Option (Int32 × zM) := if r_9 = (0 : Int32) then (g_M_frames_27 N sM v1 v2) else ((g_M_within v2.toInt64 (0 : Int64) (2 : Int64)).bind (fun a => g_M_frames_c21 N sM v1 v2 a))
noncomputable def g_M_frames (N : Nat) (sM : zM) (v1 : Int32) (v2 : Int32) : Option (Int32 × zM) := (g_M_within v1.toInt64 (0 : Int64) ((zM_size sM).toInt64)).bind (fun a => g_M_frames_c9 N sM v1 v2 a)
def q_M_frames (dC : Nat → ClassId) (dI : Nat → Nat → Nat) (cB cI cL : ClassId) (A : Nat → Prop) (adM : Nat) (adM_tape : Nat) (adM_frameAt : Nat) (adM_field : Nat) (adM_draft : Nat) (adM_given : Nat) (adM_low : Nat) (adM_high : Nat) (adM_packet : Nat) (adM_known : Nat) (a : Int32 × zM) : Array Value → State → Outcome → State → Prop := va_Qi (fun (r : Int32) (u : zM) => (r, u) = a) (fun u U => va_P (dC, dI) zcl (zwM adM adM_tape adM_frameAt adM_field adM_draft adM_given adM_low adM_high adM_packet adM_known cB cI cL u) U.heap ∧ va_D A (zwM adM adM_tape adM_frameAt adM_field adM_draft adM_given adM_low adM_high adM_packet adM_known cB cI cL u)) A
set_option maxRecDepth 100000 in
set_option maxHeartbeats 4000000 in
theorem k_M_frames_116 {p : Program} {l : Launch} {e : Env} {R : Room} {s : State} {m : MethodId} {args : Array Value} {below : List Frame} {meth : Method} {c : Code} {dC : Nat → ClassId} {dI : Nat → Nat → Nat} {cB cI cL : ClassId} {A : Nat → Prop} (X : zx p s m args meth c R R_M b_M_frames (some .int) 4 7 157) (hA : ∀ q, s.heap.size ≤ q → A q) (zz : zk dC dI cB cI cL A s)  (N : Nat) (sM : zM) (a : Int32 × zM) (hG : g_M_frames_116 N sM = some a) (adM adM_tape adM_frameAt adM_field adM_draft adM_given adM_low adM_high adM_packet adM_known : Nat) (H : Heap) (locs : List Loc) (hP : va_P (dC, dI) zcl (zwM adM adM_tape adM_frameAt adM_field adM_draft adM_given adM_low adM_high adM_packet adM_known cB cI cL sM) H) (hD : va_D A (zwM adM adM_tape adM_frameAt adM_field adM_draft adM_given adM_low adM_high adM_packet adM_known cB cI cL sM)) (hS : va_S A s.heap H locs) (ls : Array Slot) (hl : lv_has ls 4 [(0, .ref adM)]) : W p l e R s m args below meth c H locs 0 0 (MQ below (q_M_frames dC dI cB cI cL A adM adM_tape adM_frameAt adM_field adM_draft adM_given adM_low adM_high adM_packet adM_known a) args s 0 0 A) (F0 m 116 ls []) := by
  obtain ⟨hx, hb, hr, hml, hown, hts, hlocks, hRf, hRl⟩ := id X
  unfold g_M_frames_116 at hG
  refine lv_aload_n hx hb d_M_frames_116 rfl (lv_at hl 0 rfl) ?_
  refine va_get (D := (dC, dI)) (ci := 8) (v := .int (zM_frames sM)) (C := R_M) (T := F_M) (N := 26) hx hb hts zi_M hown zz.1 hP 0 rfl rfl 5 (by decide) (hts (.fieldLink R_M 94 "WireCodecModel" "frames" "I") zin_M_94) (fun _ h9 => h9) rfl d_M_frames_117 ?_
  exact W.iret (v := zM_frames sM) hx hb hr (fun t9 ht9 hW9 => ⟨⟨zM_frames sM, (sM), rfl, Option.some.inj hG, by rw [ht9]; exact hP, hD⟩, hS.F ht9⟩) hS.2.2 d_M_frames_120
set_option maxRecDepth 100000 in
set_option maxHeartbeats 4000000 in
theorem k_M_frames_55_b {p : Program} {l : Launch} {e : Env} {R : Room} {s : State} {m : MethodId} {args : Array Value} {below : List Frame} {meth : Method} {c : Code} {dC : Nat → ClassId} {dI : Nat → Nat → Nat} {cB cI cL : ClassId} {A : Nat → Prop} (kr : zM → Int32 → Int32 → Option (Int32 × zM)) (hrec : ∀ (sM : zM) (v2 : Int32) (v3 : Int32) (a : Int32 × zM), kr sM v2 v3 = some a → ∀ (adM adM_tape adM_frameAt adM_field adM_draft adM_given adM_low adM_high adM_packet adM_known : Nat) (H : Heap) (locs : List Loc), va_P (dC, dI) zcl (zwM adM adM_tape adM_frameAt adM_field adM_draft adM_given adM_low adM_high adM_packet adM_known cB cI cL sM) H → va_D A (zwM adM adM_tape adM_frameAt adM_field adM_draft adM_given adM_low adM_high adM_packet adM_known cB cI cL sM) → va_S A s.heap H locs → ∀ ls : Array Slot, lv_has ls 4 [(0, .ref adM), (2, .int v2), (3, .int v3)] → W p l e R s m args below meth c H locs 0 0 (MQ below (q_M_frames dC dI cB cI cL A adM adM_tape adM_frameAt adM_field adM_draft adM_given adM_low adM_high adM_packet adM_known a) args s 0 0 A) (F0 m 55 ls [])) (X : zx p s m args meth c R R_M b_M_frames (some .int) 4 7 157) (hA : ∀ q, s.heap.size ≤ q → A q) (zz : zk dC dI cB cI cL A s)  (N : Nat) (sM : zM) (v2 : Int32) (v3 : Int32) (a : Int32 × zM) (hG : g_M_frames_55_b N kr sM v2 v3 = some a) (adM adM_tape adM_frameAt adM_field adM_draft adM_given adM_low adM_high adM_packet adM_known : Nat) (H : Heap) (locs : List Loc) (hP : va_P (dC, dI) zcl (zwM adM adM_tape adM_frameAt adM_field adM_draft adM_given adM_low adM_high adM_packet adM_known cB cI cL sM) H) (hD : va_D A (zwM adM adM_tape adM_frameAt adM_field adM_draft adM_given adM_low adM_high adM_packet adM_known cB cI cL sM)) (hS : va_S A s.heap H locs) (ls : Array Slot) (hl : lv_has ls 4 [(0, .ref adM), (2, .int v2), (3, .int v3)]) : W p l e R s m args below meth c H locs 0 0 (MQ below (q_M_frames dC dI cB cI cL A adM adM_tape adM_frameAt adM_field adM_draft adM_given adM_low adM_high adM_packet adM_known a) args s 0 0 A) (F0 m 55 ls []) := by
  obtain ⟨hx, hb, hr, hml, hown, hts, hlocks, hRf, hRl⟩ := id X
  unfold g_M_frames_55_b at hG
  refine lv_iload_n hx hb d_M_frames_55 rfl (lv_at hl 2 rfl) ?_
  refine lv_aload_n hx hb d_M_frames_56 rfl (lv_at hl 0 rfl) ?_
  refine va_get (D := (dC, dI)) (ci := 8) (v := .int (zM_size sM)) (C := R_M) (T := F_M) (N := 26) hx hb hts zi_M hown zz.1 hP 0 rfl rfl 2 (by decide) (hts (.fieldLink R_M 57 "WireCodecModel" "size" "I") zin_M_57) (fun _ h9 => h9) rfl d_M_frames_57 ?_
  refine lv_icmp_ge (tgt := 116) hx hb d_M_frames_60 (by decide) (fun hc => ?_) (fun hc => ?_)
  · have hG := zt hG hc
    exact k_M_frames_116 X hA zz N sM _ hG adM adM_tape adM_frameAt adM_field adM_draft adM_given adM_low adM_high adM_packet adM_known _ _ hP hD hS _ (lv_sub hl [0] rfl)
  · have hG := zf hG hc
    refine lv_aload_n hx hb d_M_frames_63 rfl (lv_at hl 0 rfl) ?_
    refine va_get (D := (dC, dI)) (ci := 8) (v := .int (zM_fault sM)) (C := R_M) (T := F_M) (N := 26) hx hb hts zi_M hown zz.1 hP 0 rfl rfl 3 (by decide) (hts (.fieldLink R_M 91 "WireCodecModel" "fault" "I") zin_M_91) (fun _ h9 => h9) rfl d_M_frames_64 ?_
    refine lv_if_ne (tgt := 116) hx hb d_M_frames_67 (by decide) (fun hc => ?_) (fun hc => ?_)
    · have hG := zf hG hc
      exact k_M_frames_116 X hA zz N sM _ hG adM adM_tape adM_frameAt adM_field adM_draft adM_given adM_low adM_high adM_packet adM_known _ _ hP hD hS _ (lv_sub hl [0] rfl)
    · have hG := zt hG hc
      refine lv_aload_n hx hb d_M_frames_70 rfl (lv_at hl 0 rfl) ?_
      refine lv_aload_n hx hb d_M_frames_71 rfl (lv_at hl 0 rfl) ?_
      refine lv_iload_n hx hb d_M_frames_72 rfl (lv_at hl 2 rfl) ?_
      refine lv_iload_n hx hb d_M_frames_73 rfl (lv_at hl 1 rfl) ?_
      obtain ⟨a_74, hx_74, hG⟩ := zb hG
      have hr_74 := zrunV (p := p) (e := e) (below := below) (meth := meth) (As := [.int v3, .int v2]) (rest := [.ref adM]) (st0 := [.int v2, .int v3, .ref adM, .ref adM]) (cells := 0) (slots := 0) X zz hP hD hS hA [0, 1, 2, 3, 4, 5, 6, 7, 8, 9] (by decide) rfl (c_M_flaw l dC dI cB cI cL H.size adM adM_tape adM_frameAt adM_field adM_draft adM_given adM_low adM_high adM_packet adM_known N sM v3 v2 _ hx_74) zy_M_flaw zv_M_flaw (hts (.methodLink R_M 199 y_M_flaw) zin_M_199) hl rfl rfl d_M_frames_74 (lv_room (Nat.le_of_ble_eq_true rfl)) rfl rfl ⟨Nat.le_trans (Nat.le_of_ble_eq_true rfl) hRf, Nat.le_trans (Nat.le_of_ble_eq_true rfl) hRl⟩ ⟨Nat.zero_le _, Nat.zero_le _⟩ 0 8 rfl rfl
      refine zcalli (wr := ([] : va_W)) hr_74 hP hD hS hA [0, 1, 2, 3, 4, 5, 6, 7, 8, 9] [] rfl rfl (by decide) (by decide) (fun r_74 u_74 H locs hw_74 hP hD hS => ?_)
      obtain ⟨sM_74, rfl⟩ : ∃ z, z = u_74 := ⟨_, rfl⟩
      subst hw_74
      have hP : va_P (dC, dI) zcl (zwM adM adM_tape adM_frameAt adM_field adM_draft adM_given adM_low adM_high adM_packet adM_known cB cI cL sM_74) H := hP
      have hD : va_D A (zwM adM adM_tape adM_frameAt adM_field adM_draft adM_given adM_low adM_high adM_packet adM_known cB cI cL sM_74) := hD
      have hG : g_M_frames_c74 kr v2 v3 sM_74 r_74 = some a := hG
      unfold g_M_frames_c74 at hG
      refine lv_iload_n hx hb d_M_frames_77 rfl (lv_at hl 2 rfl) ?_
      obtain ⟨a_78, hx_78, hG⟩ := zb hG
      have hr_78 := zrunV (p := p) (e := e) (below := below) (meth := meth) (As := [.int r_74, .int v3]) (rest := []) (st0 := [.int v3, .int r_74, .ref adM]) (cells := 0) (slots := 0) X zz hP hD hS hA [0, 1, 2, 3, 4, 5, 6, 7, 8, 9] (by decide) rfl (c_M_tell l dC dI cB cI cL H.size adM adM_tape adM_frameAt adM_field adM_draft adM_given adM_low adM_high adM_packet adM_known sM_74 r_74 v3 _ hx_78) zy_M_tell zv_M_tell (hts (.methodLink R_M 203 y_M_tell) zin_M_203) hl rfl rfl d_M_frames_78 (lv_room (Nat.le_of_ble_eq_true rfl)) rfl rfl ⟨Nat.le_trans (Nat.le_of_ble_eq_true rfl) hRf, Nat.le_trans (Nat.le_of_ble_eq_true rfl) hRl⟩ ⟨Nat.zero_le _, Nat.zero_le _⟩ 0 8 rfl rfl
      refine zcallv (wr := ([] : va_W)) hr_78 hP hD hS hA [0, 1, 2, 3, 4, 5, 6, 7, 8, 9] [] rfl rfl (by decide) (by decide) (fun u_78 H locs hw_78 hP hD hS => ?_)
      obtain ⟨sM_78, rfl⟩ : ∃ z, z = u_78 := ⟨_, rfl⟩
      subst hw_78
      have hP : va_P (dC, dI) zcl (zwM adM adM_tape adM_frameAt adM_field adM_draft adM_given adM_low adM_high adM_packet adM_known cB cI cL sM_78) H := hP
      have hD : va_D A (zwM adM adM_tape adM_frameAt adM_field adM_draft adM_given adM_low adM_high adM_packet adM_known cB cI cL sM_78) := hD
      have hG : g_M_frames_c78 kr v2 v3 sM_78 = some a := hG
      unfold g_M_frames_c78 at hG
      refine lv_aload_n hx hb d_M_frames_81 rfl (lv_at hl 0 rfl) ?_
      refine va_get (D := (dC, dI)) (ci := 8) (v := .int (zM_fault sM_78)) (C := R_M) (T := F_M) (N := 26) hx hb hts zi_M hown zz.1 hP 0 rfl rfl 3 (by decide) (hts (.fieldLink R_M 91 "WireCodecModel" "fault" "I") zin_M_91) (fun _ h9 => h9) rfl d_M_frames_82 ?_
      refine lv_if_ne (tgt := 55) hx hb d_M_frames_85 (by decide) (fun hc => ?_) (fun hc => ?_)
      · have hG := zf hG hc
        exact hrec sM_78 v2 v3 _ hG adM adM_tape adM_frameAt adM_field adM_draft adM_given adM_low adM_high adM_packet adM_known _ _ hP hD hS _ (lv_sub hl [0, 1, 2] rfl)
      · have hG := zt hG hc
        refine lv_aload_n hx hb d_M_frames_88 rfl (lv_at hl 0 rfl) ?_
        refine va_get (D := (dC, dI)) (ci := 8) (v := .ref adM_frameAt) (C := R_M) (T := F_M) (N := 26) hx hb hts zi_M hown zz.1 hP 0 rfl rfl 6 (by decide) (hts (.fieldLink R_M 18 "WireCodecModel" "frameAt" "[I") zin_M_18) (fun _ h9 => h9) rfl d_M_frames_89 ?_
        refine lv_aload_n hx hb d_M_frames_92 rfl (lv_at hl 0 rfl) ?_
        refine va_get (D := (dC, dI)) (ci := 8) (v := .int (zM_frames sM_78)) (C := R_M) (T := F_M) (N := 26) hx hb hts zi_M hown zz.1 hP 0 rfl rfl 5 (by decide) (hts (.fieldLink R_M 94 "WireCodecModel" "frames" "I") zin_M_94) (fun _ h9 => h9) rfl d_M_frames_93 ?_
        refine lv_iload_n hx hb d_M_frames_96 rfl (lv_at hl 2 rfl) ?_
        obtain ⟨hin, hG⟩ := zgd hG
        refine va_iast hx hb zz.1 hP hD hS 2 1 rfl rfl hin d_M_frames_97 (fun H locs hP hD hS => ?_)
        have hP := zp_M_frameAt hP
        have hD := zd_M_frameAt hD
        have hG : g_M_frames_w97 kr v2 (zM_frameAt' sM_78 (upd (zM_frameAt sM_78) ((zM_frames sM_78).toNatClampNeg) v3)) = some a := hG
        generalize zM_frameAt' sM_78 (upd (zM_frameAt sM_78) ((zM_frames sM_78).toNatClampNeg) v3) = sM_97 at hP hD hG
        unfold g_M_frames_w97 at hG
        refine lv_aload_n hx hb d_M_frames_98 rfl (lv_at hl 0 rfl) ?_
        refine lv_dup hx hb d_M_frames_99 rfl ?_
        refine va_get (D := (dC, dI)) (ci := 8) (v := .int (zM_frames sM_97)) (C := R_M) (T := F_M) (N := 26) hx hb hts zi_M hown zz.1 hP 0 rfl rfl 5 (by decide) (hts (.fieldLink R_M 94 "WireCodecModel" "frames" "I") zin_M_94) (fun _ h9 => h9) rfl d_M_frames_100 ?_
        refine lv_iconst (v := (1 : Int32)) hx hb d_M_frames_103 (by decide) ?_
        refine lv_iadd hx hb d_M_frames_104 ?_
        refine va_put (D := (dC, dI)) (ci := 8) (v := .int ((zM_frames sM_97) + (1 : Int32))) (ty := .int) (C := R_M) (T := F_M) (N := 26) hx hb hts zi_M zty_M zty_M_ok znm_M hown zz.1 hP hD hS 0 rfl rfl 5 (by decide) (hts (.fieldLink R_M 94 "WireCodecModel" "frames" "I") zin_M_94) (fun _ h9 => h9) rfl (by decide +kernel) rfl rfl (Nat.le_of_ble_eq_true rfl) d_M_frames_105 (fun H locs hP hD hS => ?_)
        have hP := zp_M_frames hP
        have hD := zd_M_frames hD
        have hG : g_M_frames_w105 kr v2 (zM_frames' sM_97 ((zM_frames sM_97) + (1 : Int32))) = some a := hG
        generalize zM_frames' sM_97 ((zM_frames sM_97) + (1 : Int32)) = sM_105 at hP hD hG
        unfold g_M_frames_w105 at hG
        refine lv_aload_n hx hb d_M_frames_108 rfl (lv_at hl 0 rfl) ?_
        refine va_get (D := (dC, dI)) (ci := 8) (v := .int (zM_at sM_105)) (C := R_M) (T := F_M) (N := 26) hx hb hts zi_M hown zz.1 hP 0 rfl rfl 14 (by decide) (hts (.fieldLink R_M 110 "WireCodecModel" "at" "I") zin_M_110) (fun _ h9 => h9) rfl d_M_frames_109 ?_
        refine lv_istore_n (lv' := [(3, .int (zM_at sM_105)), (0, .ref adM), (2, .int v2)]) hx hb d_M_frames_112 rfl hl (by decide) rfl (fun ls hl => ?_)
        refine lv_goto (tgt := 55) hx hb d_M_frames_113 (by decide) ?_
        exact hrec sM_105 v2 (zM_at sM_105) _ hG adM adM_tape adM_frameAt adM_field adM_draft adM_given adM_low adM_high adM_packet adM_known _ _ hP hD hS _ (lv_sub hl [1, 2, 0] rfl)
theorem k_M_frames_55 {p : Program} {l : Launch} {e : Env} {R : Room} {s : State} {m : MethodId} {args : Array Value} {below : List Frame} {meth : Method} {c : Code} {dC : Nat → ClassId} {dI : Nat → Nat → Nat} {cB cI cL : ClassId} {A : Nat → Prop} (X : zx p s m args meth c R R_M b_M_frames (some .int) 4 7 157) (hA : ∀ q, s.heap.size ≤ q → A q) (zz : zk dC dI cB cI cL A s)  (N : Nat) : ∀ (k : Nat) (sM : zM) (v2 : Int32) (v3 : Int32) (a : Int32 × zM) (hG : g_M_frames_55 N k sM v2 v3 = some a) (adM adM_tape adM_frameAt adM_field adM_draft adM_given adM_low adM_high adM_packet adM_known : Nat) (H : Heap) (locs : List Loc) (hP : va_P (dC, dI) zcl (zwM adM adM_tape adM_frameAt adM_field adM_draft adM_given adM_low adM_high adM_packet adM_known cB cI cL sM) H) (hD : va_D A (zwM adM adM_tape adM_frameAt adM_field adM_draft adM_given adM_low adM_high adM_packet adM_known cB cI cL sM)) (hS : va_S A s.heap H locs) (ls : Array Slot) (hl : lv_has ls 4 [(0, .ref adM), (2, .int v2), (3, .int v3)]), W p l e R s m args below meth c H locs 0 0 (MQ below (q_M_frames dC dI cB cI cL A adM adM_tape adM_frameAt adM_field adM_draft adM_given adM_low adM_high adM_packet adM_known a) args s 0 0 A) (F0 m 55 ls []) := by
  intro k
  induction k with
  | zero => intro sM v2 v3 a hG; exact absurd hG (by unfold g_M_frames_55; simp)
  | succ k ih => intro sM v2 v3 a hG adM adM_tape adM_frameAt adM_field adM_draft adM_given adM_low adM_high adM_packet adM_known H locs hP hD hS ls hl; exact k_M_frames_55_b _ ih X hA zz N sM v2 v3 a hG adM adM_tape adM_frameAt adM_field adM_draft adM_given adM_low adM_high adM_packet adM_known H locs hP hD hS ls hl
set_option maxRecDepth 100000 in
set_option maxHeartbeats 4000000 in
theorem k_M_frames_32 {p : Program} {l : Launch} {e : Env} {R : Room} {s : State} {m : MethodId} {args : Array Value} {below : List Frame} {meth : Method} {c : Code} {dC : Nat → ClassId} {dI : Nat → Nat → Nat} {cB cI cL : ClassId} {A : Nat → Prop} (X : zx p s m args meth c R R_M b_M_frames (some .int) 4 7 157) (hA : ∀ q, s.heap.size ≤ q → A q) (zz : zk dC dI cB cI cL A s)  (N : Nat) (sM : zM) (v1 : Int32) (v2 : Int32) (s0 : Int32) (a : Int32 × zM) (hG : g_M_frames_32 N sM v1 v2 s0 = some a) (adM adM_tape adM_frameAt adM_field adM_draft adM_given adM_low adM_high adM_packet adM_known : Nat) (H : Heap) (locs : List Loc) (hP : va_P (dC, dI) zcl (zwM adM adM_tape adM_frameAt adM_field adM_draft adM_given adM_low adM_high adM_packet adM_known cB cI cL sM) H) (hD : va_D A (zwM adM adM_tape adM_frameAt adM_field adM_draft adM_given adM_low adM_high adM_packet adM_known cB cI cL sM)) (hS : va_S A s.heap H locs) (ls : Array Slot) (hl : lv_has ls 4 [(0, .ref adM), (1, .int v1), (2, .int v2)]) : W p l e R s m args below meth c H locs 0 0 (MQ below (q_M_frames dC dI cB cI cL A adM adM_tape adM_frameAt adM_field adM_draft adM_given adM_low adM_high adM_packet adM_known a) args s 0 0 A) (F0 m 32 ls [.int s0, .ref adM]) := by
  obtain ⟨hx, hb, hr, hml, hown, hts, hlocks, hRf, hRl⟩ := id X
  unfold g_M_frames_32 at hG
  refine lv_iconst (v := (1 : Int32)) hx hb d_M_frames_32 (by decide) ?_
  obtain ⟨a_33, hx_33, hG⟩ := zb hG
  have hr_33 := zrunV (p := p) (e := e) (below := below) (meth := meth) (As := [.int s0, .int (1 : Int32)]) (rest := []) (st0 := [.int (1 : Int32), .int s0, .ref adM]) (cells := 0) (slots := 0) X zz hP hD hS hA [0, 1, 2, 3, 4, 5, 6, 7, 8, 9] (by decide) rfl (c_M_fails l dC dI cB cI cL H.size adM adM_tape adM_frameAt adM_field adM_draft adM_given adM_low adM_high adM_packet adM_known sM s0 (1 : Int32) _ hx_33) zy_M_fails zv_M_fails (hts (.methodLink R_M 62 y_M_fails) zin_M_62) hl rfl rfl d_M_frames_33 (lv_room (Nat.le_of_ble_eq_true rfl)) rfl rfl ⟨Nat.le_trans (Nat.le_of_ble_eq_true rfl) hRf, Nat.le_trans (Nat.le_of_ble_eq_true rfl) hRl⟩ ⟨Nat.zero_le _, Nat.zero_le _⟩ 0 8 rfl rfl
  refine zcalli (wr := ([] : va_W)) hr_33 hP hD hS hA [0, 1, 2, 3, 4, 5, 6, 7, 8, 9] [] rfl rfl (by decide) (by decide) (fun r_33 u_33 H locs hw_33 hP hD hS => ?_)
  obtain ⟨sM_33, rfl⟩ : ∃ z, z = u_33 := ⟨_, rfl⟩
  subst hw_33
  have hP : va_P (dC, dI) zcl (zwM adM adM_tape adM_frameAt adM_field adM_draft adM_given adM_low adM_high adM_packet adM_known cB cI cL sM_33) H := hP
  have hD : va_D A (zwM adM adM_tape adM_frameAt adM_field adM_draft adM_given adM_low adM_high adM_packet adM_known cB cI cL sM_33) := hD
  have hG : g_M_frames_c33 N v1 v2 sM_33 r_33 = some a := hG
  unfold g_M_frames_c33 at hG
  refine lv_if_eq (tgt := 41) hx hb d_M_frames_36 (by decide) (fun hc => ?_) (fun hc => ?_)
  · have hG := zt hG hc
    refine lv_aload_n hx hb d_M_frames_41 rfl (lv_at hl 0 rfl) ?_
    obtain ⟨a_42, hx_42, hG⟩ := zb hG
    have hr_42 := zrunV (p := p) (e := e) (below := below) (meth := meth) (As := []) (rest := []) (st0 := [.ref adM]) (cells := 0) (slots := 0) X zz hP hD hS hA [0, 1, 2, 3, 4, 5, 6, 7, 8, 9] (by decide) rfl (c_M_begin l dC dI cB cI cL H.size adM adM_tape adM_frameAt adM_field adM_draft adM_given adM_low adM_high adM_packet adM_known sM_33 _ hx_42) zy_M_begin zv_M_begin (hts (.methodLink R_M 100 y_M_begin) zin_M_100) hl rfl rfl d_M_frames_42 (lv_room (Nat.le_of_ble_eq_true rfl)) rfl rfl ⟨Nat.le_trans (Nat.le_of_ble_eq_true rfl) hRf, Nat.le_trans (Nat.le_of_ble_eq_true rfl) hRl⟩ ⟨Nat.zero_le _, Nat.zero_le _⟩ 0 8 rfl rfl
    refine zcallv (wr := ([] : va_W)) hr_42 hP hD hS hA [0, 1, 2, 3, 4, 5, 6, 7, 8, 9] [] rfl rfl (by decide) (by decide) (fun u_42 H locs hw_42 hP hD hS => ?_)
    obtain ⟨sM_42, rfl⟩ : ∃ z, z = u_42 := ⟨_, rfl⟩
    subst hw_42
    have hP : va_P (dC, dI) zcl (zwM adM adM_tape adM_frameAt adM_field adM_draft adM_given adM_low adM_high adM_packet adM_known cB cI cL sM_42) H := hP
    have hD : va_D A (zwM adM adM_tape adM_frameAt adM_field adM_draft adM_given adM_low adM_high adM_packet adM_known cB cI cL sM_42) := hD
    have hG : g_M_frames_c42 N v1 v2 sM_42 = some a := hG
    unfold g_M_frames_c42 at hG
    refine lv_aload_n hx hb d_M_frames_45 rfl (lv_at hl 0 rfl) ?_
    refine lv_aload_n hx hb d_M_frames_46 rfl (lv_at hl 0 rfl) ?_
    refine va_get (D := (dC, dI)) (ci := 8) (v := .int (zM_size sM_42)) (C := R_M) (T := F_M) (N := 26) hx hb hts zi_M hown zz.1 hP 0 rfl rfl 2 (by decide) (hts (.fieldLink R_M 57 "WireCodecModel" "size" "I") zin_M_57) (fun _ h9 => h9) rfl d_M_frames_47 ?_
    refine va_put (D := (dC, dI)) (ci := 8) (v := .int (zM_size sM_42)) (ty := .int) (C := R_M) (T := F_M) (N := 26) hx hb hts zi_M zty_M zty_M_ok znm_M hown zz.1 hP hD hS 0 rfl rfl 7 (by decide) (hts (.fieldLink R_M 190 "WireCodecModel" "framesEnd" "I") zin_M_190) (fun _ h9 => h9) rfl (by decide +kernel) rfl rfl (Nat.le_of_ble_eq_true rfl) d_M_frames_50 (fun H locs hP hD hS => ?_)
    have hP := zp_M_framesEnd hP
    have hD := zd_M_framesEnd hD
    have hG : g_M_frames_w50 N v1 v2 (zM_framesEnd' sM_42 (zM_size sM_42)) = some a := hG
    generalize zM_framesEnd' sM_42 (zM_size sM_42) = sM_50 at hP hD hG
    unfold g_M_frames_w50 at hG
    refine lv_iload_n hx hb d_M_frames_53 rfl (lv_at hl 1 rfl) ?_
    refine lv_istore_n (lv' := [(3, .int v1), (0, .ref adM), (1, .int v1), (2, .int v2)]) hx hb d_M_frames_54 rfl hl (by decide) rfl (fun ls hl => ?_)
    exact k_M_frames_55 X hA zz N N sM_50 v2 v1 _ hG adM adM_tape adM_frameAt adM_field adM_draft adM_given adM_low adM_high adM_packet adM_known _ _ hP hD hS _ (lv_sub hl [1, 3, 0] rfl)
  · have hG := zf hG hc
    refine lv_iconst (v := (0 : Int32)) hx hb d_M_frames_39 (by decide) ?_
    exact W.iret (v := (0 : Int32)) hx hb hr (fun t9 ht9 hW9 => ⟨⟨(0 : Int32), (sM_33), rfl, Option.some.inj hG, by rw [ht9]; exact hP, hD⟩, hS.F ht9⟩) hS.2.2 d_M_frames_40
set_option maxRecDepth 100000 in
set_option maxHeartbeats 4000000 in
theorem k_M_frames_27 {p : Program} {l : Launch} {e : Env} {R : Room} {s : State} {m : MethodId} {args : Array Value} {below : List Frame} {meth : Method} {c : Code} {dC : Nat → ClassId} {dI : Nat → Nat → Nat} {cB cI cL : ClassId} {A : Nat → Prop} (X : zx p s m args meth c R R_M b_M_frames (some .int) 4 7 157) (hA : ∀ q, s.heap.size ≤ q → A q) (zz : zk dC dI cB cI cL A s)  (N : Nat) (sM : zM) (v1 : Int32) (v2 : Int32) (a : Int32 × zM) (hG : g_M_frames_27 N sM v1 v2 = some a) (adM adM_tape adM_frameAt adM_field adM_draft adM_given adM_low adM_high adM_packet adM_known : Nat) (H : Heap) (locs : List Loc) (hP : va_P (dC, dI) zcl (zwM adM adM_tape adM_frameAt adM_field adM_draft adM_given adM_low adM_high adM_packet adM_known cB cI cL sM) H) (hD : va_D A (zwM adM adM_tape adM_frameAt adM_field adM_draft adM_given adM_low adM_high adM_packet adM_known cB cI cL sM)) (hS : va_S A s.heap H locs) (ls : Array Slot) (hl : lv_has ls 4 [(0, .ref adM), (1, .int v1), (2, .int v2)]) : W p l e R s m args below meth c H locs 0 0 (MQ below (q_M_frames dC dI cB cI cL A adM adM_tape adM_frameAt adM_field adM_draft adM_given adM_low adM_high adM_packet adM_known a) args s 0 0 A) (F0 m 27 ls [.ref adM]) := by
  obtain ⟨hx, hb, hr, hml, hown, hts, hlocks, hRf, hRl⟩ := id X
  unfold g_M_frames_27 at hG
  refine lv_iconst (v := (1 : Int32)) hx hb d_M_frames_27 (by decide) ?_
  refine lv_goto (tgt := 32) hx hb d_M_frames_28 (by decide) ?_
  exact k_M_frames_32 X hA zz N sM v1 v2 (1 : Int32) _ hG adM adM_tape adM_frameAt adM_field adM_draft adM_given adM_low adM_high adM_packet adM_known _ _ hP hD hS _ (lv_sub hl [0, 1, 2] rfl)
set_option maxRecDepth 100000 in
set_option maxHeartbeats 4000000 in
theorem k_M_frames_0 {p : Program} {l : Launch} {e : Env} {R : Room} {s : State} {m : MethodId} {args : Array Value} {below : List Frame} {meth : Method} {c : Code} {dC : Nat → ClassId} {dI : Nat → Nat → Nat} {cB cI cL : ClassId} {A : Nat → Prop} (X : zx p s m args meth c R R_M b_M_frames (some .int) 4 7 157) (hA : ∀ q, s.heap.size ≤ q → A q) (zz : zk dC dI cB cI cL A s)  (N : Nat) (sM : zM) (v1 : Int32) (v2 : Int32) (a : Int32 × zM) (hG : g_M_frames N sM v1 v2 = some a) (adM adM_tape adM_frameAt adM_field adM_draft adM_given adM_low adM_high adM_packet adM_known : Nat) (H : Heap) (locs : List Loc) (hP : va_P (dC, dI) zcl (zwM adM adM_tape adM_frameAt adM_field adM_draft adM_given adM_low adM_high adM_packet adM_known cB cI cL sM) H) (hD : va_D A (zwM adM adM_tape adM_frameAt adM_field adM_draft adM_given adM_low adM_high adM_packet adM_known cB cI cL sM)) (hS : va_S A s.heap H locs) (ls : Array Slot) (hl : lv_has ls 4 [(0, .ref adM), (1, .int v1), (2, .int v2)]) : W p l e R s m args below meth c H locs 0 0 (MQ below (q_M_frames dC dI cB cI cL A adM adM_tape adM_frameAt adM_field adM_draft adM_given adM_low adM_high adM_packet adM_known a) args s 0 0 A) (F0 m 0 ls []) := by
  obtain ⟨hx, hb, hr, hml, hown, hts, hlocks, hRf, hRl⟩ := id X
  unfold g_M_frames at hG
  refine lv_aload_n hx hb d_M_frames_0 rfl (lv_at hl 0 rfl) ?_
  refine lv_iload_n hx hb d_M_frames_1 rfl (lv_at hl 1 rfl) ?_
  refine lv_i2l hx hb d_M_frames_2 rfl ?_
  refine lv_lconst (v := (0 : Int64)) hx hb d_M_frames_3 (by decide) ?_
  refine lv_aload_n hx hb d_M_frames_4 rfl (lv_at hl 0 rfl) ?_
  refine va_get (D := (dC, dI)) (ci := 8) (v := .int (zM_size sM)) (C := R_M) (T := F_M) (N := 26) hx hb hts zi_M hown zz.1 hP 0 rfl rfl 2 (by decide) (hts (.fieldLink R_M 57 "WireCodecModel" "size" "I") zin_M_57) (fun _ h9 => h9) rfl d_M_frames_5 ?_
  refine lv_i2l hx hb d_M_frames_8 rfl ?_
  obtain ⟨a_9, hx_9, hG⟩ := zb hG
  have hr_9 := zrunS (p := p) (e := e) (below := below) (meth := meth) (As := [.long v1.toInt64, .long (0 : Int64), .long ((zM_size sM).toInt64)]) (rest := [.ref adM]) (st0 := [.long ((zM_size sM).toInt64), .long (0 : Int64), .long v1.toInt64, .ref adM]) (cells := 0) (slots := 0) X zz hP hD hS hA [] (by decide) rfl (c_M_within l dC dI cB cI cL H.size v1.toInt64 (0 : Int64) ((zM_size sM).toInt64) _ hx_9) zy_M_within zv_M_within (hts (.methodLink R_M 53 y_M_within) zin_M_53) hl rfl rfl d_M_frames_9 (lv_room (Nat.le_of_ble_eq_true rfl)) rfl rfl ⟨Nat.le_trans (Nat.le_of_ble_eq_true rfl) hRf, Nat.le_trans (Nat.le_of_ble_eq_true rfl) hRl⟩ ⟨Nat.zero_le _, Nat.zero_le _⟩
  refine zcalli (wr := (zwM adM adM_tape adM_frameAt adM_field adM_draft adM_given adM_low adM_high adM_packet adM_known cB cI cL sM)) hr_9 hP hD hS hA [] [0, 1, 2, 3, 4, 5, 6, 7, 8, 9] rfl rfl (by decide) (by decide) (fun r_9 u_9 H locs hw_9 hP hD hS => ?_)
  subst hw_9
  have hP : va_P (dC, dI) zcl (zwM adM adM_tape adM_frameAt adM_field adM_draft adM_given adM_low adM_high adM_packet adM_known cB cI cL sM) H := hP
  have hD : va_D A (zwM adM adM_tape adM_frameAt adM_field adM_draft adM_given adM_low adM_high adM_packet adM_known cB cI cL sM) := hD
  have hG : g_M_frames_c9 N sM v1 v2 r_9 = some a := hG
  unfold g_M_frames_c9 at hG
  refine lv_if_eq (tgt := 27) hx hb d_M_frames_12 (by decide) (fun hc => ?_) (fun hc => ?_)
  · have hG := zt hG hc
    exact k_M_frames_27 X hA zz N sM v1 v2 _ hG adM adM_tape adM_frameAt adM_field adM_draft adM_given adM_low adM_high adM_packet adM_known _ _ hP hD hS _ (lv_sub hl [0, 1, 2] rfl)
  · have hG := zf hG hc
    refine lv_iload_n hx hb d_M_frames_15 rfl (lv_at hl 2 rfl) ?_
    refine lv_i2l hx hb d_M_frames_16 rfl ?_
    refine lv_lconst (v := (0 : Int64)) hx hb d_M_frames_17 (by decide) ?_
    refine lv_ldc2 (v := (2 : Int64)) hx hb hown (hts (.constantLong R_M 76 (2 : Int64)) zin_M_76) d_M_frames_18 ?_
    obtain ⟨a_21, hx_21, hG⟩ := zb hG
    have hr_21 := zrunS (p := p) (e := e) (below := below) (meth := meth) (As := [.long v2.toInt64, .long (0 : Int64), .long (2 : Int64)]) (rest := [.ref adM]) (st0 := [.long (2 : Int64), .long (0 : Int64), .long v2.toInt64, .ref adM]) (cells := 0) (slots := 0) X zz hP hD hS hA [] (by decide) rfl (c_M_within l dC dI cB cI cL H.size v2.toInt64 (0 : Int64) (2 : Int64) _ hx_21) zy_M_within zv_M_within (hts (.methodLink R_M 53 y_M_within) zin_M_53) hl rfl rfl d_M_frames_21 (lv_room (Nat.le_of_ble_eq_true rfl)) rfl rfl ⟨Nat.le_trans (Nat.le_of_ble_eq_true rfl) hRf, Nat.le_trans (Nat.le_of_ble_eq_true rfl) hRl⟩ ⟨Nat.zero_le _, Nat.zero_le _⟩
    refine zcalli (wr := (zwM adM adM_tape adM_frameAt adM_field adM_draft adM_given adM_low adM_high adM_packet adM_known cB cI cL sM)) hr_21 hP hD hS hA [] [0, 1, 2, 3, 4, 5, 6, 7, 8, 9] rfl rfl (by decide) (by decide) (fun r_21 u_21 H locs hw_21 hP hD hS => ?_)
    subst hw_21
    have hP : va_P (dC, dI) zcl (zwM adM adM_tape adM_frameAt adM_field adM_draft adM_given adM_low adM_high adM_packet adM_known cB cI cL sM) H := hP
    have hD : va_D A (zwM adM adM_tape adM_frameAt adM_field adM_draft adM_given adM_low adM_high adM_packet adM_known cB cI cL sM) := hD
    have hG : g_M_frames_c21 N sM v1 v2 r_21 = some a := hG
    unfold g_M_frames_c21 at hG
    refine lv_if_ne (tgt := 31) hx hb d_M_frames_24 (by decide) (fun hc => ?_) (fun hc => ?_)
    · have hG := zf hG hc
      refine lv_iconst (v := (0 : Int32)) hx hb d_M_frames_31 (by decide) ?_
      exact k_M_frames_32 X hA zz N sM v1 v2 (0 : Int32) _ hG adM adM_tape adM_frameAt adM_field adM_draft adM_given adM_low adM_high adM_packet adM_known _ _ hP hD hS _ (lv_sub hl [0, 1, 2] rfl)
    · have hG := zt hG hc
      exact k_M_frames_27 X hA zz N sM v1 v2 _ hG adM adM_tape adM_frameAt adM_field adM_draft adM_given adM_low adM_high adM_packet adM_known _ _ hP hD hS _ (lv_sub hl [0, 1, 2] rfl)
set_option maxRecDepth 100000 in
set_option maxHeartbeats 4000000 in
theorem c_M_frames (l : Launch) (dC : Nat → ClassId) (dI : Nat → Nat → Nat) (cB cI cL : ClassId) (sz : Nat) (adM adM_tape adM_frameAt adM_field adM_draft adM_given adM_low adM_high adM_packet adM_known : Nat) (N : Nat) (sM : zM) (v1 : Int32) (v2 : Int32) (a : Int32 × zM) (hG : g_M_frames N sM v1 v2 = some a) : Met l y_M_frames (zw y_M_frames b_M_frames 4 (some .int)) ({ frames := 7, cells := 0, slots := 0, locals := 157 }) (va_Pc [.ref adM, .int v1, .int v2] (zpre dC dI cB cI cL sz (zwM adM adM_tape adM_frameAt adM_field adM_draft adM_given adM_low adM_high adM_packet adM_known cB cI cL sM))) (q_M_frames dC dI cB cI cL (va_A (zwM adM adM_tape adM_frameAt adM_field adM_draft adM_given adM_low adM_high adM_packet adM_known cB cI cL sM) sz) adM adM_tape adM_frameAt adM_field adM_draft adM_given adM_low adM_high adM_packet adM_known a) 0 0 (va_A (zwM adM adM_tape adM_frameAt adM_field adM_draft adM_given adM_low adM_high adM_packet adM_known cB cI cL sM) sz) := by
  refine Met.ofW (cc := b_M_frames) (maxL := 4) (ret := (some .int)) (by decide) rfl ?_
  intro p e s m args below meth c s₁ B hml hv
  obtain ⟨rfl, hsz, hP, zz, hD0⟩ := hv
  subst hsz
  have X := zx_of (F := 7) (L := 157) B hml (Nat.le_refl _) (Nat.le_refl _)
  have hD := hD0.self (sz := s.heap.size)
  have hA : ∀ q : Nat, s.heap.size ≤ q → va_A (zwM adM adM_tape adM_frameAt adM_field adM_draft adM_given adM_low adM_high adM_packet adM_known cB cI cL sM) s.heap.size q := fun q h => Or.inr h
  have hl := lv_entry ([.ref adM, .int v1, .int v2]) (n := 4) (Nat.le_of_ble_eq_true rfl)
  rw [lg_entry_eq]
  generalize (lg_sl ([.ref adM, .int v1, .int v2]) ++ List.replicate (4 - (lg_sl ([.ref adM, .int v1, .int v2])).length) Slot.unset).toArray = ls at hl ⊢
  exact k_M_frames_0 X hA zz N sM v1 v2 a hG adM adM_tape adM_frameAt adM_field adM_draft adM_given adM_low adM_high adM_packet adM_known _ _ hP hD va_S.rf ls hl
noncomputable def g_M_parsed_c29 (sM_29 : zM) : Option (Int32 × zM) := some ((1 : Int32), sM_29)
noncomputable def g_M_parsed_c10 (N : Nat) (sM : zM) (v1 : Int32) (r_10 : Int32) : Option (Int32 × zM) := if r_10 = (0 : Int32) then (some ((0 : Int32), sM)) else (zg (vp_in v1 65536) ((g_M_parse N sM ((zM_frameAt sM) v1.toNatClampNeg) (zM_framesEnd sM)).bind (fun a => g_M_parsed_c29 a)))
noncomputable def g_M_parsed (N : Nat) (sM : zM) (v1 : Int32) : Option (Int32 × zM) := (g_M_within v1.toInt64 (0 : Int64) (((zM_frames sM).toInt64) - (1 : Int64))).bind (fun a => g_M_parsed_c10 N sM v1 a)
def q_M_parsed (dC : Nat → ClassId) (dI : Nat → Nat → Nat) (cB cI cL : ClassId) (A : Nat → Prop) (adM : Nat) (adM_tape : Nat) (adM_frameAt : Nat) (adM_field : Nat) (adM_draft : Nat) (adM_given : Nat) (adM_low : Nat) (adM_high : Nat) (adM_packet : Nat) (adM_known : Nat) (a : Int32 × zM) : Array Value → State → Outcome → State → Prop := va_Qi (fun (r : Int32) (u : zM) => (r, u) = a) (fun u U => va_P (dC, dI) zcl (zwM adM adM_tape adM_frameAt adM_field adM_draft adM_given adM_low adM_high adM_packet adM_known cB cI cL u) U.heap ∧ va_D A (zwM adM adM_tape adM_frameAt adM_field adM_draft adM_given adM_low adM_high adM_packet adM_known cB cI cL u)) A
set_option maxRecDepth 100000 in
set_option maxHeartbeats 4000000 in
theorem k_M_parsed_0 {p : Program} {l : Launch} {e : Env} {R : Room} {s : State} {m : MethodId} {args : Array Value} {below : List Frame} {meth : Method} {c : Code} {dC : Nat → ClassId} {dI : Nat → Nat → Nat} {cB cI cL : ClassId} {A : Nat → Prop} (X : zx p s m args meth c R R_M b_M_parsed (some .boolean) 2 6 134) (hA : ∀ q, s.heap.size ≤ q → A q) (zz : zk dC dI cB cI cL A s)  (N : Nat) (sM : zM) (v1 : Int32) (a : Int32 × zM) (hG : g_M_parsed N sM v1 = some a) (adM adM_tape adM_frameAt adM_field adM_draft adM_given adM_low adM_high adM_packet adM_known : Nat) (H : Heap) (locs : List Loc) (hP : va_P (dC, dI) zcl (zwM adM adM_tape adM_frameAt adM_field adM_draft adM_given adM_low adM_high adM_packet adM_known cB cI cL sM) H) (hD : va_D A (zwM adM adM_tape adM_frameAt adM_field adM_draft adM_given adM_low adM_high adM_packet adM_known cB cI cL sM)) (hS : va_S A s.heap H locs) (ls : Array Slot) (hl : lv_has ls 2 [(0, .ref adM), (1, .int v1)]) : W p l e R s m args below meth c H locs 0 0 (MQ below (q_M_parsed dC dI cB cI cL A adM adM_tape adM_frameAt adM_field adM_draft adM_given adM_low adM_high adM_packet adM_known a) args s 0 0 A) (F0 m 0 ls []) := by
  obtain ⟨hx, hb, hr, hml, hown, hts, hlocks, hRf, hRl⟩ := id X
  unfold g_M_parsed at hG
  refine lv_iload_n hx hb d_M_parsed_0 rfl (lv_at hl 1 rfl) ?_
  refine lv_i2l hx hb d_M_parsed_1 rfl ?_
  refine lv_lconst (v := (0 : Int64)) hx hb d_M_parsed_2 (by decide) ?_
  refine lv_aload_n hx hb d_M_parsed_3 rfl (lv_at hl 0 rfl) ?_
  refine va_get (D := (dC, dI)) (ci := 8) (v := .int (zM_frames sM)) (C := R_M) (T := F_M) (N := 26) hx hb hts zi_M hown zz.1 hP 0 rfl rfl 5 (by decide) (hts (.fieldLink R_M 94 "WireCodecModel" "frames" "I") zin_M_94) (fun _ h9 => h9) rfl d_M_parsed_4 ?_
  refine lv_i2l hx hb d_M_parsed_7 rfl ?_
  refine lv_lconst (v := (1 : Int64)) hx hb d_M_parsed_8 (by decide) ?_
  refine lv_lsub hx hb d_M_parsed_9 ?_
  obtain ⟨a_10, hx_10, hG⟩ := zb hG
  have hr_10 := zrunS (p := p) (e := e) (below := below) (meth := meth) (As := [.long v1.toInt64, .long (0 : Int64), .long (((zM_frames sM).toInt64) - (1 : Int64))]) (rest := []) (st0 := [.long (((zM_frames sM).toInt64) - (1 : Int64)), .long (0 : Int64), .long v1.toInt64]) (cells := 0) (slots := 0) X zz hP hD hS hA [] (by decide) rfl (c_M_within l dC dI cB cI cL H.size v1.toInt64 (0 : Int64) (((zM_frames sM).toInt64) - (1 : Int64)) _ hx_10) zy_M_within zv_M_within (hts (.methodLink R_M 53 y_M_within) zin_M_53) hl rfl rfl d_M_parsed_10 (lv_room (Nat.le_of_ble_eq_true rfl)) rfl rfl ⟨Nat.le_trans (Nat.le_of_ble_eq_true rfl) hRf, Nat.le_trans (Nat.le_of_ble_eq_true rfl) hRl⟩ ⟨Nat.zero_le _, Nat.zero_le _⟩
  refine zcalli (wr := (zwM adM adM_tape adM_frameAt adM_field adM_draft adM_given adM_low adM_high adM_packet adM_known cB cI cL sM)) hr_10 hP hD hS hA [] [0, 1, 2, 3, 4, 5, 6, 7, 8, 9] rfl rfl (by decide) (by decide) (fun r_10 u_10 H locs hw_10 hP hD hS => ?_)
  subst hw_10
  have hP : va_P (dC, dI) zcl (zwM adM adM_tape adM_frameAt adM_field adM_draft adM_given adM_low adM_high adM_packet adM_known cB cI cL sM) H := hP
  have hD : va_D A (zwM adM adM_tape adM_frameAt adM_field adM_draft adM_given adM_low adM_high adM_packet adM_known cB cI cL sM) := hD
  have hG : g_M_parsed_c10 N sM v1 r_10 = some a := hG
  unfold g_M_parsed_c10 at hG
  refine lv_if_ne (tgt := 18) hx hb d_M_parsed_13 (by decide) (fun hc => ?_) (fun hc => ?_)
  · have hG := zf hG hc
    refine lv_aload_n hx hb d_M_parsed_18 rfl (lv_at hl 0 rfl) ?_
    refine lv_aload_n hx hb d_M_parsed_19 rfl (lv_at hl 0 rfl) ?_
    refine va_get (D := (dC, dI)) (ci := 8) (v := .ref adM_frameAt) (C := R_M) (T := F_M) (N := 26) hx hb hts zi_M hown zz.1 hP 0 rfl rfl 6 (by decide) (hts (.fieldLink R_M 18 "WireCodecModel" "frameAt" "[I") zin_M_18) (fun _ h9 => h9) rfl d_M_parsed_20 ?_
    refine lv_iload_n hx hb d_M_parsed_23 rfl (lv_at hl 1 rfl) ?_
    obtain ⟨hin, hG⟩ := zgd hG
    refine va_iald hx hb zz.1 hP 2 1 rfl rfl hin d_M_parsed_24 ?_
    refine lv_aload_n hx hb d_M_parsed_25 rfl (lv_at hl 0 rfl) ?_
    refine va_get (D := (dC, dI)) (ci := 8) (v := .int (zM_framesEnd sM)) (C := R_M) (T := F_M) (N := 26) hx hb hts zi_M hown zz.1 hP 0 rfl rfl 7 (by decide) (hts (.fieldLink R_M 190 "WireCodecModel" "framesEnd" "I") zin_M_190) (fun _ h9 => h9) rfl d_M_parsed_26 ?_
    obtain ⟨a_29, hx_29, hG⟩ := zb hG
    have hr_29 := zrunV (p := p) (e := e) (below := below) (meth := meth) (As := [.int ((zM_frameAt sM) v1.toNatClampNeg), .int (zM_framesEnd sM)]) (rest := []) (st0 := [.int (zM_framesEnd sM), .int ((zM_frameAt sM) v1.toNatClampNeg), .ref adM]) (cells := 0) (slots := 0) X zz hP hD hS hA [0, 1, 2, 3, 4, 5, 6, 7, 8, 9] (by decide) rfl (c_M_parse l dC dI cB cI cL H.size adM adM_tape adM_frameAt adM_field adM_draft adM_given adM_low adM_high adM_packet adM_known N sM ((zM_frameAt sM) v1.toNatClampNeg) (zM_framesEnd sM) _ hx_29) zy_M_parse zv_M_parse (hts (.methodLink R_M 193 y_M_parse) zin_M_193) hl rfl rfl d_M_parsed_29 (lv_room (Nat.le_of_ble_eq_true rfl)) rfl rfl ⟨Nat.le_trans (Nat.le_of_ble_eq_true rfl) hRf, Nat.le_trans (Nat.le_of_ble_eq_true rfl) hRl⟩ ⟨Nat.zero_le _, Nat.zero_le _⟩ 0 8 rfl rfl
    refine zcallv (wr := ([] : va_W)) hr_29 hP hD hS hA [0, 1, 2, 3, 4, 5, 6, 7, 8, 9] [] rfl rfl (by decide) (by decide) (fun u_29 H locs hw_29 hP hD hS => ?_)
    obtain ⟨sM_29, rfl⟩ : ∃ z, z = u_29 := ⟨_, rfl⟩
    subst hw_29
    have hP : va_P (dC, dI) zcl (zwM adM adM_tape adM_frameAt adM_field adM_draft adM_given adM_low adM_high adM_packet adM_known cB cI cL sM_29) H := hP
    have hD : va_D A (zwM adM adM_tape adM_frameAt adM_field adM_draft adM_given adM_low adM_high adM_packet adM_known cB cI cL sM_29) := hD
    have hG : g_M_parsed_c29 sM_29 = some a := hG
    unfold g_M_parsed_c29 at hG
    refine lv_iconst (v := (1 : Int32)) hx hb d_M_parsed_32 (by decide) ?_
    exact W.zret (v := (1 : Int32)) hx hb hr (by decide) (fun t9 ht9 hW9 => ⟨⟨(1 : Int32), (sM_29), rfl, Option.some.inj hG, by rw [ht9]; exact hP, hD⟩, hS.F ht9⟩) hS.2.2 d_M_parsed_33
  · have hG := zt hG hc
    refine lv_iconst (v := (0 : Int32)) hx hb d_M_parsed_16 (by decide) ?_
    exact W.zret (v := (0 : Int32)) hx hb hr (by decide) (fun t9 ht9 hW9 => ⟨⟨(0 : Int32), (sM), rfl, Option.some.inj hG, by rw [ht9]; exact hP, hD⟩, hS.F ht9⟩) hS.2.2 d_M_parsed_17
set_option maxRecDepth 100000 in
set_option maxHeartbeats 4000000 in
theorem c_M_parsed (l : Launch) (dC : Nat → ClassId) (dI : Nat → Nat → Nat) (cB cI cL : ClassId) (sz : Nat) (adM adM_tape adM_frameAt adM_field adM_draft adM_given adM_low adM_high adM_packet adM_known : Nat) (N : Nat) (sM : zM) (v1 : Int32) (a : Int32 × zM) (hG : g_M_parsed N sM v1 = some a) : Met l y_M_parsed (zw y_M_parsed b_M_parsed 2 (some .boolean)) ({ frames := 6, cells := 0, slots := 0, locals := 134 }) (va_Pc [.ref adM, .int v1] (zpre dC dI cB cI cL sz (zwM adM adM_tape adM_frameAt adM_field adM_draft adM_given adM_low adM_high adM_packet adM_known cB cI cL sM))) (q_M_parsed dC dI cB cI cL (va_A (zwM adM adM_tape adM_frameAt adM_field adM_draft adM_given adM_low adM_high adM_packet adM_known cB cI cL sM) sz) adM adM_tape adM_frameAt adM_field adM_draft adM_given adM_low adM_high adM_packet adM_known a) 0 0 (va_A (zwM adM adM_tape adM_frameAt adM_field adM_draft adM_given adM_low adM_high adM_packet adM_known cB cI cL sM) sz) := by
  refine Met.ofW (cc := b_M_parsed) (maxL := 2) (ret := (some .boolean)) (by decide) rfl ?_
  intro p e s m args below meth c s₁ B hml hv
  obtain ⟨rfl, hsz, hP, zz, hD0⟩ := hv
  subst hsz
  have X := zx_of (F := 6) (L := 134) B hml (Nat.le_refl _) (Nat.le_refl _)
  have hD := hD0.self (sz := s.heap.size)
  have hA : ∀ q : Nat, s.heap.size ≤ q → va_A (zwM adM adM_tape adM_frameAt adM_field adM_draft adM_given adM_low adM_high adM_packet adM_known cB cI cL sM) s.heap.size q := fun q h => Or.inr h
  have hl := lv_entry ([.ref adM, .int v1]) (n := 2) (Nat.le_of_ble_eq_true rfl)
  rw [lg_entry_eq]
  generalize (lg_sl ([.ref adM, .int v1]) ++ List.replicate (2 - (lg_sl ([.ref adM, .int v1])).length) Slot.unset).toArray = ls at hl ⊢
  exact k_M_parsed_0 X hA zz N sM v1 a hG adM adM_tape adM_frameAt adM_field adM_draft adM_given adM_low adM_high adM_packet adM_known _ _ hP hD va_S.rf ls hl
noncomputable def g_M_frame_c79 (sM_27 : zM) (r_79 : Int32) : Option (Int64 × zM) := some (r_79.toInt64, sM_27)
noncomputable def g_M_frame_c27 (v1 : Int32) (v2 : Int32) (sM_27 : zM) (r_27 : Int32) : Option (Int64 × zM) := if r_27 = (0 : Int32) then (if v2 = (4 : Int32) then (zg (vp_in v1 65536) ((g_M_kindAt sM_27 ((zM_frameAt sM_27) v1.toNatClampNeg)).bind (fun a => g_M_frame_c79 sM_27 a))) else if v2 = (5 : Int32) then (some ((zM_dataSize sM_27).toInt64, sM_27)) else if v2 = (6 : Int32) then (some ((zM_ranges sM_27).toInt64, sM_27)) else if v2 = (7 : Int32) then (zg (vp_in v1 65536) (some (((zM_frameAt sM_27) v1.toNatClampNeg).toInt64, sM_27))) else if v2 = (8 : Int32) then (some ((zM_at sM_27).toInt64, sM_27)) else (zg (vp_in v2 12) (some ((zM_field sM_27) v2.toNatClampNeg, sM_27)))) else (some ((0 : Int64), sM_27))
noncomputable def g_M_frame_26 (N : Nat) (sM : zM) (v1 : Int32) (v2 : Int32) (s0 : Int32) : Option (Int64 × zM) := (g_M_fails sM s0 (1 : Int32)).bind (fun a => g_M_frame_c27 v1 v2 a.2 a.1)
noncomputable def g_M_frame_21 (N : Nat) (sM : zM) (v1 : Int32) (v2 : Int32) : Option (Int64 × zM) := g_M_frame_26 N sM v1 v2 (1 : Int32)
noncomputable def g_M_frame_c15 (N : Nat) (v1 : Int32) (v2 : Int32) (sM_15 : zM) (r_15 : Int32) : Option (Int64 × zM) := if r_15 = (0 : Int32) then (g_M_frame_21 N sM_15 v1 v2) else (g_M_frame_26 N sM_15 v1 v2 (0 : Int32))
noncomputable def g_M_frame_c7 (N : Nat) (sM : zM) (v1 : Int32) (v2 : Int32) (r_7 : Int32) : Option (Int64 × zM) := if r_7 = (0 : Int32) then (g_M_frame_21 N sM v1 v2) else ((g_M_parsed N sM v1).bind (fun a => g_M_frame_c15 N v1 v2 a.2 a.1))
noncomputable def g_M_frame (N : Nat) (sM : zM) (v1 : Int32) (v2 : Int32) : Option (Int64 × zM) := (g_M_within v2.toInt64 (0 : Int64) (11 : Int64)).bind (fun a => g_M_frame_c7 N sM v1 v2 a)
def q_M_frame (dC : Nat → ClassId) (dI : Nat → Nat → Nat) (cB cI cL : ClassId) (A : Nat → Prop) (adM : Nat) (adM_tape : Nat) (adM_frameAt : Nat) (adM_field : Nat) (adM_draft : Nat) (adM_given : Nat) (adM_low : Nat) (adM_high : Nat) (adM_packet : Nat) (adM_known : Nat) (a : Int64 × zM) : Array Value → State → Outcome → State → Prop := va_Ql (fun (r : Int64) (u : zM) => (r, u) = a) (fun u U => va_P (dC, dI) zcl (zwM adM adM_tape adM_frameAt adM_field adM_draft adM_given adM_low adM_high adM_packet adM_known cB cI cL u) U.heap ∧ va_D A (zwM adM adM_tape adM_frameAt adM_field adM_draft adM_given adM_low adM_high adM_packet adM_known cB cI cL u)) A
set_option maxRecDepth 100000 in
set_option maxHeartbeats 4000000 in
theorem k_M_frame_26 {p : Program} {l : Launch} {e : Env} {R : Room} {s : State} {m : MethodId} {args : Array Value} {below : List Frame} {meth : Method} {c : Code} {dC : Nat → ClassId} {dI : Nat → Nat → Nat} {cB cI cL : ClassId} {A : Nat → Prop} (X : zx p s m args meth c R R_M b_M_frame (some .long) 3 7 155) (hA : ∀ q, s.heap.size ≤ q → A q) (zz : zk dC dI cB cI cL A s)  (N : Nat) (sM : zM) (v1 : Int32) (v2 : Int32) (s0 : Int32) (a : Int64 × zM) (hG : g_M_frame_26 N sM v1 v2 s0 = some a) (adM adM_tape adM_frameAt adM_field adM_draft adM_given adM_low adM_high adM_packet adM_known : Nat) (H : Heap) (locs : List Loc) (hP : va_P (dC, dI) zcl (zwM adM adM_tape adM_frameAt adM_field adM_draft adM_given adM_low adM_high adM_packet adM_known cB cI cL sM) H) (hD : va_D A (zwM adM adM_tape adM_frameAt adM_field adM_draft adM_given adM_low adM_high adM_packet adM_known cB cI cL sM)) (hS : va_S A s.heap H locs) (ls : Array Slot) (hl : lv_has ls 3 [(0, .ref adM), (1, .int v1), (2, .int v2)]) : W p l e R s m args below meth c H locs 0 0 (MQ below (q_M_frame dC dI cB cI cL A adM adM_tape adM_frameAt adM_field adM_draft adM_given adM_low adM_high adM_packet adM_known a) args s 0 0 A) (F0 m 26 ls [.int s0, .ref adM]) := by
  obtain ⟨hx, hb, hr, hml, hown, hts, hlocks, hRf, hRl⟩ := id X
  unfold g_M_frame_26 at hG
  refine lv_iconst (v := (1 : Int32)) hx hb d_M_frame_26 (by decide) ?_
  obtain ⟨a_27, hx_27, hG⟩ := zb hG
  have hr_27 := zrunV (p := p) (e := e) (below := below) (meth := meth) (As := [.int s0, .int (1 : Int32)]) (rest := []) (st0 := [.int (1 : Int32), .int s0, .ref adM]) (cells := 0) (slots := 0) X zz hP hD hS hA [0, 1, 2, 3, 4, 5, 6, 7, 8, 9] (by decide) rfl (c_M_fails l dC dI cB cI cL H.size adM adM_tape adM_frameAt adM_field adM_draft adM_given adM_low adM_high adM_packet adM_known sM s0 (1 : Int32) _ hx_27) zy_M_fails zv_M_fails (hts (.methodLink R_M 62 y_M_fails) zin_M_62) hl rfl rfl d_M_frame_27 (lv_room (Nat.le_of_ble_eq_true rfl)) rfl rfl ⟨Nat.le_trans (Nat.le_of_ble_eq_true rfl) hRf, Nat.le_trans (Nat.le_of_ble_eq_true rfl) hRl⟩ ⟨Nat.zero_le _, Nat.zero_le _⟩ 0 8 rfl rfl
  refine zcalli (wr := ([] : va_W)) hr_27 hP hD hS hA [0, 1, 2, 3, 4, 5, 6, 7, 8, 9] [] rfl rfl (by decide) (by decide) (fun r_27 u_27 H locs hw_27 hP hD hS => ?_)
  obtain ⟨sM_27, rfl⟩ : ∃ z, z = u_27 := ⟨_, rfl⟩
  subst hw_27
  have hP : va_P (dC, dI) zcl (zwM adM adM_tape adM_frameAt adM_field adM_draft adM_given adM_low adM_high adM_packet adM_known cB cI cL sM_27) H := hP
  have hD : va_D A (zwM adM adM_tape adM_frameAt adM_field adM_draft adM_given adM_low adM_high adM_packet adM_known cB cI cL sM_27) := hD
  have hG : g_M_frame_c27 v1 v2 sM_27 r_27 = some a := hG
  unfold g_M_frame_c27 at hG
  refine lv_if_eq (tgt := 35) hx hb d_M_frame_30 (by decide) (fun hc => ?_) (fun hc => ?_)
  · have hG := zt hG hc
    refine lv_iload_n hx hb d_M_frame_35 rfl (lv_at hl 2 rfl) ?_
    by_cases hlo : v2.toInt < 4 ∨ 8 < v2.toInt
    · have hG := zf hG (fun h9 => by rw [h9] at hlo; revert hlo; decide)
      have hG := zf hG (fun h9 => by rw [h9] at hlo; revert hlo; decide)
      have hG := zf hG (fun h9 => by rw [h9] at hlo; revert hlo; decide)
      have hG := zf hG (fun h9 => by rw [h9] at hlo; revert hlo; decide)
      have hG := zf hG (fun h9 => by rw [h9] at hlo; revert hlo; decide)
      refine lv_tableOut (tgt := 110) hx hb d_M_frame_36 hlo (by decide) ?_
      refine lv_aload_n hx hb d_M_frame_110 rfl (lv_at hl 0 rfl) ?_
      refine va_get (D := (dC, dI)) (ci := 8) (v := .ref adM_field) (C := R_M) (T := F_M) (N := 26) hx hb hts zi_M hown zz.1 hP 0 rfl rfl 8 (by decide) (hts (.fieldLink R_M 22 "WireCodecModel" "field" "[J") zin_M_22) (fun _ h9 => h9) rfl d_M_frame_111 ?_
      refine lv_iload_n hx hb d_M_frame_114 rfl (lv_at hl 2 rfl) ?_
      obtain ⟨hin, hG⟩ := zgd hG
      refine va_lald hx hb zz.1 hP 3 2 rfl rfl hin d_M_frame_115 ?_
      exact W.lret (v := (zM_field sM_27) v2.toNatClampNeg) hx hb hr (fun t9 ht9 hW9 => ⟨⟨(zM_field sM_27) v2.toNatClampNeg, (sM_27), rfl, Option.some.inj hG, by rw [ht9]; exact hP, hD⟩, hS.F ht9⟩) hS.2.2 d_M_frame_116
    obtain ⟨h1, h2⟩ := zlohi hlo
    obtain ⟨j9, hj9, hx9⟩ := zrng (lo := 4) (hi := 8) h1 h2
    have hj9 : j9 < 5 := hj9
    by_cases e9 : j9 = 0
    · subst e9
      have hc : v2 = (4 : Int32) := hx9
      have hG := zt hG hc
      refine lv_tableIn (tgt := 72) hx hb d_M_frame_36 h1 h2 (by rw [hc]; rfl) (by decide) ?_
      refine lv_aload_n hx hb d_M_frame_72 rfl (lv_at hl 0 rfl) ?_
      refine lv_aload_n hx hb d_M_frame_73 rfl (lv_at hl 0 rfl) ?_
      refine va_get (D := (dC, dI)) (ci := 8) (v := .ref adM_frameAt) (C := R_M) (T := F_M) (N := 26) hx hb hts zi_M hown zz.1 hP 0 rfl rfl 6 (by decide) (hts (.fieldLink R_M 18 "WireCodecModel" "frameAt" "[I") zin_M_18) (fun _ h9 => h9) rfl d_M_frame_74 ?_
      refine lv_iload_n hx hb d_M_frame_77 rfl (lv_at hl 1 rfl) ?_
      obtain ⟨hin, hG⟩ := zgd hG
      refine va_iald hx hb zz.1 hP 2 1 rfl rfl hin d_M_frame_78 ?_
      obtain ⟨a_79, hx_79, hG⟩ := zb hG
      have hr_79 := zrunV (p := p) (e := e) (below := below) (meth := meth) (As := [.int ((zM_frameAt sM_27) v1.toNatClampNeg)]) (rest := []) (st0 := [.int ((zM_frameAt sM_27) v1.toNatClampNeg), .ref adM]) (cells := 0) (slots := 0) X zz hP hD hS hA [0, 1, 2, 3, 4, 5, 6, 7, 8, 9] (by decide) rfl (c_M_kindAt l dC dI cB cI cL H.size adM adM_tape adM_frameAt adM_field adM_draft adM_given adM_low adM_high adM_packet adM_known sM_27 ((zM_frameAt sM_27) v1.toNatClampNeg) _ hx_79) zy_M_kindAt zv_M_kindAt (hts (.methodLink R_M 165 y_M_kindAt) zin_M_165) hl rfl rfl d_M_frame_79 (lv_room (Nat.le_of_ble_eq_true rfl)) rfl rfl ⟨Nat.le_trans (Nat.le_of_ble_eq_true rfl) hRf, Nat.le_trans (Nat.le_of_ble_eq_true rfl) hRl⟩ ⟨Nat.zero_le _, Nat.zero_le _⟩ 0 8 rfl rfl
      refine zcalli (wr := ([] : va_W)) hr_79 hP hD hS hA [0, 1, 2, 3, 4, 5, 6, 7, 8, 9] [] rfl rfl (by decide) (by decide) (fun r_79 u_79 H locs hw_79 hP hD hS => ?_)
      subst hw_79
      have hP : va_P (dC, dI) zcl (zwM adM adM_tape adM_frameAt adM_field adM_draft adM_given adM_low adM_high adM_packet adM_known cB cI cL sM_27) H := hP
      have hD : va_D A (zwM adM adM_tape adM_frameAt adM_field adM_draft adM_given adM_low adM_high adM_packet adM_known cB cI cL sM_27) := hD
      have hG : g_M_frame_c79 sM_27 r_79 = some a := hG
      unfold g_M_frame_c79 at hG
      refine lv_i2l hx hb d_M_frame_82 rfl ?_
      exact W.lret (v := r_79.toInt64) hx hb hr (fun t9 ht9 hW9 => ⟨⟨r_79.toInt64, (sM_27), rfl, Option.some.inj hG, by rw [ht9]; exact hP, hD⟩, hS.F ht9⟩) hS.2.2 d_M_frame_83
    by_cases e9 : j9 = 1
    · subst e9
      have hc : v2 = (5 : Int32) := hx9
      have hG := zf hG (by rw [hc]; decide)
      have hG := zt hG hc
      refine lv_tableIn (tgt := 84) hx hb d_M_frame_36 h1 h2 (by rw [hc]; rfl) (by decide) ?_
      refine lv_aload_n hx hb d_M_frame_84 rfl (lv_at hl 0 rfl) ?_
      refine va_get (D := (dC, dI)) (ci := 8) (v := .int (zM_dataSize sM_27)) (C := R_M) (T := F_M) (N := 26) hx hb hts zi_M hown zz.1 hP 0 rfl rfl 10 (by decide) (hts (.fieldLink R_M 147 "WireCodecModel" "dataSize" "I") zin_M_147) (fun _ h9 => h9) rfl d_M_frame_85 ?_
      refine lv_i2l hx hb d_M_frame_88 rfl ?_
      exact W.lret (v := (zM_dataSize sM_27).toInt64) hx hb hr (fun t9 ht9 hW9 => ⟨⟨(zM_dataSize sM_27).toInt64, (sM_27), rfl, Option.some.inj hG, by rw [ht9]; exact hP, hD⟩, hS.F ht9⟩) hS.2.2 d_M_frame_89
    by_cases e9 : j9 = 2
    · subst e9
      have hc : v2 = (6 : Int32) := hx9
      have hG := zf hG (by rw [hc]; decide)
      have hG := zf hG (by rw [hc]; decide)
      have hG := zt hG hc
      refine lv_tableIn (tgt := 90) hx hb d_M_frame_36 h1 h2 (by rw [hc]; rfl) (by decide) ?_
      refine lv_aload_n hx hb d_M_frame_90 rfl (lv_at hl 0 rfl) ?_
      refine va_get (D := (dC, dI)) (ci := 8) (v := .int (zM_ranges sM_27)) (C := R_M) (T := F_M) (N := 26) hx hb hts zi_M hown zz.1 hP 0 rfl rfl 12 (by decide) (hts (.fieldLink R_M 153 "WireCodecModel" "ranges" "I") zin_M_153) (fun _ h9 => h9) rfl d_M_frame_91 ?_
      refine lv_i2l hx hb d_M_frame_94 rfl ?_
      exact W.lret (v := (zM_ranges sM_27).toInt64) hx hb hr (fun t9 ht9 hW9 => ⟨⟨(zM_ranges sM_27).toInt64, (sM_27), rfl, Option.some.inj hG, by rw [ht9]; exact hP, hD⟩, hS.F ht9⟩) hS.2.2 d_M_frame_95
    by_cases e9 : j9 = 3
    · subst e9
      have hc : v2 = (7 : Int32) := hx9
      have hG := zf hG (by rw [hc]; decide)
      have hG := zf hG (by rw [hc]; decide)
      have hG := zf hG (by rw [hc]; decide)
      have hG := zt hG hc
      refine lv_tableIn (tgt := 96) hx hb d_M_frame_36 h1 h2 (by rw [hc]; rfl) (by decide) ?_
      refine lv_aload_n hx hb d_M_frame_96 rfl (lv_at hl 0 rfl) ?_
      refine va_get (D := (dC, dI)) (ci := 8) (v := .ref adM_frameAt) (C := R_M) (T := F_M) (N := 26) hx hb hts zi_M hown zz.1 hP 0 rfl rfl 6 (by decide) (hts (.fieldLink R_M 18 "WireCodecModel" "frameAt" "[I") zin_M_18) (fun _ h9 => h9) rfl d_M_frame_97 ?_
      refine lv_iload_n hx hb d_M_frame_100 rfl (lv_at hl 1 rfl) ?_
      obtain ⟨hin, hG⟩ := zgd hG
      refine va_iald hx hb zz.1 hP 2 1 rfl rfl hin d_M_frame_101 ?_
      refine lv_i2l hx hb d_M_frame_102 rfl ?_
      exact W.lret (v := ((zM_frameAt sM_27) v1.toNatClampNeg).toInt64) hx hb hr (fun t9 ht9 hW9 => ⟨⟨((zM_frameAt sM_27) v1.toNatClampNeg).toInt64, (sM_27), rfl, Option.some.inj hG, by rw [ht9]; exact hP, hD⟩, hS.F ht9⟩) hS.2.2 d_M_frame_103
    by_cases e9 : j9 = 4
    · subst e9
      have hc : v2 = (8 : Int32) := hx9
      have hG := zf hG (by rw [hc]; decide)
      have hG := zf hG (by rw [hc]; decide)
      have hG := zf hG (by rw [hc]; decide)
      have hG := zf hG (by rw [hc]; decide)
      have hG := zt hG hc
      refine lv_tableIn (tgt := 104) hx hb d_M_frame_36 h1 h2 (by rw [hc]; rfl) (by decide) ?_
      refine lv_aload_n hx hb d_M_frame_104 rfl (lv_at hl 0 rfl) ?_
      refine va_get (D := (dC, dI)) (ci := 8) (v := .int (zM_at sM_27)) (C := R_M) (T := F_M) (N := 26) hx hb hts zi_M hown zz.1 hP 0 rfl rfl 14 (by decide) (hts (.fieldLink R_M 110 "WireCodecModel" "at" "I") zin_M_110) (fun _ h9 => h9) rfl d_M_frame_105 ?_
      refine lv_i2l hx hb d_M_frame_108 rfl ?_
      exact W.lret (v := (zM_at sM_27).toInt64) hx hb hr (fun t9 ht9 hW9 => ⟨⟨(zM_at sM_27).toInt64, (sM_27), rfl, Option.some.inj hG, by rw [ht9]; exact hP, hD⟩, hS.F ht9⟩) hS.2.2 d_M_frame_109
    exact absurd hj9 (by omega)
  · have hG := zf hG hc
    refine lv_lconst (v := (0 : Int64)) hx hb d_M_frame_33 (by decide) ?_
    exact W.lret (v := (0 : Int64)) hx hb hr (fun t9 ht9 hW9 => ⟨⟨(0 : Int64), (sM_27), rfl, Option.some.inj hG, by rw [ht9]; exact hP, hD⟩, hS.F ht9⟩) hS.2.2 d_M_frame_34
set_option maxRecDepth 100000 in
set_option maxHeartbeats 4000000 in
theorem k_M_frame_21 {p : Program} {l : Launch} {e : Env} {R : Room} {s : State} {m : MethodId} {args : Array Value} {below : List Frame} {meth : Method} {c : Code} {dC : Nat → ClassId} {dI : Nat → Nat → Nat} {cB cI cL : ClassId} {A : Nat → Prop} (X : zx p s m args meth c R R_M b_M_frame (some .long) 3 7 155) (hA : ∀ q, s.heap.size ≤ q → A q) (zz : zk dC dI cB cI cL A s)  (N : Nat) (sM : zM) (v1 : Int32) (v2 : Int32) (a : Int64 × zM) (hG : g_M_frame_21 N sM v1 v2 = some a) (adM adM_tape adM_frameAt adM_field adM_draft adM_given adM_low adM_high adM_packet adM_known : Nat) (H : Heap) (locs : List Loc) (hP : va_P (dC, dI) zcl (zwM adM adM_tape adM_frameAt adM_field adM_draft adM_given adM_low adM_high adM_packet adM_known cB cI cL sM) H) (hD : va_D A (zwM adM adM_tape adM_frameAt adM_field adM_draft adM_given adM_low adM_high adM_packet adM_known cB cI cL sM)) (hS : va_S A s.heap H locs) (ls : Array Slot) (hl : lv_has ls 3 [(0, .ref adM), (1, .int v1), (2, .int v2)]) : W p l e R s m args below meth c H locs 0 0 (MQ below (q_M_frame dC dI cB cI cL A adM adM_tape adM_frameAt adM_field adM_draft adM_given adM_low adM_high adM_packet adM_known a) args s 0 0 A) (F0 m 21 ls [.ref adM]) := by
  obtain ⟨hx, hb, hr, hml, hown, hts, hlocks, hRf, hRl⟩ := id X
  unfold g_M_frame_21 at hG
  refine lv_iconst (v := (1 : Int32)) hx hb d_M_frame_21 (by decide) ?_
  refine lv_goto (tgt := 26) hx hb d_M_frame_22 (by decide) ?_
  exact k_M_frame_26 X hA zz N sM v1 v2 (1 : Int32) _ hG adM adM_tape adM_frameAt adM_field adM_draft adM_given adM_low adM_high adM_packet adM_known _ _ hP hD hS _ (lv_sub hl [0, 1, 2] rfl)
set_option maxRecDepth 100000 in
set_option maxHeartbeats 4000000 in
theorem k_M_frame_0 {p : Program} {l : Launch} {e : Env} {R : Room} {s : State} {m : MethodId} {args : Array Value} {below : List Frame} {meth : Method} {c : Code} {dC : Nat → ClassId} {dI : Nat → Nat → Nat} {cB cI cL : ClassId} {A : Nat → Prop} (X : zx p s m args meth c R R_M b_M_frame (some .long) 3 7 155) (hA : ∀ q, s.heap.size ≤ q → A q) (zz : zk dC dI cB cI cL A s)  (N : Nat) (sM : zM) (v1 : Int32) (v2 : Int32) (a : Int64 × zM) (hG : g_M_frame N sM v1 v2 = some a) (adM adM_tape adM_frameAt adM_field adM_draft adM_given adM_low adM_high adM_packet adM_known : Nat) (H : Heap) (locs : List Loc) (hP : va_P (dC, dI) zcl (zwM adM adM_tape adM_frameAt adM_field adM_draft adM_given adM_low adM_high adM_packet adM_known cB cI cL sM) H) (hD : va_D A (zwM adM adM_tape adM_frameAt adM_field adM_draft adM_given adM_low adM_high adM_packet adM_known cB cI cL sM)) (hS : va_S A s.heap H locs) (ls : Array Slot) (hl : lv_has ls 3 [(0, .ref adM), (1, .int v1), (2, .int v2)]) : W p l e R s m args below meth c H locs 0 0 (MQ below (q_M_frame dC dI cB cI cL A adM adM_tape adM_frameAt adM_field adM_draft adM_given adM_low adM_high adM_packet adM_known a) args s 0 0 A) (F0 m 0 ls []) := by
  obtain ⟨hx, hb, hr, hml, hown, hts, hlocks, hRf, hRl⟩ := id X
  unfold g_M_frame at hG
  refine lv_aload_n hx hb d_M_frame_0 rfl (lv_at hl 0 rfl) ?_
  refine lv_iload_n hx hb d_M_frame_1 rfl (lv_at hl 2 rfl) ?_
  refine lv_i2l hx hb d_M_frame_2 rfl ?_
  refine lv_lconst (v := (0 : Int64)) hx hb d_M_frame_3 (by decide) ?_
  refine lv_ldc2 (v := (11 : Int64)) hx hb hown (hts (.constantLong R_M 206 (11 : Int64)) zin_M_206) d_M_frame_4 ?_
  obtain ⟨a_7, hx_7, hG⟩ := zb hG
  have hr_7 := zrunS (p := p) (e := e) (below := below) (meth := meth) (As := [.long v2.toInt64, .long (0 : Int64), .long (11 : Int64)]) (rest := [.ref adM]) (st0 := [.long (11 : Int64), .long (0 : Int64), .long v2.toInt64, .ref adM]) (cells := 0) (slots := 0) X zz hP hD hS hA [] (by decide) rfl (c_M_within l dC dI cB cI cL H.size v2.toInt64 (0 : Int64) (11 : Int64) _ hx_7) zy_M_within zv_M_within (hts (.methodLink R_M 53 y_M_within) zin_M_53) hl rfl rfl d_M_frame_7 (lv_room (Nat.le_of_ble_eq_true rfl)) rfl rfl ⟨Nat.le_trans (Nat.le_of_ble_eq_true rfl) hRf, Nat.le_trans (Nat.le_of_ble_eq_true rfl) hRl⟩ ⟨Nat.zero_le _, Nat.zero_le _⟩
  refine zcalli (wr := (zwM adM adM_tape adM_frameAt adM_field adM_draft adM_given adM_low adM_high adM_packet adM_known cB cI cL sM)) hr_7 hP hD hS hA [] [0, 1, 2, 3, 4, 5, 6, 7, 8, 9] rfl rfl (by decide) (by decide) (fun r_7 u_7 H locs hw_7 hP hD hS => ?_)
  subst hw_7
  have hP : va_P (dC, dI) zcl (zwM adM adM_tape adM_frameAt adM_field adM_draft adM_given adM_low adM_high adM_packet adM_known cB cI cL sM) H := hP
  have hD : va_D A (zwM adM adM_tape adM_frameAt adM_field adM_draft adM_given adM_low adM_high adM_packet adM_known cB cI cL sM) := hD
  have hG : g_M_frame_c7 N sM v1 v2 r_7 = some a := hG
  unfold g_M_frame_c7 at hG
  refine lv_if_eq (tgt := 21) hx hb d_M_frame_10 (by decide) (fun hc => ?_) (fun hc => ?_)
  · have hG := zt hG hc
    exact k_M_frame_21 X hA zz N sM v1 v2 _ hG adM adM_tape adM_frameAt adM_field adM_draft adM_given adM_low adM_high adM_packet adM_known _ _ hP hD hS _ (lv_sub hl [0, 1, 2] rfl)
  · have hG := zf hG hc
    refine lv_aload_n hx hb d_M_frame_13 rfl (lv_at hl 0 rfl) ?_
    refine lv_iload_n hx hb d_M_frame_14 rfl (lv_at hl 1 rfl) ?_
    obtain ⟨a_15, hx_15, hG⟩ := zb hG
    have hr_15 := zrunV (p := p) (e := e) (below := below) (meth := meth) (As := [.int v1]) (rest := [.ref adM]) (st0 := [.int v1, .ref adM, .ref adM]) (cells := 0) (slots := 0) X zz hP hD hS hA [0, 1, 2, 3, 4, 5, 6, 7, 8, 9] (by decide) rfl (c_M_parsed l dC dI cB cI cL H.size adM adM_tape adM_frameAt adM_field adM_draft adM_given adM_low adM_high adM_packet adM_known N sM v1 _ hx_15) zy_M_parsed zv_M_parsed (hts (.methodLink R_M 208 y_M_parsed) zin_M_208) hl rfl rfl d_M_frame_15 (lv_room (Nat.le_of_ble_eq_true rfl)) rfl rfl ⟨Nat.le_trans (Nat.le_of_ble_eq_true rfl) hRf, Nat.le_trans (Nat.le_of_ble_eq_true rfl) hRl⟩ ⟨Nat.zero_le _, Nat.zero_le _⟩ 0 8 rfl rfl
    refine zcalli (wr := ([] : va_W)) hr_15 hP hD hS hA [0, 1, 2, 3, 4, 5, 6, 7, 8, 9] [] rfl rfl (by decide) (by decide) (fun r_15 u_15 H locs hw_15 hP hD hS => ?_)
    obtain ⟨sM_15, rfl⟩ : ∃ z, z = u_15 := ⟨_, rfl⟩
    subst hw_15
    have hP : va_P (dC, dI) zcl (zwM adM adM_tape adM_frameAt adM_field adM_draft adM_given adM_low adM_high adM_packet adM_known cB cI cL sM_15) H := hP
    have hD : va_D A (zwM adM adM_tape adM_frameAt adM_field adM_draft adM_given adM_low adM_high adM_packet adM_known cB cI cL sM_15) := hD
    have hG : g_M_frame_c15 N v1 v2 sM_15 r_15 = some a := hG
    unfold g_M_frame_c15 at hG
    refine lv_if_ne (tgt := 25) hx hb d_M_frame_18 (by decide) (fun hc => ?_) (fun hc => ?_)
    · have hG := zf hG hc
      refine lv_iconst (v := (0 : Int32)) hx hb d_M_frame_25 (by decide) ?_
      exact k_M_frame_26 X hA zz N sM_15 v1 v2 (0 : Int32) _ hG adM adM_tape adM_frameAt adM_field adM_draft adM_given adM_low adM_high adM_packet adM_known _ _ hP hD hS _ (lv_sub hl [0, 1, 2] rfl)
    · have hG := zt hG hc
      exact k_M_frame_21 X hA zz N sM_15 v1 v2 _ hG adM adM_tape adM_frameAt adM_field adM_draft adM_given adM_low adM_high adM_packet adM_known _ _ hP hD hS _ (lv_sub hl [0, 1, 2] rfl)
set_option maxRecDepth 100000 in
set_option maxHeartbeats 4000000 in
theorem c_M_frame (l : Launch) (dC : Nat → ClassId) (dI : Nat → Nat → Nat) (cB cI cL : ClassId) (sz : Nat) (adM adM_tape adM_frameAt adM_field adM_draft adM_given adM_low adM_high adM_packet adM_known : Nat) (N : Nat) (sM : zM) (v1 : Int32) (v2 : Int32) (a : Int64 × zM) (hG : g_M_frame N sM v1 v2 = some a) : Met l y_M_frame (zw y_M_frame b_M_frame 3 (some .long)) ({ frames := 7, cells := 0, slots := 0, locals := 155 }) (va_Pc [.ref adM, .int v1, .int v2] (zpre dC dI cB cI cL sz (zwM adM adM_tape adM_frameAt adM_field adM_draft adM_given adM_low adM_high adM_packet adM_known cB cI cL sM))) (q_M_frame dC dI cB cI cL (va_A (zwM adM adM_tape adM_frameAt adM_field adM_draft adM_given adM_low adM_high adM_packet adM_known cB cI cL sM) sz) adM adM_tape adM_frameAt adM_field adM_draft adM_given adM_low adM_high adM_packet adM_known a) 0 0 (va_A (zwM adM adM_tape adM_frameAt adM_field adM_draft adM_given adM_low adM_high adM_packet adM_known cB cI cL sM) sz) := by
  refine Met.ofW (cc := b_M_frame) (maxL := 3) (ret := (some .long)) (by decide) rfl ?_
  intro p e s m args below meth c s₁ B hml hv
  obtain ⟨rfl, hsz, hP, zz, hD0⟩ := hv
  subst hsz
  have X := zx_of (F := 7) (L := 155) B hml (Nat.le_refl _) (Nat.le_refl _)
  have hD := hD0.self (sz := s.heap.size)
  have hA : ∀ q : Nat, s.heap.size ≤ q → va_A (zwM adM adM_tape adM_frameAt adM_field adM_draft adM_given adM_low adM_high adM_packet adM_known cB cI cL sM) s.heap.size q := fun q h => Or.inr h
  have hl := lv_entry ([.ref adM, .int v1, .int v2]) (n := 3) (Nat.le_of_ble_eq_true rfl)
  rw [lg_entry_eq]
  generalize (lg_sl ([.ref adM, .int v1, .int v2]) ++ List.replicate (3 - (lg_sl ([.ref adM, .int v1, .int v2])).length) Slot.unset).toArray = ls at hl ⊢
  exact k_M_frame_0 X hA zz N sM v1 v2 a hG adM adM_tape adM_frameAt adM_field adM_draft adM_given adM_low adM_high adM_packet adM_known _ _ hP hD va_S.rf ls hl
noncomputable def g_M_data_c104 (sM : zM) (r_104 : Int32) : Option (Int32 × zM) := some (r_104, sM)
noncomputable def g_M_data_102 (N : Nat) (sM : zM) (v2 : Int32) (s0 : Int32) : Option (Int32 × zM) := (g_M_byteAt sM (s0 + v2)).bind (fun a => g_M_data_c104 sM a)
noncomputable def g_M_data_c78 (N : Nat) (v2 : Int32) (v3 : Int32) (sM_78 : zM) (r_78 : Int32) : Option (Int32 × zM) := if r_78 = (0 : Int32) then (if v3 = (0 : Int32) then (g_M_data_102 N sM_78 v2 (zM_dataAt sM_78)) else (g_M_data_102 N sM_78 v2 (zM_secretAt sM_78))) else (some ((0 : Int32), sM_78))
noncomputable def g_M_data_77 (N : Nat) (sM : zM) (v2 : Int32) (v3 : Int32) (s0 : Int32) : Option (Int32 × zM) := (g_M_fails sM s0 (1 : Int32)).bind (fun a => g_M_data_c78 N v2 v3 a.2 a.1)
noncomputable def g_M_data_c66 (N : Nat) (sM : zM) (v2 : Int32) (v3 : Int32) (r_66 : Int32) : Option (Int32 × zM) := if r_66 = (0 : Int32) then (g_M_data_77 N sM v2 v3 (1 : Int32)) else (g_M_data_77 N sM v2 v3 (0 : Int32))
noncomputable def g_M_data_55 (N : Nat) (sM : zM) (v2 : Int32) (v3 : Int32) (s0 : Int32) : Option (Int32 × zM) := (g_M_within v2.toInt64 (0 : Int64) (s0.toInt64 - (1 : Int64))).bind (fun a => g_M_data_c66 N sM v2 v3 a)
noncomputable def g_M_data_c41 (N : Nat) (v2 : Int32) (v3 : Int32) (sM_15 : zM) (r_41 : Int32) : Option (Int32 × zM) := if r_41 = (24 : Int32) then (g_M_data_55 N sM_15 v2 v3 (16 : Int32)) else (g_M_data_55 N sM_15 v2 v3 (0 : Int32))
noncomputable def g_M_data_c15 (N : Nat) (v1 : Int32) (v2 : Int32) (v3 : Int32) (sM_15 : zM) (r_15 : Int32) : Option (Int32 × zM) := if r_15 = (0 : Int32) then (if v3 = (0 : Int32) then (g_M_data_55 N sM_15 v2 v3 (zM_dataSize sM_15)) else (zg (vp_in v1 65536) ((g_M_kindAt sM_15 ((zM_frameAt sM_15) v1.toNatClampNeg)).bind (fun a => g_M_data_c41 N v2 v3 sM_15 a)))) else (some ((0 : Int32), sM_15))
noncomputable def g_M_data_14 (N : Nat) (sM : zM) (v1 : Int32) (v2 : Int32) (v3 : Int32) (s0 : Int32) : Option (Int32 × zM) := (g_M_fails sM s0 (1 : Int32)).bind (fun a => g_M_data_c15 N v1 v2 v3 a.2 a.1)
noncomputable def g_M_data_c3 (N : Nat) (v1 : Int32) (v2 : Int32) (v3 : Int32) (sM_3 : zM) (r_3 : Int32) : Option (Int32 × zM) := if r_3 = (0 : Int32) then (g_M_data_14 N sM_3 v1 v2 v3 (1 : Int32)) else (g_M_data_14 N sM_3 v1 v2 v3 (0 : Int32))
noncomputable def g_M_data (N : Nat) (sM : zM) (v1 : Int32) (v2 : Int32) (v3 : Int32) : Option (Int32 × zM) := (g_M_parsed N sM v1).bind (fun a => g_M_data_c3 N v1 v2 v3 a.2 a.1)
def q_M_data (dC : Nat → ClassId) (dI : Nat → Nat → Nat) (cB cI cL : ClassId) (A : Nat → Prop) (adM : Nat) (adM_tape : Nat) (adM_frameAt : Nat) (adM_field : Nat) (adM_draft : Nat) (adM_given : Nat) (adM_low : Nat) (adM_high : Nat) (adM_packet : Nat) (adM_known : Nat) (a : Int32 × zM) : Array Value → State → Outcome → State → Prop := va_Qi (fun (r : Int32) (u : zM) => (r, u) = a) (fun u U => va_P (dC, dI) zcl (zwM adM adM_tape adM_frameAt adM_field adM_draft adM_given adM_low adM_high adM_packet adM_known cB cI cL u) U.heap ∧ va_D A (zwM adM adM_tape adM_frameAt adM_field adM_draft adM_given adM_low adM_high adM_packet adM_known cB cI cL u)) A
set_option maxRecDepth 100000 in
set_option maxHeartbeats 4000000 in
theorem k_M_data_102 {p : Program} {l : Launch} {e : Env} {R : Room} {s : State} {m : MethodId} {args : Array Value} {below : List Frame} {meth : Method} {c : Code} {dC : Nat → ClassId} {dI : Nat → Nat → Nat} {cB cI cL : ClassId} {A : Nat → Prop} (X : zx p s m args meth c R R_M b_M_data (some .int) 5 7 155) (hA : ∀ q, s.heap.size ≤ q → A q) (zz : zk dC dI cB cI cL A s)  (N : Nat) (sM : zM) (v2 : Int32) (s0 : Int32) (a : Int32 × zM) (hG : g_M_data_102 N sM v2 s0 = some a) (adM adM_tape adM_frameAt adM_field adM_draft adM_given adM_low adM_high adM_packet adM_known : Nat) (H : Heap) (locs : List Loc) (hP : va_P (dC, dI) zcl (zwM adM adM_tape adM_frameAt adM_field adM_draft adM_given adM_low adM_high adM_packet adM_known cB cI cL sM) H) (hD : va_D A (zwM adM adM_tape adM_frameAt adM_field adM_draft adM_given adM_low adM_high adM_packet adM_known cB cI cL sM)) (hS : va_S A s.heap H locs) (ls : Array Slot) (hl : lv_has ls 5 [(2, .int v2)]) : W p l e R s m args below meth c H locs 0 0 (MQ below (q_M_data dC dI cB cI cL A adM adM_tape adM_frameAt adM_field adM_draft adM_given adM_low adM_high adM_packet adM_known a) args s 0 0 A) (F0 m 102 ls [.int s0, .ref adM]) := by
  obtain ⟨hx, hb, hr, hml, hown, hts, hlocks, hRf, hRl⟩ := id X
  unfold g_M_data_102 at hG
  refine lv_iload_n hx hb d_M_data_102 rfl (lv_at hl 0 rfl) ?_
  refine lv_iadd hx hb d_M_data_103 ?_
  obtain ⟨a_104, hx_104, hG⟩ := zb hG
  have hr_104 := zrunV (p := p) (e := e) (below := below) (meth := meth) (As := [.int (s0 + v2)]) (rest := []) (st0 := [.int (s0 + v2), .ref adM]) (cells := 0) (slots := 0) X zz hP hD hS hA [0, 1, 2, 3, 4, 5, 6, 7, 8, 9] (by decide) rfl (c_M_byteAt l dC dI cB cI cL H.size adM adM_tape adM_frameAt adM_field adM_draft adM_given adM_low adM_high adM_packet adM_known sM (s0 + v2) _ hx_104) zy_M_byteAt zv_M_byteAt (hts (.methodLink R_M 106 y_M_byteAt) zin_M_106) hl rfl rfl d_M_data_104 (lv_room (Nat.le_of_ble_eq_true rfl)) rfl rfl ⟨Nat.le_trans (Nat.le_of_ble_eq_true rfl) hRf, Nat.le_trans (Nat.le_of_ble_eq_true rfl) hRl⟩ ⟨Nat.zero_le _, Nat.zero_le _⟩ 0 8 rfl rfl
  refine zcalli (wr := ([] : va_W)) hr_104 hP hD hS hA [0, 1, 2, 3, 4, 5, 6, 7, 8, 9] [] rfl rfl (by decide) (by decide) (fun r_104 u_104 H locs hw_104 hP hD hS => ?_)
  subst hw_104
  have hP : va_P (dC, dI) zcl (zwM adM adM_tape adM_frameAt adM_field adM_draft adM_given adM_low adM_high adM_packet adM_known cB cI cL sM) H := hP
  have hD : va_D A (zwM adM adM_tape adM_frameAt adM_field adM_draft adM_given adM_low adM_high adM_packet adM_known cB cI cL sM) := hD
  have hG : g_M_data_c104 sM r_104 = some a := hG
  unfold g_M_data_c104 at hG
  exact W.iret (v := r_104) hx hb hr (fun t9 ht9 hW9 => ⟨⟨r_104, (sM), rfl, Option.some.inj hG, by rw [ht9]; exact hP, hD⟩, hS.F ht9⟩) hS.2.2 d_M_data_107
set_option maxRecDepth 100000 in
set_option maxHeartbeats 4000000 in
theorem k_M_data_77 {p : Program} {l : Launch} {e : Env} {R : Room} {s : State} {m : MethodId} {args : Array Value} {below : List Frame} {meth : Method} {c : Code} {dC : Nat → ClassId} {dI : Nat → Nat → Nat} {cB cI cL : ClassId} {A : Nat → Prop} (X : zx p s m args meth c R R_M b_M_data (some .int) 5 7 155) (hA : ∀ q, s.heap.size ≤ q → A q) (zz : zk dC dI cB cI cL A s)  (N : Nat) (sM : zM) (v2 : Int32) (v3 : Int32) (s0 : Int32) (a : Int32 × zM) (hG : g_M_data_77 N sM v2 v3 s0 = some a) (adM adM_tape adM_frameAt adM_field adM_draft adM_given adM_low adM_high adM_packet adM_known : Nat) (H : Heap) (locs : List Loc) (hP : va_P (dC, dI) zcl (zwM adM adM_tape adM_frameAt adM_field adM_draft adM_given adM_low adM_high adM_packet adM_known cB cI cL sM) H) (hD : va_D A (zwM adM adM_tape adM_frameAt adM_field adM_draft adM_given adM_low adM_high adM_packet adM_known cB cI cL sM)) (hS : va_S A s.heap H locs) (ls : Array Slot) (hl : lv_has ls 5 [(0, .ref adM), (2, .int v2), (3, .int v3)]) : W p l e R s m args below meth c H locs 0 0 (MQ below (q_M_data dC dI cB cI cL A adM adM_tape adM_frameAt adM_field adM_draft adM_given adM_low adM_high adM_packet adM_known a) args s 0 0 A) (F0 m 77 ls [.int s0, .ref adM]) := by
  obtain ⟨hx, hb, hr, hml, hown, hts, hlocks, hRf, hRl⟩ := id X
  unfold g_M_data_77 at hG
  refine lv_iconst (v := (1 : Int32)) hx hb d_M_data_77 (by decide) ?_
  obtain ⟨a_78, hx_78, hG⟩ := zb hG
  have hr_78 := zrunV (p := p) (e := e) (below := below) (meth := meth) (As := [.int s0, .int (1 : Int32)]) (rest := []) (st0 := [.int (1 : Int32), .int s0, .ref adM]) (cells := 0) (slots := 0) X zz hP hD hS hA [0, 1, 2, 3, 4, 5, 6, 7, 8, 9] (by decide) rfl (c_M_fails l dC dI cB cI cL H.size adM adM_tape adM_frameAt adM_field adM_draft adM_given adM_low adM_high adM_packet adM_known sM s0 (1 : Int32) _ hx_78) zy_M_fails zv_M_fails (hts (.methodLink R_M 62 y_M_fails) zin_M_62) hl rfl rfl d_M_data_78 (lv_room (Nat.le_of_ble_eq_true rfl)) rfl rfl ⟨Nat.le_trans (Nat.le_of_ble_eq_true rfl) hRf, Nat.le_trans (Nat.le_of_ble_eq_true rfl) hRl⟩ ⟨Nat.zero_le _, Nat.zero_le _⟩ 0 8 rfl rfl
  refine zcalli (wr := ([] : va_W)) hr_78 hP hD hS hA [0, 1, 2, 3, 4, 5, 6, 7, 8, 9] [] rfl rfl (by decide) (by decide) (fun r_78 u_78 H locs hw_78 hP hD hS => ?_)
  obtain ⟨sM_78, rfl⟩ : ∃ z, z = u_78 := ⟨_, rfl⟩
  subst hw_78
  have hP : va_P (dC, dI) zcl (zwM adM adM_tape adM_frameAt adM_field adM_draft adM_given adM_low adM_high adM_packet adM_known cB cI cL sM_78) H := hP
  have hD : va_D A (zwM adM adM_tape adM_frameAt adM_field adM_draft adM_given adM_low adM_high adM_packet adM_known cB cI cL sM_78) := hD
  have hG : g_M_data_c78 N v2 v3 sM_78 r_78 = some a := hG
  unfold g_M_data_c78 at hG
  refine lv_if_eq (tgt := 86) hx hb d_M_data_81 (by decide) (fun hc => ?_) (fun hc => ?_)
  · have hG := zt hG hc
    refine lv_aload_n hx hb d_M_data_86 rfl (lv_at hl 0 rfl) ?_
    refine lv_iload_n hx hb d_M_data_87 rfl (lv_at hl 2 rfl) ?_
    refine lv_if_eq (tgt := 98) hx hb d_M_data_88 (by decide) (fun hc => ?_) (fun hc => ?_)
    · have hG := zt hG hc
      refine lv_aload_n hx hb d_M_data_98 rfl (lv_at hl 0 rfl) ?_
      refine va_get (D := (dC, dI)) (ci := 8) (v := .int (zM_dataAt sM_78)) (C := R_M) (T := F_M) (N := 26) hx hb hts zi_M hown zz.1 hP 0 rfl rfl 9 (by decide) (hts (.fieldLink R_M 144 "WireCodecModel" "dataAt" "I") zin_M_144) (fun _ h9 => h9) rfl d_M_data_99 ?_
      exact k_M_data_102 X hA zz N sM_78 v2 (zM_dataAt sM_78) _ hG adM adM_tape adM_frameAt adM_field adM_draft adM_given adM_low adM_high adM_packet adM_known _ _ hP hD hS _ (lv_sub hl [1] rfl)
    · have hG := zf hG hc
      refine lv_aload_n hx hb d_M_data_91 rfl (lv_at hl 0 rfl) ?_
      refine va_get (D := (dC, dI)) (ci := 8) (v := .int (zM_secretAt sM_78)) (C := R_M) (T := F_M) (N := 26) hx hb hts zi_M hown zz.1 hP 0 rfl rfl 11 (by decide) (hts (.fieldLink R_M 162 "WireCodecModel" "secretAt" "I") zin_M_162) (fun _ h9 => h9) rfl d_M_data_92 ?_
      refine lv_goto (tgt := 102) hx hb d_M_data_95 (by decide) ?_
      exact k_M_data_102 X hA zz N sM_78 v2 (zM_secretAt sM_78) _ hG adM adM_tape adM_frameAt adM_field adM_draft adM_given adM_low adM_high adM_packet adM_known _ _ hP hD hS _ (lv_sub hl [1] rfl)
  · have hG := zf hG hc
    refine lv_iconst (v := (0 : Int32)) hx hb d_M_data_84 (by decide) ?_
    exact W.iret (v := (0 : Int32)) hx hb hr (fun t9 ht9 hW9 => ⟨⟨(0 : Int32), (sM_78), rfl, Option.some.inj hG, by rw [ht9]; exact hP, hD⟩, hS.F ht9⟩) hS.2.2 d_M_data_85
set_option maxRecDepth 100000 in
set_option maxHeartbeats 4000000 in
theorem k_M_data_55 {p : Program} {l : Launch} {e : Env} {R : Room} {s : State} {m : MethodId} {args : Array Value} {below : List Frame} {meth : Method} {c : Code} {dC : Nat → ClassId} {dI : Nat → Nat → Nat} {cB cI cL : ClassId} {A : Nat → Prop} (X : zx p s m args meth c R R_M b_M_data (some .int) 5 7 155) (hA : ∀ q, s.heap.size ≤ q → A q) (zz : zk dC dI cB cI cL A s)  (N : Nat) (sM : zM) (v2 : Int32) (v3 : Int32) (s0 : Int32) (a : Int32 × zM) (hG : g_M_data_55 N sM v2 v3 s0 = some a) (adM adM_tape adM_frameAt adM_field adM_draft adM_given adM_low adM_high adM_packet adM_known : Nat) (H : Heap) (locs : List Loc) (hP : va_P (dC, dI) zcl (zwM adM adM_tape adM_frameAt adM_field adM_draft adM_given adM_low adM_high adM_packet adM_known cB cI cL sM) H) (hD : va_D A (zwM adM adM_tape adM_frameAt adM_field adM_draft adM_given adM_low adM_high adM_packet adM_known cB cI cL sM)) (hS : va_S A s.heap H locs) (ls : Array Slot) (hl : lv_has ls 5 [(0, .ref adM), (2, .int v2), (3, .int v3)]) : W p l e R s m args below meth c H locs 0 0 (MQ below (q_M_data dC dI cB cI cL A adM adM_tape adM_frameAt adM_field adM_draft adM_given adM_low adM_high adM_packet adM_known a) args s 0 0 A) (F0 m 55 ls [.int s0]) := by
  obtain ⟨hx, hb, hr, hml, hown, hts, hlocks, hRf, hRl⟩ := id X
  unfold g_M_data_55 at hG
  refine lv_istore (lv' := [(4, .int s0), (0, .ref adM), (2, .int v2), (3, .int v3)]) hx hb d_M_data_55 hl (by decide) rfl (fun ls hl => ?_)
  refine lv_aload_n hx hb d_M_data_57 rfl (lv_at hl 1 rfl) ?_
  refine lv_iload_n hx hb d_M_data_58 rfl (lv_at hl 2 rfl) ?_
  refine lv_i2l hx hb d_M_data_59 rfl ?_
  refine lv_lconst (v := (0 : Int64)) hx hb d_M_data_60 (by decide) ?_
  refine lv_iload hx hb d_M_data_61 (lv_at hl 0 rfl) ?_
  refine lv_i2l hx hb d_M_data_63 rfl ?_
  refine lv_lconst (v := (1 : Int64)) hx hb d_M_data_64 (by decide) ?_
  refine lv_lsub hx hb d_M_data_65 ?_
  obtain ⟨a_66, hx_66, hG⟩ := zb hG
  have hr_66 := zrunS (p := p) (e := e) (below := below) (meth := meth) (As := [.long v2.toInt64, .long (0 : Int64), .long (s0.toInt64 - (1 : Int64))]) (rest := [.ref adM]) (st0 := [.long (s0.toInt64 - (1 : Int64)), .long (0 : Int64), .long v2.toInt64, .ref adM]) (cells := 0) (slots := 0) X zz hP hD hS hA [] (by decide) rfl (c_M_within l dC dI cB cI cL H.size v2.toInt64 (0 : Int64) (s0.toInt64 - (1 : Int64)) _ hx_66) zy_M_within zv_M_within (hts (.methodLink R_M 53 y_M_within) zin_M_53) hl rfl rfl d_M_data_66 (lv_room (Nat.le_of_ble_eq_true rfl)) rfl rfl ⟨Nat.le_trans (Nat.le_of_ble_eq_true rfl) hRf, Nat.le_trans (Nat.le_of_ble_eq_true rfl) hRl⟩ ⟨Nat.zero_le _, Nat.zero_le _⟩
  refine zcalli (wr := (zwM adM adM_tape adM_frameAt adM_field adM_draft adM_given adM_low adM_high adM_packet adM_known cB cI cL sM)) hr_66 hP hD hS hA [] [0, 1, 2, 3, 4, 5, 6, 7, 8, 9] rfl rfl (by decide) (by decide) (fun r_66 u_66 H locs hw_66 hP hD hS => ?_)
  subst hw_66
  have hP : va_P (dC, dI) zcl (zwM adM adM_tape adM_frameAt adM_field adM_draft adM_given adM_low adM_high adM_packet adM_known cB cI cL sM) H := hP
  have hD : va_D A (zwM adM adM_tape adM_frameAt adM_field adM_draft adM_given adM_low adM_high adM_packet adM_known cB cI cL sM) := hD
  have hG : g_M_data_c66 N sM v2 v3 r_66 = some a := hG
  unfold g_M_data_c66 at hG
  refine lv_if_ne (tgt := 76) hx hb d_M_data_69 (by decide) (fun hc => ?_) (fun hc => ?_)
  · have hG := zf hG hc
    refine lv_iconst (v := (0 : Int32)) hx hb d_M_data_76 (by decide) ?_
    exact k_M_data_77 X hA zz N sM v2 v3 (0 : Int32) _ hG adM adM_tape adM_frameAt adM_field adM_draft adM_given adM_low adM_high adM_packet adM_known _ _ hP hD hS _ (lv_sub hl [1, 2, 3] rfl)
  · have hG := zt hG hc
    refine lv_iconst (v := (1 : Int32)) hx hb d_M_data_72 (by decide) ?_
    refine lv_goto (tgt := 77) hx hb d_M_data_73 (by decide) ?_
    exact k_M_data_77 X hA zz N sM v2 v3 (1 : Int32) _ hG adM adM_tape adM_frameAt adM_field adM_draft adM_given adM_low adM_high adM_packet adM_known _ _ hP hD hS _ (lv_sub hl [1, 2, 3] rfl)
set_option maxRecDepth 100000 in
set_option maxHeartbeats 4000000 in
theorem k_M_data_14 {p : Program} {l : Launch} {e : Env} {R : Room} {s : State} {m : MethodId} {args : Array Value} {below : List Frame} {meth : Method} {c : Code} {dC : Nat → ClassId} {dI : Nat → Nat → Nat} {cB cI cL : ClassId} {A : Nat → Prop} (X : zx p s m args meth c R R_M b_M_data (some .int) 5 7 155) (hA : ∀ q, s.heap.size ≤ q → A q) (zz : zk dC dI cB cI cL A s)  (N : Nat) (sM : zM) (v1 : Int32) (v2 : Int32) (v3 : Int32) (s0 : Int32) (a : Int32 × zM) (hG : g_M_data_14 N sM v1 v2 v3 s0 = some a) (adM adM_tape adM_frameAt adM_field adM_draft adM_given adM_low adM_high adM_packet adM_known : Nat) (H : Heap) (locs : List Loc) (hP : va_P (dC, dI) zcl (zwM adM adM_tape adM_frameAt adM_field adM_draft adM_given adM_low adM_high adM_packet adM_known cB cI cL sM) H) (hD : va_D A (zwM adM adM_tape adM_frameAt adM_field adM_draft adM_given adM_low adM_high adM_packet adM_known cB cI cL sM)) (hS : va_S A s.heap H locs) (ls : Array Slot) (hl : lv_has ls 5 [(0, .ref adM), (1, .int v1), (2, .int v2), (3, .int v3)]) : W p l e R s m args below meth c H locs 0 0 (MQ below (q_M_data dC dI cB cI cL A adM adM_tape adM_frameAt adM_field adM_draft adM_given adM_low adM_high adM_packet adM_known a) args s 0 0 A) (F0 m 14 ls [.int s0, .ref adM]) := by
  obtain ⟨hx, hb, hr, hml, hown, hts, hlocks, hRf, hRl⟩ := id X
  unfold g_M_data_14 at hG
  refine lv_iconst (v := (1 : Int32)) hx hb d_M_data_14 (by decide) ?_
  obtain ⟨a_15, hx_15, hG⟩ := zb hG
  have hr_15 := zrunV (p := p) (e := e) (below := below) (meth := meth) (As := [.int s0, .int (1 : Int32)]) (rest := []) (st0 := [.int (1 : Int32), .int s0, .ref adM]) (cells := 0) (slots := 0) X zz hP hD hS hA [0, 1, 2, 3, 4, 5, 6, 7, 8, 9] (by decide) rfl (c_M_fails l dC dI cB cI cL H.size adM adM_tape adM_frameAt adM_field adM_draft adM_given adM_low adM_high adM_packet adM_known sM s0 (1 : Int32) _ hx_15) zy_M_fails zv_M_fails (hts (.methodLink R_M 62 y_M_fails) zin_M_62) hl rfl rfl d_M_data_15 (lv_room (Nat.le_of_ble_eq_true rfl)) rfl rfl ⟨Nat.le_trans (Nat.le_of_ble_eq_true rfl) hRf, Nat.le_trans (Nat.le_of_ble_eq_true rfl) hRl⟩ ⟨Nat.zero_le _, Nat.zero_le _⟩ 0 8 rfl rfl
  refine zcalli (wr := ([] : va_W)) hr_15 hP hD hS hA [0, 1, 2, 3, 4, 5, 6, 7, 8, 9] [] rfl rfl (by decide) (by decide) (fun r_15 u_15 H locs hw_15 hP hD hS => ?_)
  obtain ⟨sM_15, rfl⟩ : ∃ z, z = u_15 := ⟨_, rfl⟩
  subst hw_15
  have hP : va_P (dC, dI) zcl (zwM adM adM_tape adM_frameAt adM_field adM_draft adM_given adM_low adM_high adM_packet adM_known cB cI cL sM_15) H := hP
  have hD : va_D A (zwM adM adM_tape adM_frameAt adM_field adM_draft adM_given adM_low adM_high adM_packet adM_known cB cI cL sM_15) := hD
  have hG : g_M_data_c15 N v1 v2 v3 sM_15 r_15 = some a := hG
  unfold g_M_data_c15 at hG
  refine lv_if_eq (tgt := 23) hx hb d_M_data_18 (by decide) (fun hc => ?_) (fun hc => ?_)
  · have hG := zt hG hc
    refine lv_iload_n hx hb d_M_data_23 rfl (lv_at hl 3 rfl) ?_
    refine lv_if_ne (tgt := 34) hx hb d_M_data_24 (by decide) (fun hc => ?_) (fun hc => ?_)
    · have hG := zf hG hc
      refine lv_aload_n hx hb d_M_data_34 rfl (lv_at hl 0 rfl) ?_
      refine lv_aload_n hx hb d_M_data_35 rfl (lv_at hl 0 rfl) ?_
      refine va_get (D := (dC, dI)) (ci := 8) (v := .ref adM_frameAt) (C := R_M) (T := F_M) (N := 26) hx hb hts zi_M hown zz.1 hP 0 rfl rfl 6 (by decide) (hts (.fieldLink R_M 18 "WireCodecModel" "frameAt" "[I") zin_M_18) (fun _ h9 => h9) rfl d_M_data_36 ?_
      refine lv_iload_n hx hb d_M_data_39 rfl (lv_at hl 1 rfl) ?_
      obtain ⟨hin, hG⟩ := zgd hG
      refine va_iald hx hb zz.1 hP 2 1 rfl rfl hin d_M_data_40 ?_
      obtain ⟨a_41, hx_41, hG⟩ := zb hG
      have hr_41 := zrunV (p := p) (e := e) (below := below) (meth := meth) (As := [.int ((zM_frameAt sM_15) v1.toNatClampNeg)]) (rest := []) (st0 := [.int ((zM_frameAt sM_15) v1.toNatClampNeg), .ref adM]) (cells := 0) (slots := 0) X zz hP hD hS hA [0, 1, 2, 3, 4, 5, 6, 7, 8, 9] (by decide) rfl (c_M_kindAt l dC dI cB cI cL H.size adM adM_tape adM_frameAt adM_field adM_draft adM_given adM_low adM_high adM_packet adM_known sM_15 ((zM_frameAt sM_15) v1.toNatClampNeg) _ hx_41) zy_M_kindAt zv_M_kindAt (hts (.methodLink R_M 165 y_M_kindAt) zin_M_165) hl rfl rfl d_M_data_41 (lv_room (Nat.le_of_ble_eq_true rfl)) rfl rfl ⟨Nat.le_trans (Nat.le_of_ble_eq_true rfl) hRf, Nat.le_trans (Nat.le_of_ble_eq_true rfl) hRl⟩ ⟨Nat.zero_le _, Nat.zero_le _⟩ 0 8 rfl rfl
      refine zcalli (wr := ([] : va_W)) hr_41 hP hD hS hA [0, 1, 2, 3, 4, 5, 6, 7, 8, 9] [] rfl rfl (by decide) (by decide) (fun r_41 u_41 H locs hw_41 hP hD hS => ?_)
      subst hw_41
      have hP : va_P (dC, dI) zcl (zwM adM adM_tape adM_frameAt adM_field adM_draft adM_given adM_low adM_high adM_packet adM_known cB cI cL sM_15) H := hP
      have hD : va_D A (zwM adM adM_tape adM_frameAt adM_field adM_draft adM_given adM_low adM_high adM_packet adM_known cB cI cL sM_15) := hD
      have hG : g_M_data_c41 N v2 v3 sM_15 r_41 = some a := hG
      unfold g_M_data_c41 at hG
      refine lv_bipush (v := (24 : Int32)) hx hb d_M_data_44 (by decide) ?_
      refine lv_icmp_ne (tgt := 54) hx hb d_M_data_46 (by decide) (fun hc => ?_) (fun hc => ?_)
      · have hG := zf hG hc
        refine lv_iconst (v := (0 : Int32)) hx hb d_M_data_54 (by decide) ?_
        exact k_M_data_55 X hA zz N sM_15 v2 v3 (0 : Int32) _ hG adM adM_tape adM_frameAt adM_field adM_draft adM_given adM_low adM_high adM_packet adM_known _ _ hP hD hS _ (lv_sub hl [0, 2, 3] rfl)
      · have hG := zt hG hc
        refine lv_bipush (v := (16 : Int32)) hx hb d_M_data_49 (by decide) ?_
        refine lv_goto (tgt := 55) hx hb d_M_data_51 (by decide) ?_
        exact k_M_data_55 X hA zz N sM_15 v2 v3 (16 : Int32) _ hG adM adM_tape adM_frameAt adM_field adM_draft adM_given adM_low adM_high adM_packet adM_known _ _ hP hD hS _ (lv_sub hl [0, 2, 3] rfl)
    · have hG := zt hG hc
      refine lv_aload_n hx hb d_M_data_27 rfl (lv_at hl 0 rfl) ?_
      refine va_get (D := (dC, dI)) (ci := 8) (v := .int (zM_dataSize sM_15)) (C := R_M) (T := F_M) (N := 26) hx hb hts zi_M hown zz.1 hP 0 rfl rfl 10 (by decide) (hts (.fieldLink R_M 147 "WireCodecModel" "dataSize" "I") zin_M_147) (fun _ h9 => h9) rfl d_M_data_28 ?_
      refine lv_goto (tgt := 55) hx hb d_M_data_31 (by decide) ?_
      exact k_M_data_55 X hA zz N sM_15 v2 v3 (zM_dataSize sM_15) _ hG adM adM_tape adM_frameAt adM_field adM_draft adM_given adM_low adM_high adM_packet adM_known _ _ hP hD hS _ (lv_sub hl [0, 2, 3] rfl)
  · have hG := zf hG hc
    refine lv_iconst (v := (0 : Int32)) hx hb d_M_data_21 (by decide) ?_
    exact W.iret (v := (0 : Int32)) hx hb hr (fun t9 ht9 hW9 => ⟨⟨(0 : Int32), (sM_15), rfl, Option.some.inj hG, by rw [ht9]; exact hP, hD⟩, hS.F ht9⟩) hS.2.2 d_M_data_22
set_option maxRecDepth 100000 in
set_option maxHeartbeats 4000000 in
theorem k_M_data_0 {p : Program} {l : Launch} {e : Env} {R : Room} {s : State} {m : MethodId} {args : Array Value} {below : List Frame} {meth : Method} {c : Code} {dC : Nat → ClassId} {dI : Nat → Nat → Nat} {cB cI cL : ClassId} {A : Nat → Prop} (X : zx p s m args meth c R R_M b_M_data (some .int) 5 7 155) (hA : ∀ q, s.heap.size ≤ q → A q) (zz : zk dC dI cB cI cL A s)  (N : Nat) (sM : zM) (v1 : Int32) (v2 : Int32) (v3 : Int32) (a : Int32 × zM) (hG : g_M_data N sM v1 v2 v3 = some a) (adM adM_tape adM_frameAt adM_field adM_draft adM_given adM_low adM_high adM_packet adM_known : Nat) (H : Heap) (locs : List Loc) (hP : va_P (dC, dI) zcl (zwM adM adM_tape adM_frameAt adM_field adM_draft adM_given adM_low adM_high adM_packet adM_known cB cI cL sM) H) (hD : va_D A (zwM adM adM_tape adM_frameAt adM_field adM_draft adM_given adM_low adM_high adM_packet adM_known cB cI cL sM)) (hS : va_S A s.heap H locs) (ls : Array Slot) (hl : lv_has ls 5 [(0, .ref adM), (1, .int v1), (2, .int v2), (3, .int v3)]) : W p l e R s m args below meth c H locs 0 0 (MQ below (q_M_data dC dI cB cI cL A adM adM_tape adM_frameAt adM_field adM_draft adM_given adM_low adM_high adM_packet adM_known a) args s 0 0 A) (F0 m 0 ls []) := by
  obtain ⟨hx, hb, hr, hml, hown, hts, hlocks, hRf, hRl⟩ := id X
  unfold g_M_data at hG
  refine lv_aload_n hx hb d_M_data_0 rfl (lv_at hl 0 rfl) ?_
  refine lv_aload_n hx hb d_M_data_1 rfl (lv_at hl 0 rfl) ?_
  refine lv_iload_n hx hb d_M_data_2 rfl (lv_at hl 1 rfl) ?_
  obtain ⟨a_3, hx_3, hG⟩ := zb hG
  have hr_3 := zrunV (p := p) (e := e) (below := below) (meth := meth) (As := [.int v1]) (rest := [.ref adM]) (st0 := [.int v1, .ref adM, .ref adM]) (cells := 0) (slots := 0) X zz hP hD hS hA [0, 1, 2, 3, 4, 5, 6, 7, 8, 9] (by decide) rfl (c_M_parsed l dC dI cB cI cL H.size adM adM_tape adM_frameAt adM_field adM_draft adM_given adM_low adM_high adM_packet adM_known N sM v1 _ hx_3) zy_M_parsed zv_M_parsed (hts (.methodLink R_M 208 y_M_parsed) zin_M_208) hl rfl rfl d_M_data_3 (lv_room (Nat.le_of_ble_eq_true rfl)) rfl rfl ⟨Nat.le_trans (Nat.le_of_ble_eq_true rfl) hRf, Nat.le_trans (Nat.le_of_ble_eq_true rfl) hRl⟩ ⟨Nat.zero_le _, Nat.zero_le _⟩ 0 8 rfl rfl
  refine zcalli (wr := ([] : va_W)) hr_3 hP hD hS hA [0, 1, 2, 3, 4, 5, 6, 7, 8, 9] [] rfl rfl (by decide) (by decide) (fun r_3 u_3 H locs hw_3 hP hD hS => ?_)
  obtain ⟨sM_3, rfl⟩ : ∃ z, z = u_3 := ⟨_, rfl⟩
  subst hw_3
  have hP : va_P (dC, dI) zcl (zwM adM adM_tape adM_frameAt adM_field adM_draft adM_given adM_low adM_high adM_packet adM_known cB cI cL sM_3) H := hP
  have hD : va_D A (zwM adM adM_tape adM_frameAt adM_field adM_draft adM_given adM_low adM_high adM_packet adM_known cB cI cL sM_3) := hD
  have hG : g_M_data_c3 N v1 v2 v3 sM_3 r_3 = some a := hG
  unfold g_M_data_c3 at hG
  refine lv_if_ne (tgt := 13) hx hb d_M_data_6 (by decide) (fun hc => ?_) (fun hc => ?_)
  · have hG := zf hG hc
    refine lv_iconst (v := (0 : Int32)) hx hb d_M_data_13 (by decide) ?_
    exact k_M_data_14 X hA zz N sM_3 v1 v2 v3 (0 : Int32) _ hG adM adM_tape adM_frameAt adM_field adM_draft adM_given adM_low adM_high adM_packet adM_known _ _ hP hD hS _ (lv_sub hl [0, 1, 2, 3] rfl)
  · have hG := zt hG hc
    refine lv_iconst (v := (1 : Int32)) hx hb d_M_data_9 (by decide) ?_
    refine lv_goto (tgt := 14) hx hb d_M_data_10 (by decide) ?_
    exact k_M_data_14 X hA zz N sM_3 v1 v2 v3 (1 : Int32) _ hG adM adM_tape adM_frameAt adM_field adM_draft adM_given adM_low adM_high adM_packet adM_known _ _ hP hD hS _ (lv_sub hl [0, 1, 2, 3] rfl)
set_option maxRecDepth 100000 in
set_option maxHeartbeats 4000000 in
theorem c_M_data (l : Launch) (dC : Nat → ClassId) (dI : Nat → Nat → Nat) (cB cI cL : ClassId) (sz : Nat) (adM adM_tape adM_frameAt adM_field adM_draft adM_given adM_low adM_high adM_packet adM_known : Nat) (N : Nat) (sM : zM) (v1 : Int32) (v2 : Int32) (v3 : Int32) (a : Int32 × zM) (hG : g_M_data N sM v1 v2 v3 = some a) : Met l y_M_data (zw y_M_data b_M_data 5 (some .int)) ({ frames := 7, cells := 0, slots := 0, locals := 155 }) (va_Pc [.ref adM, .int v1, .int v2, .int v3] (zpre dC dI cB cI cL sz (zwM adM adM_tape adM_frameAt adM_field adM_draft adM_given adM_low adM_high adM_packet adM_known cB cI cL sM))) (q_M_data dC dI cB cI cL (va_A (zwM adM adM_tape adM_frameAt adM_field adM_draft adM_given adM_low adM_high adM_packet adM_known cB cI cL sM) sz) adM adM_tape adM_frameAt adM_field adM_draft adM_given adM_low adM_high adM_packet adM_known a) 0 0 (va_A (zwM adM adM_tape adM_frameAt adM_field adM_draft adM_given adM_low adM_high adM_packet adM_known cB cI cL sM) sz) := by
  refine Met.ofW (cc := b_M_data) (maxL := 5) (ret := (some .int)) (by decide) rfl ?_
  intro p e s m args below meth c s₁ B hml hv
  obtain ⟨rfl, hsz, hP, zz, hD0⟩ := hv
  subst hsz
  have X := zx_of (F := 7) (L := 155) B hml (Nat.le_refl _) (Nat.le_refl _)
  have hD := hD0.self (sz := s.heap.size)
  have hA : ∀ q : Nat, s.heap.size ≤ q → va_A (zwM adM adM_tape adM_frameAt adM_field adM_draft adM_given adM_low adM_high adM_packet adM_known cB cI cL sM) s.heap.size q := fun q h => Or.inr h
  have hl := lv_entry ([.ref adM, .int v1, .int v2, .int v3]) (n := 5) (Nat.le_of_ble_eq_true rfl)
  rw [lg_entry_eq]
  generalize (lg_sl ([.ref adM, .int v1, .int v2, .int v3]) ++ List.replicate (5 - (lg_sl ([.ref adM, .int v1, .int v2, .int v3])).length) Slot.unset).toArray = ls at hl ⊢
  exact k_M_data_0 X hA zz N sM v1 v2 v3 a hG adM adM_tape adM_frameAt adM_field adM_draft adM_given adM_low adM_high adM_packet adM_known _ _ hP hD va_S.rf ls hl
noncomputable def g_M_range_50 (N : Nat) (sM : zM) : Option (Int64 × zM) := some ((0 : Int64), sM)
noncomputable def g_M_range_c55 (sM_55 : zM) (r_55 : Int64) : Option (Int64 × zM) := some (r_55, sM_55)
noncomputable def g_M_range_c44 (N : Nat) (v2 : Int32) (v3 : Int32) (sM_44 : zM) (r_44 : Int32) : Option (Int64 × zM) := if r_44 = (0 : Int32) then ((g_M_edge N sM_44 v2 v3).bind (fun a => g_M_range_c55 a.2 a.1)) else (g_M_range_50 N sM_44)
noncomputable def g_M_range_43 (N : Nat) (sM : zM) (v2 : Int32) (v3 : Int32) (s0 : Int32) : Option (Int64 × zM) := (g_M_fails sM s0 (1 : Int32)).bind (fun a => g_M_range_c44 N v2 v3 a.2 a.1)
noncomputable def g_M_range_c32 (N : Nat) (v2 : Int32) (v3 : Int32) (sM_15 : zM) (r_32 : Int32) : Option (Int64 × zM) := if r_32 = (0 : Int32) then (g_M_range_43 N sM_15 v2 v3 (1 : Int32)) else (g_M_range_43 N sM_15 v2 v3 (0 : Int32))
noncomputable def g_M_range_c15 (N : Nat) (v2 : Int32) (v3 : Int32) (sM_15 : zM) (r_15 : Int32) : Option (Int64 × zM) := if r_15 = (0 : Int32) then ((g_M_within v2.toInt64 (0 : Int64) (((zM_ranges sM_15).toInt64) - (1 : Int64))).bind (fun a => g_M_range_c32 N v2 v3 sM_15 a)) else (g_M_range_50 N sM_15)
noncomputable def g_M_range_14 (N : Nat) (sM : zM) (v2 : Int32) (v3 : Int32) (s0 : Int32) : Option (Int64 × zM) := (g_M_fails sM s0 (1 : Int32)).bind (fun a => g_M_range_c15 N v2 v3 a.2 a.1)
noncomputable def g_M_range_c3 (N : Nat) (v2 : Int32) (v3 : Int32) (sM_3 : zM) (r_3 : Int32) : Option (Int64 × zM) := if r_3 = (0 : Int32) then (g_M_range_14 N sM_3 v2 v3 (1 : Int32)) else (g_M_range_14 N sM_3 v2 v3 (0 : Int32))
noncomputable def g_M_range (N : Nat) (sM : zM) (v1 : Int32) (v2 : Int32) (v3 : Int32) : Option (Int64 × zM) := (g_M_parsed N sM v1).bind (fun a => g_M_range_c3 N v2 v3 a.2 a.1)
def q_M_range (dC : Nat → ClassId) (dI : Nat → Nat → Nat) (cB cI cL : ClassId) (A : Nat → Prop) (adM : Nat) (adM_tape : Nat) (adM_frameAt : Nat) (adM_field : Nat) (adM_draft : Nat) (adM_given : Nat) (adM_low : Nat) (adM_high : Nat) (adM_packet : Nat) (adM_known : Nat) (a : Int64 × zM) : Array Value → State → Outcome → State → Prop := va_Ql (fun (r : Int64) (u : zM) => (r, u) = a) (fun u U => va_P (dC, dI) zcl (zwM adM adM_tape adM_frameAt adM_field adM_draft adM_given adM_low adM_high adM_packet adM_known cB cI cL u) U.heap ∧ va_D A (zwM adM adM_tape adM_frameAt adM_field adM_draft adM_given adM_low adM_high adM_packet adM_known cB cI cL u)) A
set_option maxRecDepth 100000 in
set_option maxHeartbeats 4000000 in
theorem k_M_range_50 {p : Program} {l : Launch} {e : Env} {R : Room} {s : State} {m : MethodId} {args : Array Value} {below : List Frame} {meth : Method} {c : Code} {dC : Nat → ClassId} {dI : Nat → Nat → Nat} {cB cI cL : ClassId} {A : Nat → Prop} (X : zx p s m args meth c R R_M b_M_range (some .long) 4 7 155) (hA : ∀ q, s.heap.size ≤ q → A q) (zz : zk dC dI cB cI cL A s)  (N : Nat) (sM : zM) (a : Int64 × zM) (hG : g_M_range_50 N sM = some a) (adM adM_tape adM_frameAt adM_field adM_draft adM_given adM_low adM_high adM_packet adM_known : Nat) (H : Heap) (locs : List Loc) (hP : va_P (dC, dI) zcl (zwM adM adM_tape adM_frameAt adM_field adM_draft adM_given adM_low adM_high adM_packet adM_known cB cI cL sM) H) (hD : va_D A (zwM adM adM_tape adM_frameAt adM_field adM_draft adM_given adM_low adM_high adM_packet adM_known cB cI cL sM)) (hS : va_S A s.heap H locs) (ls : Array Slot) (hl : lv_has ls 4 []) : W p l e R s m args below meth c H locs 0 0 (MQ below (q_M_range dC dI cB cI cL A adM adM_tape adM_frameAt adM_field adM_draft adM_given adM_low adM_high adM_packet adM_known a) args s 0 0 A) (F0 m 50 ls []) := by
  obtain ⟨hx, hb, hr, hml, hown, hts, hlocks, hRf, hRl⟩ := id X
  unfold g_M_range_50 at hG
  refine lv_lconst (v := (0 : Int64)) hx hb d_M_range_50 (by decide) ?_
  exact W.lret (v := (0 : Int64)) hx hb hr (fun t9 ht9 hW9 => ⟨⟨(0 : Int64), (sM), rfl, Option.some.inj hG, by rw [ht9]; exact hP, hD⟩, hS.F ht9⟩) hS.2.2 d_M_range_51
set_option maxRecDepth 100000 in
set_option maxHeartbeats 4000000 in
theorem k_M_range_43 {p : Program} {l : Launch} {e : Env} {R : Room} {s : State} {m : MethodId} {args : Array Value} {below : List Frame} {meth : Method} {c : Code} {dC : Nat → ClassId} {dI : Nat → Nat → Nat} {cB cI cL : ClassId} {A : Nat → Prop} (X : zx p s m args meth c R R_M b_M_range (some .long) 4 7 155) (hA : ∀ q, s.heap.size ≤ q → A q) (zz : zk dC dI cB cI cL A s)  (N : Nat) (sM : zM) (v2 : Int32) (v3 : Int32) (s0 : Int32) (a : Int64 × zM) (hG : g_M_range_43 N sM v2 v3 s0 = some a) (adM adM_tape adM_frameAt adM_field adM_draft adM_given adM_low adM_high adM_packet adM_known : Nat) (H : Heap) (locs : List Loc) (hP : va_P (dC, dI) zcl (zwM adM adM_tape adM_frameAt adM_field adM_draft adM_given adM_low adM_high adM_packet adM_known cB cI cL sM) H) (hD : va_D A (zwM adM adM_tape adM_frameAt adM_field adM_draft adM_given adM_low adM_high adM_packet adM_known cB cI cL sM)) (hS : va_S A s.heap H locs) (ls : Array Slot) (hl : lv_has ls 4 [(0, .ref adM), (2, .int v2), (3, .int v3)]) : W p l e R s m args below meth c H locs 0 0 (MQ below (q_M_range dC dI cB cI cL A adM adM_tape adM_frameAt adM_field adM_draft adM_given adM_low adM_high adM_packet adM_known a) args s 0 0 A) (F0 m 43 ls [.int s0, .ref adM]) := by
  obtain ⟨hx, hb, hr, hml, hown, hts, hlocks, hRf, hRl⟩ := id X
  unfold g_M_range_43 at hG
  refine lv_iconst (v := (1 : Int32)) hx hb d_M_range_43 (by decide) ?_
  obtain ⟨a_44, hx_44, hG⟩ := zb hG
  have hr_44 := zrunV (p := p) (e := e) (below := below) (meth := meth) (As := [.int s0, .int (1 : Int32)]) (rest := []) (st0 := [.int (1 : Int32), .int s0, .ref adM]) (cells := 0) (slots := 0) X zz hP hD hS hA [0, 1, 2, 3, 4, 5, 6, 7, 8, 9] (by decide) rfl (c_M_fails l dC dI cB cI cL H.size adM adM_tape adM_frameAt adM_field adM_draft adM_given adM_low adM_high adM_packet adM_known sM s0 (1 : Int32) _ hx_44) zy_M_fails zv_M_fails (hts (.methodLink R_M 62 y_M_fails) zin_M_62) hl rfl rfl d_M_range_44 (lv_room (Nat.le_of_ble_eq_true rfl)) rfl rfl ⟨Nat.le_trans (Nat.le_of_ble_eq_true rfl) hRf, Nat.le_trans (Nat.le_of_ble_eq_true rfl) hRl⟩ ⟨Nat.zero_le _, Nat.zero_le _⟩ 0 8 rfl rfl
  refine zcalli (wr := ([] : va_W)) hr_44 hP hD hS hA [0, 1, 2, 3, 4, 5, 6, 7, 8, 9] [] rfl rfl (by decide) (by decide) (fun r_44 u_44 H locs hw_44 hP hD hS => ?_)
  obtain ⟨sM_44, rfl⟩ : ∃ z, z = u_44 := ⟨_, rfl⟩
  subst hw_44
  have hP : va_P (dC, dI) zcl (zwM adM adM_tape adM_frameAt adM_field adM_draft adM_given adM_low adM_high adM_packet adM_known cB cI cL sM_44) H := hP
  have hD : va_D A (zwM adM adM_tape adM_frameAt adM_field adM_draft adM_given adM_low adM_high adM_packet adM_known cB cI cL sM_44) := hD
  have hG : g_M_range_c44 N v2 v3 sM_44 r_44 = some a := hG
  unfold g_M_range_c44 at hG
  refine lv_if_eq (tgt := 52) hx hb d_M_range_47 (by decide) (fun hc => ?_) (fun hc => ?_)
  · have hG := zt hG hc
    refine lv_aload_n hx hb d_M_range_52 rfl (lv_at hl 0 rfl) ?_
    refine lv_iload_n hx hb d_M_range_53 rfl (lv_at hl 1 rfl) ?_
    refine lv_iload_n hx hb d_M_range_54 rfl (lv_at hl 2 rfl) ?_
    obtain ⟨a_55, hx_55, hG⟩ := zb hG
    have hr_55 := zrunV (p := p) (e := e) (below := below) (meth := meth) (As := [.int v2, .int v3]) (rest := []) (st0 := [.int v3, .int v2, .ref adM]) (cells := 0) (slots := 0) X zz hP hD hS hA [0, 1, 2, 3, 4, 5, 6, 7, 8, 9] (by decide) rfl (c_M_edge l dC dI cB cI cL H.size adM adM_tape adM_frameAt adM_field adM_draft adM_given adM_low adM_high adM_packet adM_known N sM_44 v2 v3 _ hx_55) zy_M_edge zv_M_edge (hts (.methodLink R_M 184 y_M_edge) zin_M_184) hl rfl rfl d_M_range_55 (lv_room (Nat.le_of_ble_eq_true rfl)) rfl rfl ⟨Nat.le_trans (Nat.le_of_ble_eq_true rfl) hRf, Nat.le_trans (Nat.le_of_ble_eq_true rfl) hRl⟩ ⟨Nat.zero_le _, Nat.zero_le _⟩ 0 8 rfl rfl
    refine zcalll (wr := ([] : va_W)) hr_55 hP hD hS hA [0, 1, 2, 3, 4, 5, 6, 7, 8, 9] [] rfl rfl (by decide) (by decide) (fun r_55 u_55 H locs hw_55 hP hD hS => ?_)
    obtain ⟨sM_55, rfl⟩ : ∃ z, z = u_55 := ⟨_, rfl⟩
    subst hw_55
    have hP : va_P (dC, dI) zcl (zwM adM adM_tape adM_frameAt adM_field adM_draft adM_given adM_low adM_high adM_packet adM_known cB cI cL sM_55) H := hP
    have hD : va_D A (zwM adM adM_tape adM_frameAt adM_field adM_draft adM_given adM_low adM_high adM_packet adM_known cB cI cL sM_55) := hD
    have hG : g_M_range_c55 sM_55 r_55 = some a := hG
    unfold g_M_range_c55 at hG
    exact W.lret (v := r_55) hx hb hr (fun t9 ht9 hW9 => ⟨⟨r_55, (sM_55), rfl, Option.some.inj hG, by rw [ht9]; exact hP, hD⟩, hS.F ht9⟩) hS.2.2 d_M_range_58
  · have hG := zf hG hc
    exact k_M_range_50 X hA zz N sM_44 _ hG adM adM_tape adM_frameAt adM_field adM_draft adM_given adM_low adM_high adM_packet adM_known _ _ hP hD hS _ (lv_sub hl [] rfl)
set_option maxRecDepth 100000 in
set_option maxHeartbeats 4000000 in
theorem k_M_range_14 {p : Program} {l : Launch} {e : Env} {R : Room} {s : State} {m : MethodId} {args : Array Value} {below : List Frame} {meth : Method} {c : Code} {dC : Nat → ClassId} {dI : Nat → Nat → Nat} {cB cI cL : ClassId} {A : Nat → Prop} (X : zx p s m args meth c R R_M b_M_range (some .long) 4 7 155) (hA : ∀ q, s.heap.size ≤ q → A q) (zz : zk dC dI cB cI cL A s)  (N : Nat) (sM : zM) (v2 : Int32) (v3 : Int32) (s0 : Int32) (a : Int64 × zM) (hG : g_M_range_14 N sM v2 v3 s0 = some a) (adM adM_tape adM_frameAt adM_field adM_draft adM_given adM_low adM_high adM_packet adM_known : Nat) (H : Heap) (locs : List Loc) (hP : va_P (dC, dI) zcl (zwM adM adM_tape adM_frameAt adM_field adM_draft adM_given adM_low adM_high adM_packet adM_known cB cI cL sM) H) (hD : va_D A (zwM adM adM_tape adM_frameAt adM_field adM_draft adM_given adM_low adM_high adM_packet adM_known cB cI cL sM)) (hS : va_S A s.heap H locs) (ls : Array Slot) (hl : lv_has ls 4 [(0, .ref adM), (2, .int v2), (3, .int v3)]) : W p l e R s m args below meth c H locs 0 0 (MQ below (q_M_range dC dI cB cI cL A adM adM_tape adM_frameAt adM_field adM_draft adM_given adM_low adM_high adM_packet adM_known a) args s 0 0 A) (F0 m 14 ls [.int s0, .ref adM]) := by
  obtain ⟨hx, hb, hr, hml, hown, hts, hlocks, hRf, hRl⟩ := id X
  unfold g_M_range_14 at hG
  refine lv_iconst (v := (1 : Int32)) hx hb d_M_range_14 (by decide) ?_
  obtain ⟨a_15, hx_15, hG⟩ := zb hG
  have hr_15 := zrunV (p := p) (e := e) (below := below) (meth := meth) (As := [.int s0, .int (1 : Int32)]) (rest := []) (st0 := [.int (1 : Int32), .int s0, .ref adM]) (cells := 0) (slots := 0) X zz hP hD hS hA [0, 1, 2, 3, 4, 5, 6, 7, 8, 9] (by decide) rfl (c_M_fails l dC dI cB cI cL H.size adM adM_tape adM_frameAt adM_field adM_draft adM_given adM_low adM_high adM_packet adM_known sM s0 (1 : Int32) _ hx_15) zy_M_fails zv_M_fails (hts (.methodLink R_M 62 y_M_fails) zin_M_62) hl rfl rfl d_M_range_15 (lv_room (Nat.le_of_ble_eq_true rfl)) rfl rfl ⟨Nat.le_trans (Nat.le_of_ble_eq_true rfl) hRf, Nat.le_trans (Nat.le_of_ble_eq_true rfl) hRl⟩ ⟨Nat.zero_le _, Nat.zero_le _⟩ 0 8 rfl rfl
  refine zcalli (wr := ([] : va_W)) hr_15 hP hD hS hA [0, 1, 2, 3, 4, 5, 6, 7, 8, 9] [] rfl rfl (by decide) (by decide) (fun r_15 u_15 H locs hw_15 hP hD hS => ?_)
  obtain ⟨sM_15, rfl⟩ : ∃ z, z = u_15 := ⟨_, rfl⟩
  subst hw_15
  have hP : va_P (dC, dI) zcl (zwM adM adM_tape adM_frameAt adM_field adM_draft adM_given adM_low adM_high adM_packet adM_known cB cI cL sM_15) H := hP
  have hD : va_D A (zwM adM adM_tape adM_frameAt adM_field adM_draft adM_given adM_low adM_high adM_packet adM_known cB cI cL sM_15) := hD
  have hG : g_M_range_c15 N v2 v3 sM_15 r_15 = some a := hG
  unfold g_M_range_c15 at hG
  refine lv_if_ne (tgt := 50) hx hb d_M_range_18 (by decide) (fun hc => ?_) (fun hc => ?_)
  · have hG := zf hG hc
    exact k_M_range_50 X hA zz N sM_15 _ hG adM adM_tape adM_frameAt adM_field adM_draft adM_given adM_low adM_high adM_packet adM_known _ _ hP hD hS _ (lv_sub hl [] rfl)
  · have hG := zt hG hc
    refine lv_aload_n hx hb d_M_range_21 rfl (lv_at hl 0 rfl) ?_
    refine lv_iload_n hx hb d_M_range_22 rfl (lv_at hl 1 rfl) ?_
    refine lv_i2l hx hb d_M_range_23 rfl ?_
    refine lv_lconst (v := (0 : Int64)) hx hb d_M_range_24 (by decide) ?_
    refine lv_aload_n hx hb d_M_range_25 rfl (lv_at hl 0 rfl) ?_
    refine va_get (D := (dC, dI)) (ci := 8) (v := .int (zM_ranges sM_15)) (C := R_M) (T := F_M) (N := 26) hx hb hts zi_M hown zz.1 hP 0 rfl rfl 12 (by decide) (hts (.fieldLink R_M 153 "WireCodecModel" "ranges" "I") zin_M_153) (fun _ h9 => h9) rfl d_M_range_26 ?_
    refine lv_i2l hx hb d_M_range_29 rfl ?_
    refine lv_lconst (v := (1 : Int64)) hx hb d_M_range_30 (by decide) ?_
    refine lv_lsub hx hb d_M_range_31 ?_
    obtain ⟨a_32, hx_32, hG⟩ := zb hG
    have hr_32 := zrunS (p := p) (e := e) (below := below) (meth := meth) (As := [.long v2.toInt64, .long (0 : Int64), .long (((zM_ranges sM_15).toInt64) - (1 : Int64))]) (rest := [.ref adM]) (st0 := [.long (((zM_ranges sM_15).toInt64) - (1 : Int64)), .long (0 : Int64), .long v2.toInt64, .ref adM]) (cells := 0) (slots := 0) X zz hP hD hS hA [] (by decide) rfl (c_M_within l dC dI cB cI cL H.size v2.toInt64 (0 : Int64) (((zM_ranges sM_15).toInt64) - (1 : Int64)) _ hx_32) zy_M_within zv_M_within (hts (.methodLink R_M 53 y_M_within) zin_M_53) hl rfl rfl d_M_range_32 (lv_room (Nat.le_of_ble_eq_true rfl)) rfl rfl ⟨Nat.le_trans (Nat.le_of_ble_eq_true rfl) hRf, Nat.le_trans (Nat.le_of_ble_eq_true rfl) hRl⟩ ⟨Nat.zero_le _, Nat.zero_le _⟩
    refine zcalli (wr := (zwM adM adM_tape adM_frameAt adM_field adM_draft adM_given adM_low adM_high adM_packet adM_known cB cI cL sM_15)) hr_32 hP hD hS hA [] [0, 1, 2, 3, 4, 5, 6, 7, 8, 9] rfl rfl (by decide) (by decide) (fun r_32 u_32 H locs hw_32 hP hD hS => ?_)
    subst hw_32
    have hP : va_P (dC, dI) zcl (zwM adM adM_tape adM_frameAt adM_field adM_draft adM_given adM_low adM_high adM_packet adM_known cB cI cL sM_15) H := hP
    have hD : va_D A (zwM adM adM_tape adM_frameAt adM_field adM_draft adM_given adM_low adM_high adM_packet adM_known cB cI cL sM_15) := hD
    have hG : g_M_range_c32 N v2 v3 sM_15 r_32 = some a := hG
    unfold g_M_range_c32 at hG
    refine lv_if_ne (tgt := 42) hx hb d_M_range_35 (by decide) (fun hc => ?_) (fun hc => ?_)
    · have hG := zf hG hc
      refine lv_iconst (v := (0 : Int32)) hx hb d_M_range_42 (by decide) ?_
      exact k_M_range_43 X hA zz N sM_15 v2 v3 (0 : Int32) _ hG adM adM_tape adM_frameAt adM_field adM_draft adM_given adM_low adM_high adM_packet adM_known _ _ hP hD hS _ (lv_sub hl [0, 1, 2] rfl)
    · have hG := zt hG hc
      refine lv_iconst (v := (1 : Int32)) hx hb d_M_range_38 (by decide) ?_
      refine lv_goto (tgt := 43) hx hb d_M_range_39 (by decide) ?_
      exact k_M_range_43 X hA zz N sM_15 v2 v3 (1 : Int32) _ hG adM adM_tape adM_frameAt adM_field adM_draft adM_given adM_low adM_high adM_packet adM_known _ _ hP hD hS _ (lv_sub hl [0, 1, 2] rfl)
set_option maxRecDepth 100000 in
set_option maxHeartbeats 4000000 in
theorem k_M_range_0 {p : Program} {l : Launch} {e : Env} {R : Room} {s : State} {m : MethodId} {args : Array Value} {below : List Frame} {meth : Method} {c : Code} {dC : Nat → ClassId} {dI : Nat → Nat → Nat} {cB cI cL : ClassId} {A : Nat → Prop} (X : zx p s m args meth c R R_M b_M_range (some .long) 4 7 155) (hA : ∀ q, s.heap.size ≤ q → A q) (zz : zk dC dI cB cI cL A s)  (N : Nat) (sM : zM) (v1 : Int32) (v2 : Int32) (v3 : Int32) (a : Int64 × zM) (hG : g_M_range N sM v1 v2 v3 = some a) (adM adM_tape adM_frameAt adM_field adM_draft adM_given adM_low adM_high adM_packet adM_known : Nat) (H : Heap) (locs : List Loc) (hP : va_P (dC, dI) zcl (zwM adM adM_tape adM_frameAt adM_field adM_draft adM_given adM_low adM_high adM_packet adM_known cB cI cL sM) H) (hD : va_D A (zwM adM adM_tape adM_frameAt adM_field adM_draft adM_given adM_low adM_high adM_packet adM_known cB cI cL sM)) (hS : va_S A s.heap H locs) (ls : Array Slot) (hl : lv_has ls 4 [(0, .ref adM), (1, .int v1), (2, .int v2), (3, .int v3)]) : W p l e R s m args below meth c H locs 0 0 (MQ below (q_M_range dC dI cB cI cL A adM adM_tape adM_frameAt adM_field adM_draft adM_given adM_low adM_high adM_packet adM_known a) args s 0 0 A) (F0 m 0 ls []) := by
  obtain ⟨hx, hb, hr, hml, hown, hts, hlocks, hRf, hRl⟩ := id X
  unfold g_M_range at hG
  refine lv_aload_n hx hb d_M_range_0 rfl (lv_at hl 0 rfl) ?_
  refine lv_aload_n hx hb d_M_range_1 rfl (lv_at hl 0 rfl) ?_
  refine lv_iload_n hx hb d_M_range_2 rfl (lv_at hl 1 rfl) ?_
  obtain ⟨a_3, hx_3, hG⟩ := zb hG
  have hr_3 := zrunV (p := p) (e := e) (below := below) (meth := meth) (As := [.int v1]) (rest := [.ref adM]) (st0 := [.int v1, .ref adM, .ref adM]) (cells := 0) (slots := 0) X zz hP hD hS hA [0, 1, 2, 3, 4, 5, 6, 7, 8, 9] (by decide) rfl (c_M_parsed l dC dI cB cI cL H.size adM adM_tape adM_frameAt adM_field adM_draft adM_given adM_low adM_high adM_packet adM_known N sM v1 _ hx_3) zy_M_parsed zv_M_parsed (hts (.methodLink R_M 208 y_M_parsed) zin_M_208) hl rfl rfl d_M_range_3 (lv_room (Nat.le_of_ble_eq_true rfl)) rfl rfl ⟨Nat.le_trans (Nat.le_of_ble_eq_true rfl) hRf, Nat.le_trans (Nat.le_of_ble_eq_true rfl) hRl⟩ ⟨Nat.zero_le _, Nat.zero_le _⟩ 0 8 rfl rfl
  refine zcalli (wr := ([] : va_W)) hr_3 hP hD hS hA [0, 1, 2, 3, 4, 5, 6, 7, 8, 9] [] rfl rfl (by decide) (by decide) (fun r_3 u_3 H locs hw_3 hP hD hS => ?_)
  obtain ⟨sM_3, rfl⟩ : ∃ z, z = u_3 := ⟨_, rfl⟩
  subst hw_3
  have hP : va_P (dC, dI) zcl (zwM adM adM_tape adM_frameAt adM_field adM_draft adM_given adM_low adM_high adM_packet adM_known cB cI cL sM_3) H := hP
  have hD : va_D A (zwM adM adM_tape adM_frameAt adM_field adM_draft adM_given adM_low adM_high adM_packet adM_known cB cI cL sM_3) := hD
  have hG : g_M_range_c3 N v2 v3 sM_3 r_3 = some a := hG
  unfold g_M_range_c3 at hG
  refine lv_if_ne (tgt := 13) hx hb d_M_range_6 (by decide) (fun hc => ?_) (fun hc => ?_)
  · have hG := zf hG hc
    refine lv_iconst (v := (0 : Int32)) hx hb d_M_range_13 (by decide) ?_
    exact k_M_range_14 X hA zz N sM_3 v2 v3 (0 : Int32) _ hG adM adM_tape adM_frameAt adM_field adM_draft adM_given adM_low adM_high adM_packet adM_known _ _ hP hD hS _ (lv_sub hl [0, 2, 3] rfl)
  · have hG := zt hG hc
    refine lv_iconst (v := (1 : Int32)) hx hb d_M_range_9 (by decide) ?_
    refine lv_goto (tgt := 14) hx hb d_M_range_10 (by decide) ?_
    exact k_M_range_14 X hA zz N sM_3 v2 v3 (1 : Int32) _ hG adM adM_tape adM_frameAt adM_field adM_draft adM_given adM_low adM_high adM_packet adM_known _ _ hP hD hS _ (lv_sub hl [0, 2, 3] rfl)
set_option maxRecDepth 100000 in
set_option maxHeartbeats 4000000 in
theorem c_M_range (l : Launch) (dC : Nat → ClassId) (dI : Nat → Nat → Nat) (cB cI cL : ClassId) (sz : Nat) (adM adM_tape adM_frameAt adM_field adM_draft adM_given adM_low adM_high adM_packet adM_known : Nat) (N : Nat) (sM : zM) (v1 : Int32) (v2 : Int32) (v3 : Int32) (a : Int64 × zM) (hG : g_M_range N sM v1 v2 v3 = some a) : Met l y_M_range (zw y_M_range b_M_range 4 (some .long)) ({ frames := 7, cells := 0, slots := 0, locals := 155 }) (va_Pc [.ref adM, .int v1, .int v2, .int v3] (zpre dC dI cB cI cL sz (zwM adM adM_tape adM_frameAt adM_field adM_draft adM_given adM_low adM_high adM_packet adM_known cB cI cL sM))) (q_M_range dC dI cB cI cL (va_A (zwM adM adM_tape adM_frameAt adM_field adM_draft adM_given adM_low adM_high adM_packet adM_known cB cI cL sM) sz) adM adM_tape adM_frameAt adM_field adM_draft adM_given adM_low adM_high adM_packet adM_known a) 0 0 (va_A (zwM adM adM_tape adM_frameAt adM_field adM_draft adM_given adM_low adM_high adM_packet adM_known cB cI cL sM) sz) := by
  refine Met.ofW (cc := b_M_range) (maxL := 4) (ret := (some .long)) (by decide) rfl ?_
  intro p e s m args below meth c s₁ B hml hv
  obtain ⟨rfl, hsz, hP, zz, hD0⟩ := hv
  subst hsz
  have X := zx_of (F := 7) (L := 155) B hml (Nat.le_refl _) (Nat.le_refl _)
  have hD := hD0.self (sz := s.heap.size)
  have hA : ∀ q : Nat, s.heap.size ≤ q → va_A (zwM adM adM_tape adM_frameAt adM_field adM_draft adM_given adM_low adM_high adM_packet adM_known cB cI cL sM) s.heap.size q := fun q h => Or.inr h
  have hl := lv_entry ([.ref adM, .int v1, .int v2, .int v3]) (n := 4) (Nat.le_of_ble_eq_true rfl)
  rw [lg_entry_eq]
  generalize (lg_sl ([.ref adM, .int v1, .int v2, .int v3]) ++ List.replicate (4 - (lg_sl ([.ref adM, .int v1, .int v2, .int v3])).length) Slot.unset).toArray = ls at hl ⊢
  exact k_M_range_0 X hA zz N sM v1 v2 v3 a hG adM adM_tape adM_frameAt adM_field adM_draft adM_given adM_low adM_high adM_packet adM_known _ _ hP hD va_S.rf ls hl
noncomputable def g_M_headerFlaw_81 (N : Nat) (sM : zM) (s0 : Int32) : Option (Int32 × zM) := some (s0, sM)
noncomputable def g_M_headerFlaw_c78 (N : Nat) (sM_78 : zM) (r_78 : Int32) : Option (Int32 × zM) := g_M_headerFlaw_81 N sM_78 r_78
noncomputable def g_M_headerFlaw_c70 (N : Nat) (sM_70 : zM) (r_70 : Int32) : Option (Int32 × zM) := g_M_headerFlaw_81 N sM_70 r_70
noncomputable def g_M_headerFlaw_c57 (N : Nat) (v2 : Int32) (r_31 : Int64) (sM_57 : zM) : Option (Int32 × zM) := if (128 : Int32) ≤ r_31.toInt32 then ((g_M_longFlaw N sM_57 r_31.toInt32).bind (fun a => g_M_headerFlaw_c78 N a.2 a.1)) else ((g_M_shortFlaw sM_57 r_31.toInt32 v2).bind (fun a => g_M_headerFlaw_c70 N a.2 a.1))
noncomputable def g_M_headerFlaw_c31 (N : Nat) (v1 : Int32) (v2 : Int32) (sM_31 : zM) (r_31 : Int64) : Option (Int32 × zM) := if (zM_over sM_31) = (0 : Int32) then (if (r_31.toInt32 &&& (64 : Int32)) = (0 : Int32) then (some ((2 : Int32), sM_31)) else ((g_M_note sM_31 (3 : Int32) v1).bind (fun a => g_M_headerFlaw_c57 N v2 r_31 a))) else (some ((1 : Int32), sM_31))
noncomputable def g_M_headerFlaw_c20 (kr : zM → Int32 → Int32 → Int32 → Option (Int32 × zM)) (v1 : Int32) (v2 : Int32) (v3 : Int32) (sM_20 : zM) : Option (Int32 × zM) := kr sM_20 v1 v2 (v3 + 1)
noncomputable def g_M_headerFlaw_11_b (N : Nat) (kr : zM → Int32 → Int32 → Int32 → Option (Int32 × zM)) (sM : zM) (v1 : Int32) (v2 : Int32) (v3 : Int32) : Option (Int32 × zM) := if (12 : Int32) ≤ v3 then ((g_M_take N sM (1 : Int32)).bind (fun a => g_M_headerFlaw_c31 N v1 v2 a.2 a.1)) else ((g_M_note sM v3 (0 : Int32)).bind (fun a => g_M_headerFlaw_c20 kr v1 v2 v3 a))
noncomputable def g_M_headerFlaw_11 (N : Nat) : Nat → zM → Int32 → Int32 → Int32 → Option (Int32 × zM)
  | 0 => fun _ _ _ _ => none
  | k + 1 => fun sM v1 v2 v3 => g_M_headerFlaw_11_b N (g_M_headerFlaw_11 N k) sM v1 v2 v3
noncomputable def g_M_headerFlaw_c6 (N : Nat) (v1 : Int32) (v2 : Int32) (sM_6 : zM) : Option (Int32 × zM) := g_M_headerFlaw_11 N N sM_6 v1 v2 (0 : Int32)
noncomputable def g_M_headerFlaw (N : Nat) (sM : zM) (v1 : Int32) (v2 : Int32) : Option (Int32 × zM) := (g_M_look sM v1 (zM_size sM)).bind (fun a => g_M_headerFlaw_c6 N v1 v2 a)
def q_M_headerFlaw (dC : Nat → ClassId) (dI : Nat → Nat → Nat) (cB cI cL : ClassId) (A : Nat → Prop) (adM : Nat) (adM_tape : Nat) (adM_frameAt : Nat) (adM_field : Nat) (adM_draft : Nat) (adM_given : Nat) (adM_low : Nat) (adM_high : Nat) (adM_packet : Nat) (adM_known : Nat) (a : Int32 × zM) : Array Value → State → Outcome → State → Prop := va_Qi (fun (r : Int32) (u : zM) => (r, u) = a) (fun u U => va_P (dC, dI) zcl (zwM adM adM_tape adM_frameAt adM_field adM_draft adM_given adM_low adM_high adM_packet adM_known cB cI cL u) U.heap ∧ va_D A (zwM adM adM_tape adM_frameAt adM_field adM_draft adM_given adM_low adM_high adM_packet adM_known cB cI cL u)) A
set_option maxRecDepth 100000 in
set_option maxHeartbeats 4000000 in
theorem k_M_headerFlaw_81 {p : Program} {l : Launch} {e : Env} {R : Room} {s : State} {m : MethodId} {args : Array Value} {below : List Frame} {meth : Method} {c : Code} {dC : Nat → ClassId} {dI : Nat → Nat → Nat} {cB cI cL : ClassId} {A : Nat → Prop} (X : zx p s m args meth c R R_M b_M_headerFlaw (some .int) 4 4 95) (hA : ∀ q, s.heap.size ≤ q → A q) (zz : zk dC dI cB cI cL A s)  (N : Nat) (sM : zM) (s0 : Int32) (a : Int32 × zM) (hG : g_M_headerFlaw_81 N sM s0 = some a) (adM adM_tape adM_frameAt adM_field adM_draft adM_given adM_low adM_high adM_packet adM_known : Nat) (H : Heap) (locs : List Loc) (hP : va_P (dC, dI) zcl (zwM adM adM_tape adM_frameAt adM_field adM_draft adM_given adM_low adM_high adM_packet adM_known cB cI cL sM) H) (hD : va_D A (zwM adM adM_tape adM_frameAt adM_field adM_draft adM_given adM_low adM_high adM_packet adM_known cB cI cL sM)) (hS : va_S A s.heap H locs) (ls : Array Slot) (hl : lv_has ls 4 []) : W p l e R s m args below meth c H locs 0 0 (MQ below (q_M_headerFlaw dC dI cB cI cL A adM adM_tape adM_frameAt adM_field adM_draft adM_given adM_low adM_high adM_packet adM_known a) args s 0 0 A) (F0 m 81 ls [.int s0]) := by
  obtain ⟨hx, hb, hr, hml, hown, hts, hlocks, hRf, hRl⟩ := id X
  unfold g_M_headerFlaw_81 at hG
  exact W.iret (v := s0) hx hb hr (fun t9 ht9 hW9 => ⟨⟨s0, (sM), rfl, Option.some.inj hG, by rw [ht9]; exact hP, hD⟩, hS.F ht9⟩) hS.2.2 d_M_headerFlaw_81
set_option maxRecDepth 100000 in
set_option maxHeartbeats 4000000 in
theorem k_M_headerFlaw_11_b {p : Program} {l : Launch} {e : Env} {R : Room} {s : State} {m : MethodId} {args : Array Value} {below : List Frame} {meth : Method} {c : Code} {dC : Nat → ClassId} {dI : Nat → Nat → Nat} {cB cI cL : ClassId} {A : Nat → Prop} (kr : zM → Int32 → Int32 → Int32 → Option (Int32 × zM)) (hrec : ∀ (sM : zM) (v1 : Int32) (v2 : Int32) (v3 : Int32) (a : Int32 × zM), kr sM v1 v2 v3 = some a → ∀ (adM adM_tape adM_frameAt adM_field adM_draft adM_given adM_low adM_high adM_packet adM_known : Nat) (H : Heap) (locs : List Loc), va_P (dC, dI) zcl (zwM adM adM_tape adM_frameAt adM_field adM_draft adM_given adM_low adM_high adM_packet adM_known cB cI cL sM) H → va_D A (zwM adM adM_tape adM_frameAt adM_field adM_draft adM_given adM_low adM_high adM_packet adM_known cB cI cL sM) → va_S A s.heap H locs → ∀ ls : Array Slot, lv_has ls 4 [(0, .ref adM), (1, .int v1), (2, .int v2), (3, .int v3)] → W p l e R s m args below meth c H locs 0 0 (MQ below (q_M_headerFlaw dC dI cB cI cL A adM adM_tape adM_frameAt adM_field adM_draft adM_given adM_low adM_high adM_packet adM_known a) args s 0 0 A) (F0 m 11 ls [])) (X : zx p s m args meth c R R_M b_M_headerFlaw (some .int) 4 4 95) (hA : ∀ q, s.heap.size ≤ q → A q) (zz : zk dC dI cB cI cL A s)  (N : Nat) (sM : zM) (v1 : Int32) (v2 : Int32) (v3 : Int32) (a : Int32 × zM) (hG : g_M_headerFlaw_11_b N kr sM v1 v2 v3 = some a) (adM adM_tape adM_frameAt adM_field adM_draft adM_given adM_low adM_high adM_packet adM_known : Nat) (H : Heap) (locs : List Loc) (hP : va_P (dC, dI) zcl (zwM adM adM_tape adM_frameAt adM_field adM_draft adM_given adM_low adM_high adM_packet adM_known cB cI cL sM) H) (hD : va_D A (zwM adM adM_tape adM_frameAt adM_field adM_draft adM_given adM_low adM_high adM_packet adM_known cB cI cL sM)) (hS : va_S A s.heap H locs) (ls : Array Slot) (hl : lv_has ls 4 [(0, .ref adM), (1, .int v1), (2, .int v2), (3, .int v3)]) : W p l e R s m args below meth c H locs 0 0 (MQ below (q_M_headerFlaw dC dI cB cI cL A adM adM_tape adM_frameAt adM_field adM_draft adM_given adM_low adM_high adM_packet adM_known a) args s 0 0 A) (F0 m 11 ls []) := by
  obtain ⟨hx, hb, hr, hml, hown, hts, hlocks, hRf, hRl⟩ := id X
  unfold g_M_headerFlaw_11_b at hG
  refine lv_iload_n hx hb d_M_headerFlaw_11 rfl (lv_at hl 3 rfl) ?_
  refine lv_bipush (v := (12 : Int32)) hx hb d_M_headerFlaw_12 (by decide) ?_
  refine lv_icmp_ge (tgt := 29) hx hb d_M_headerFlaw_14 (by decide) (fun hc => ?_) (fun hc => ?_)
  · have hG := zt hG hc
    refine lv_aload_n hx hb d_M_headerFlaw_29 rfl (lv_at hl 0 rfl) ?_
    refine lv_iconst (v := (1 : Int32)) hx hb d_M_headerFlaw_30 (by decide) ?_
    obtain ⟨a_31, hx_31, hG⟩ := zb hG
    have hr_31 := zrunV (p := p) (e := e) (below := below) (meth := meth) (As := [.int (1 : Int32)]) (rest := []) (st0 := [.int (1 : Int32), .ref adM]) (cells := 0) (slots := 0) X zz hP hD hS hA [0, 1, 2, 3, 4, 5, 6, 7, 8, 9] (by decide) rfl (c_M_take l dC dI cB cI cL H.size adM adM_tape adM_frameAt adM_field adM_draft adM_given adM_low adM_high adM_packet adM_known N sM (1 : Int32) _ hx_31) zy_M_take zv_M_take (hts (.methodLink R_M 120 y_M_take) zin_M_120) hl rfl rfl d_M_headerFlaw_31 (lv_room (Nat.le_of_ble_eq_true rfl)) rfl rfl ⟨Nat.le_trans (Nat.le_of_ble_eq_true rfl) hRf, Nat.le_trans (Nat.le_of_ble_eq_true rfl) hRl⟩ ⟨Nat.zero_le _, Nat.zero_le _⟩ 0 8 rfl rfl
    refine zcalll (wr := ([] : va_W)) hr_31 hP hD hS hA [0, 1, 2, 3, 4, 5, 6, 7, 8, 9] [] rfl rfl (by decide) (by decide) (fun r_31 u_31 H locs hw_31 hP hD hS => ?_)
    obtain ⟨sM_31, rfl⟩ : ∃ z, z = u_31 := ⟨_, rfl⟩
    subst hw_31
    have hP : va_P (dC, dI) zcl (zwM adM adM_tape adM_frameAt adM_field adM_draft adM_given adM_low adM_high adM_packet adM_known cB cI cL sM_31) H := hP
    have hD : va_D A (zwM adM adM_tape adM_frameAt adM_field adM_draft adM_given adM_low adM_high adM_packet adM_known cB cI cL sM_31) := hD
    have hG : g_M_headerFlaw_c31 N v1 v2 sM_31 r_31 = some a := hG
    unfold g_M_headerFlaw_c31 at hG
    refine lv_l2i hx hb d_M_headerFlaw_34 rfl ?_
    refine lv_istore_n (lv' := [(3, .int r_31.toInt32), (0, .ref adM), (1, .int v1), (2, .int v2)]) hx hb d_M_headerFlaw_35 rfl hl (by decide) rfl (fun ls hl => ?_)
    refine lv_aload_n hx hb d_M_headerFlaw_36 rfl (lv_at hl 1 rfl) ?_
    refine va_get (D := (dC, dI)) (ci := 8) (v := .int (zM_over sM_31)) (C := R_M) (T := F_M) (N := 26) hx hb hts zi_M hown zz.1 hP 0 rfl rfl 15 (by decide) (hts (.fieldLink R_M 116 "WireCodecModel" "over" "Z") zin_M_116) (fun _ h9 => h9) rfl d_M_headerFlaw_37 ?_
    refine lv_if_eq (tgt := 45) hx hb d_M_headerFlaw_40 (by decide) (fun hc => ?_) (fun hc => ?_)
    · have hG := zt hG hc
      refine lv_iload_n hx hb d_M_headerFlaw_45 rfl (lv_at hl 0 rfl) ?_
      refine lv_bipush (v := (64 : Int32)) hx hb d_M_headerFlaw_46 (by decide) ?_
      refine lv_iand hx hb d_M_headerFlaw_48 ?_
      refine lv_if_ne (tgt := 54) hx hb d_M_headerFlaw_49 (by decide) (fun hc => ?_) (fun hc => ?_)
      · have hG := zf hG hc
        refine lv_aload_n hx hb d_M_headerFlaw_54 rfl (lv_at hl 1 rfl) ?_
        refine lv_iconst (v := (3 : Int32)) hx hb d_M_headerFlaw_55 (by decide) ?_
        refine lv_iload_n hx hb d_M_headerFlaw_56 rfl (lv_at hl 2 rfl) ?_
        obtain ⟨a_57, hx_57, hG⟩ := zb hG
        have hr_57 := zrunV (p := p) (e := e) (below := below) (meth := meth) (As := [.int (3 : Int32), .int v1]) (rest := []) (st0 := [.int v1, .int (3 : Int32), .ref adM]) (cells := 0) (slots := 0) X zz hP hD hS hA [0, 1, 2, 3, 4, 5, 6, 7, 8, 9] (by decide) rfl (c_M_note l dC dI cB cI cL H.size adM adM_tape adM_frameAt adM_field adM_draft adM_given adM_low adM_high adM_packet adM_known sM_31 (3 : Int32) v1 _ hx_57) zy_M_note zv_M_note (hts (.methodLink R_M 245 y_M_note) zin_M_245) hl rfl rfl d_M_headerFlaw_57 (lv_room (Nat.le_of_ble_eq_true rfl)) rfl rfl ⟨Nat.le_trans (Nat.le_of_ble_eq_true rfl) hRf, Nat.le_trans (Nat.le_of_ble_eq_true rfl) hRl⟩ ⟨Nat.zero_le _, Nat.zero_le _⟩ 0 8 rfl rfl
        refine zcallv (wr := ([] : va_W)) hr_57 hP hD hS hA [0, 1, 2, 3, 4, 5, 6, 7, 8, 9] [] rfl rfl (by decide) (by decide) (fun u_57 H locs hw_57 hP hD hS => ?_)
        obtain ⟨sM_57, rfl⟩ : ∃ z, z = u_57 := ⟨_, rfl⟩
        subst hw_57
        have hP : va_P (dC, dI) zcl (zwM adM adM_tape adM_frameAt adM_field adM_draft adM_given adM_low adM_high adM_packet adM_known cB cI cL sM_57) H := hP
        have hD : va_D A (zwM adM adM_tape adM_frameAt adM_field adM_draft adM_given adM_low adM_high adM_packet adM_known cB cI cL sM_57) := hD
        have hG : g_M_headerFlaw_c57 N v2 r_31 sM_57 = some a := hG
        unfold g_M_headerFlaw_c57 at hG
        refine lv_iload_n hx hb d_M_headerFlaw_60 rfl (lv_at hl 0 rfl) ?_
        refine lv_sipush (v := (128 : Int32)) hx hb d_M_headerFlaw_61 (by decide) ?_
        refine lv_icmp_ge (tgt := 76) hx hb d_M_headerFlaw_64 (by decide) (fun hc => ?_) (fun hc => ?_)
        · have hG := zt hG hc
          refine lv_aload_n hx hb d_M_headerFlaw_76 rfl (lv_at hl 1 rfl) ?_
          refine lv_iload_n hx hb d_M_headerFlaw_77 rfl (lv_at hl 0 rfl) ?_
          obtain ⟨a_78, hx_78, hG⟩ := zb hG
          have hr_78 := zrunV (p := p) (e := e) (below := below) (meth := meth) (As := [.int r_31.toInt32]) (rest := []) (st0 := [.int r_31.toInt32, .ref adM]) (cells := 0) (slots := 0) X zz hP hD hS hA [0, 1, 2, 3, 4, 5, 6, 7, 8, 9] (by decide) rfl (c_M_longFlaw l dC dI cB cI cL H.size adM adM_tape adM_frameAt adM_field adM_draft adM_given adM_low adM_high adM_packet adM_known N sM_57 r_31.toInt32 _ hx_78) zy_M_longFlaw zv_M_longFlaw (hts (.methodLink R_M 251 y_M_longFlaw) zin_M_251) hl rfl rfl d_M_headerFlaw_78 (lv_room (Nat.le_of_ble_eq_true rfl)) rfl rfl ⟨Nat.le_trans (Nat.le_of_ble_eq_true rfl) hRf, Nat.le_trans (Nat.le_of_ble_eq_true rfl) hRl⟩ ⟨Nat.zero_le _, Nat.zero_le _⟩ 0 8 rfl rfl
          refine zcalli (wr := ([] : va_W)) hr_78 hP hD hS hA [0, 1, 2, 3, 4, 5, 6, 7, 8, 9] [] rfl rfl (by decide) (by decide) (fun r_78 u_78 H locs hw_78 hP hD hS => ?_)
          obtain ⟨sM_78, rfl⟩ : ∃ z, z = u_78 := ⟨_, rfl⟩
          subst hw_78
          have hP : va_P (dC, dI) zcl (zwM adM adM_tape adM_frameAt adM_field adM_draft adM_given adM_low adM_high adM_packet adM_known cB cI cL sM_78) H := hP
          have hD : va_D A (zwM adM adM_tape adM_frameAt adM_field adM_draft adM_given adM_low adM_high adM_packet adM_known cB cI cL sM_78) := hD
          have hG : g_M_headerFlaw_c78 N sM_78 r_78 = some a := hG
          unfold g_M_headerFlaw_c78 at hG
          exact k_M_headerFlaw_81 X hA zz N sM_78 r_78 _ hG adM adM_tape adM_frameAt adM_field adM_draft adM_given adM_low adM_high adM_packet adM_known _ _ hP hD hS _ (lv_sub hl [] rfl)
        · have hG := zf hG hc
          refine lv_aload_n hx hb d_M_headerFlaw_67 rfl (lv_at hl 1 rfl) ?_
          refine lv_iload_n hx hb d_M_headerFlaw_68 rfl (lv_at hl 0 rfl) ?_
          refine lv_iload_n hx hb d_M_headerFlaw_69 rfl (lv_at hl 3 rfl) ?_
          obtain ⟨a_70, hx_70, hG⟩ := zb hG
          have hr_70 := zrunV (p := p) (e := e) (below := below) (meth := meth) (As := [.int r_31.toInt32, .int v2]) (rest := []) (st0 := [.int v2, .int r_31.toInt32, .ref adM]) (cells := 0) (slots := 0) X zz hP hD hS hA [0, 1, 2, 3, 4, 5, 6, 7, 8, 9] (by decide) rfl (c_M_shortFlaw l dC dI cB cI cL H.size adM adM_tape adM_frameAt adM_field adM_draft adM_given adM_low adM_high adM_packet adM_known sM_57 r_31.toInt32 v2 _ hx_70) zy_M_shortFlaw zv_M_shortFlaw (hts (.methodLink R_M 248 y_M_shortFlaw) zin_M_248) hl rfl rfl d_M_headerFlaw_70 (lv_room (Nat.le_of_ble_eq_true rfl)) rfl rfl ⟨Nat.le_trans (Nat.le_of_ble_eq_true rfl) hRf, Nat.le_trans (Nat.le_of_ble_eq_true rfl) hRl⟩ ⟨Nat.zero_le _, Nat.zero_le _⟩ 0 8 rfl rfl
          refine zcalli (wr := ([] : va_W)) hr_70 hP hD hS hA [0, 1, 2, 3, 4, 5, 6, 7, 8, 9] [] rfl rfl (by decide) (by decide) (fun r_70 u_70 H locs hw_70 hP hD hS => ?_)
          obtain ⟨sM_70, rfl⟩ : ∃ z, z = u_70 := ⟨_, rfl⟩
          subst hw_70
          have hP : va_P (dC, dI) zcl (zwM adM adM_tape adM_frameAt adM_field adM_draft adM_given adM_low adM_high adM_packet adM_known cB cI cL sM_70) H := hP
          have hD : va_D A (zwM adM adM_tape adM_frameAt adM_field adM_draft adM_given adM_low adM_high adM_packet adM_known cB cI cL sM_70) := hD
          have hG : g_M_headerFlaw_c70 N sM_70 r_70 = some a := hG
          unfold g_M_headerFlaw_c70 at hG
          refine lv_goto (tgt := 81) hx hb d_M_headerFlaw_73 (by decide) ?_
          exact k_M_headerFlaw_81 X hA zz N sM_70 r_70 _ hG adM adM_tape adM_frameAt adM_field adM_draft adM_given adM_low adM_high adM_packet adM_known _ _ hP hD hS _ (lv_sub hl [] rfl)
      · have hG := zt hG hc
        refine lv_iconst (v := (2 : Int32)) hx hb d_M_headerFlaw_52 (by decide) ?_
        exact W.iret (v := (2 : Int32)) hx hb hr (fun t9 ht9 hW9 => ⟨⟨(2 : Int32), (sM_31), rfl, Option.some.inj hG, by rw [ht9]; exact hP, hD⟩, hS.F ht9⟩) hS.2.2 d_M_headerFlaw_53
    · have hG := zf hG hc
      refine lv_iconst (v := (1 : Int32)) hx hb d_M_headerFlaw_43 (by decide) ?_
      exact W.iret (v := (1 : Int32)) hx hb hr (fun t9 ht9 hW9 => ⟨⟨(1 : Int32), (sM_31), rfl, Option.some.inj hG, by rw [ht9]; exact hP, hD⟩, hS.F ht9⟩) hS.2.2 d_M_headerFlaw_44
  · have hG := zf hG hc
    refine lv_aload_n hx hb d_M_headerFlaw_17 rfl (lv_at hl 0 rfl) ?_
    refine lv_iload_n hx hb d_M_headerFlaw_18 rfl (lv_at hl 3 rfl) ?_
    refine lv_iconst (v := (0 : Int32)) hx hb d_M_headerFlaw_19 (by decide) ?_
    obtain ⟨a_20, hx_20, hG⟩ := zb hG
    have hr_20 := zrunV (p := p) (e := e) (below := below) (meth := meth) (As := [.int v3, .int (0 : Int32)]) (rest := []) (st0 := [.int (0 : Int32), .int v3, .ref adM]) (cells := 0) (slots := 0) X zz hP hD hS hA [0, 1, 2, 3, 4, 5, 6, 7, 8, 9] (by decide) rfl (c_M_note l dC dI cB cI cL H.size adM adM_tape adM_frameAt adM_field adM_draft adM_given adM_low adM_high adM_packet adM_known sM v3 (0 : Int32) _ hx_20) zy_M_note zv_M_note (hts (.methodLink R_M 245 y_M_note) zin_M_245) hl rfl rfl d_M_headerFlaw_20 (lv_room (Nat.le_of_ble_eq_true rfl)) rfl rfl ⟨Nat.le_trans (Nat.le_of_ble_eq_true rfl) hRf, Nat.le_trans (Nat.le_of_ble_eq_true rfl) hRl⟩ ⟨Nat.zero_le _, Nat.zero_le _⟩ 0 8 rfl rfl
    refine zcallv (wr := ([] : va_W)) hr_20 hP hD hS hA [0, 1, 2, 3, 4, 5, 6, 7, 8, 9] [] rfl rfl (by decide) (by decide) (fun u_20 H locs hw_20 hP hD hS => ?_)
    obtain ⟨sM_20, rfl⟩ : ∃ z, z = u_20 := ⟨_, rfl⟩
    subst hw_20
    have hP : va_P (dC, dI) zcl (zwM adM adM_tape adM_frameAt adM_field adM_draft adM_given adM_low adM_high adM_packet adM_known cB cI cL sM_20) H := hP
    have hD : va_D A (zwM adM adM_tape adM_frameAt adM_field adM_draft adM_given adM_low adM_high adM_packet adM_known cB cI cL sM_20) := hD
    have hG : g_M_headerFlaw_c20 kr v1 v2 v3 sM_20 = some a := hG
    unfold g_M_headerFlaw_c20 at hG
    refine lv_iinc (v := v3 + 1) (lv' := [(3, .int (v3 + 1)), (0, .ref adM), (1, .int v1), (2, .int v2)]) hx hb d_M_headerFlaw_23 hl (k := 3) rfl rfl (by decide) rfl (fun ls hl => ?_)
    refine lv_goto (tgt := 11) hx hb d_M_headerFlaw_26 (by decide) ?_
    exact hrec sM_20 v1 v2 (v3 + 1) _ hG adM adM_tape adM_frameAt adM_field adM_draft adM_given adM_low adM_high adM_packet adM_known _ _ hP hD hS _ (lv_sub hl [1, 2, 3, 0] rfl)
theorem k_M_headerFlaw_11 {p : Program} {l : Launch} {e : Env} {R : Room} {s : State} {m : MethodId} {args : Array Value} {below : List Frame} {meth : Method} {c : Code} {dC : Nat → ClassId} {dI : Nat → Nat → Nat} {cB cI cL : ClassId} {A : Nat → Prop} (X : zx p s m args meth c R R_M b_M_headerFlaw (some .int) 4 4 95) (hA : ∀ q, s.heap.size ≤ q → A q) (zz : zk dC dI cB cI cL A s)  (N : Nat) : ∀ (k : Nat) (sM : zM) (v1 : Int32) (v2 : Int32) (v3 : Int32) (a : Int32 × zM) (hG : g_M_headerFlaw_11 N k sM v1 v2 v3 = some a) (adM adM_tape adM_frameAt adM_field adM_draft adM_given adM_low adM_high adM_packet adM_known : Nat) (H : Heap) (locs : List Loc) (hP : va_P (dC, dI) zcl (zwM adM adM_tape adM_frameAt adM_field adM_draft adM_given adM_low adM_high adM_packet adM_known cB cI cL sM) H) (hD : va_D A (zwM adM adM_tape adM_frameAt adM_field adM_draft adM_given adM_low adM_high adM_packet adM_known cB cI cL sM)) (hS : va_S A s.heap H locs) (ls : Array Slot) (hl : lv_has ls 4 [(0, .ref adM), (1, .int v1), (2, .int v2), (3, .int v3)]), W p l e R s m args below meth c H locs 0 0 (MQ below (q_M_headerFlaw dC dI cB cI cL A adM adM_tape adM_frameAt adM_field adM_draft adM_given adM_low adM_high adM_packet adM_known a) args s 0 0 A) (F0 m 11 ls []) := by
  intro k
  induction k with
  | zero => intro sM v1 v2 v3 a hG; exact absurd hG (by unfold g_M_headerFlaw_11; simp)
  | succ k ih => intro sM v1 v2 v3 a hG adM adM_tape adM_frameAt adM_field adM_draft adM_given adM_low adM_high adM_packet adM_known H locs hP hD hS ls hl; exact k_M_headerFlaw_11_b _ ih X hA zz N sM v1 v2 v3 a hG adM adM_tape adM_frameAt adM_field adM_draft adM_given adM_low adM_high adM_packet adM_known H locs hP hD hS ls hl
set_option maxRecDepth 100000 in
set_option maxHeartbeats 4000000 in
theorem k_M_headerFlaw_0 {p : Program} {l : Launch} {e : Env} {R : Room} {s : State} {m : MethodId} {args : Array Value} {below : List Frame} {meth : Method} {c : Code} {dC : Nat → ClassId} {dI : Nat → Nat → Nat} {cB cI cL : ClassId} {A : Nat → Prop} (X : zx p s m args meth c R R_M b_M_headerFlaw (some .int) 4 4 95) (hA : ∀ q, s.heap.size ≤ q → A q) (zz : zk dC dI cB cI cL A s)  (N : Nat) (sM : zM) (v1 : Int32) (v2 : Int32) (a : Int32 × zM) (hG : g_M_headerFlaw N sM v1 v2 = some a) (adM adM_tape adM_frameAt adM_field adM_draft adM_given adM_low adM_high adM_packet adM_known : Nat) (H : Heap) (locs : List Loc) (hP : va_P (dC, dI) zcl (zwM adM adM_tape adM_frameAt adM_field adM_draft adM_given adM_low adM_high adM_packet adM_known cB cI cL sM) H) (hD : va_D A (zwM adM adM_tape adM_frameAt adM_field adM_draft adM_given adM_low adM_high adM_packet adM_known cB cI cL sM)) (hS : va_S A s.heap H locs) (ls : Array Slot) (hl : lv_has ls 4 [(0, .ref adM), (1, .int v1), (2, .int v2)]) : W p l e R s m args below meth c H locs 0 0 (MQ below (q_M_headerFlaw dC dI cB cI cL A adM adM_tape adM_frameAt adM_field adM_draft adM_given adM_low adM_high adM_packet adM_known a) args s 0 0 A) (F0 m 0 ls []) := by
  obtain ⟨hx, hb, hr, hml, hown, hts, hlocks, hRf, hRl⟩ := id X
  unfold g_M_headerFlaw at hG
  refine lv_aload_n hx hb d_M_headerFlaw_0 rfl (lv_at hl 0 rfl) ?_
  refine lv_iload_n hx hb d_M_headerFlaw_1 rfl (lv_at hl 1 rfl) ?_
  refine lv_aload_n hx hb d_M_headerFlaw_2 rfl (lv_at hl 0 rfl) ?_
  refine va_get (D := (dC, dI)) (ci := 8) (v := .int (zM_size sM)) (C := R_M) (T := F_M) (N := 26) hx hb hts zi_M hown zz.1 hP 0 rfl rfl 2 (by decide) (hts (.fieldLink R_M 57 "WireCodecModel" "size" "I") zin_M_57) (fun _ h9 => h9) rfl d_M_headerFlaw_3 ?_
  obtain ⟨a_6, hx_6, hG⟩ := zb hG
  have hr_6 := zrunV (p := p) (e := e) (below := below) (meth := meth) (As := [.int v1, .int (zM_size sM)]) (rest := []) (st0 := [.int (zM_size sM), .int v1, .ref adM]) (cells := 0) (slots := 0) X zz hP hD hS hA [0, 1, 2, 3, 4, 5, 6, 7, 8, 9] (by decide) rfl (c_M_look l dC dI cB cI cL H.size adM adM_tape adM_frameAt adM_field adM_draft adM_given adM_low adM_high adM_packet adM_known sM v1 (zM_size sM) _ hx_6) zy_M_look zv_M_look (hts (.methodLink R_M 124 y_M_look) zin_M_124) hl rfl rfl d_M_headerFlaw_6 (lv_room (Nat.le_of_ble_eq_true rfl)) rfl rfl ⟨Nat.le_trans (Nat.le_of_ble_eq_true rfl) hRf, Nat.le_trans (Nat.le_of_ble_eq_true rfl) hRl⟩ ⟨Nat.zero_le _, Nat.zero_le _⟩ 0 8 rfl rfl
  refine zcallv (wr := ([] : va_W)) hr_6 hP hD hS hA [0, 1, 2, 3, 4, 5, 6, 7, 8, 9] [] rfl rfl (by decide) (by decide) (fun u_6 H locs hw_6 hP hD hS => ?_)
  obtain ⟨sM_6, rfl⟩ : ∃ z, z = u_6 := ⟨_, rfl⟩
  subst hw_6
  have hP : va_P (dC, dI) zcl (zwM adM adM_tape adM_frameAt adM_field adM_draft adM_given adM_low adM_high adM_packet adM_known cB cI cL sM_6) H := hP
  have hD : va_D A (zwM adM adM_tape adM_frameAt adM_field adM_draft adM_given adM_low adM_high adM_packet adM_known cB cI cL sM_6) := hD
  have hG : g_M_headerFlaw_c6 N v1 v2 sM_6 = some a := hG
  unfold g_M_headerFlaw_c6 at hG
  refine lv_iconst (v := (0 : Int32)) hx hb d_M_headerFlaw_9 (by decide) ?_
  refine lv_istore_n (lv' := [(3, .int (0 : Int32)), (0, .ref adM), (1, .int v1), (2, .int v2)]) hx hb d_M_headerFlaw_10 rfl hl (by decide) rfl (fun ls hl => ?_)
  exact k_M_headerFlaw_11 X hA zz N N sM_6 v1 v2 (0 : Int32) _ hG adM adM_tape adM_frameAt adM_field adM_draft adM_given adM_low adM_high adM_packet adM_known _ _ hP hD hS _ (lv_sub hl [1, 2, 3, 0] rfl)
set_option maxRecDepth 100000 in
set_option maxHeartbeats 4000000 in
theorem c_M_headerFlaw (l : Launch) (dC : Nat → ClassId) (dI : Nat → Nat → Nat) (cB cI cL : ClassId) (sz : Nat) (adM adM_tape adM_frameAt adM_field adM_draft adM_given adM_low adM_high adM_packet adM_known : Nat) (N : Nat) (sM : zM) (v1 : Int32) (v2 : Int32) (a : Int32 × zM) (hG : g_M_headerFlaw N sM v1 v2 = some a) : Met l y_M_headerFlaw (zw y_M_headerFlaw b_M_headerFlaw 4 (some .int)) ({ frames := 4, cells := 0, slots := 0, locals := 95 }) (va_Pc [.ref adM, .int v1, .int v2] (zpre dC dI cB cI cL sz (zwM adM adM_tape adM_frameAt adM_field adM_draft adM_given adM_low adM_high adM_packet adM_known cB cI cL sM))) (q_M_headerFlaw dC dI cB cI cL (va_A (zwM adM adM_tape adM_frameAt adM_field adM_draft adM_given adM_low adM_high adM_packet adM_known cB cI cL sM) sz) adM adM_tape adM_frameAt adM_field adM_draft adM_given adM_low adM_high adM_packet adM_known a) 0 0 (va_A (zwM adM adM_tape adM_frameAt adM_field adM_draft adM_given adM_low adM_high adM_packet adM_known cB cI cL sM) sz) := by
  refine Met.ofW (cc := b_M_headerFlaw) (maxL := 4) (ret := (some .int)) (by decide) rfl ?_
  intro p e s m args below meth c s₁ B hml hv
  obtain ⟨rfl, hsz, hP, zz, hD0⟩ := hv
  subst hsz
  have X := zx_of (F := 4) (L := 95) B hml (Nat.le_refl _) (Nat.le_refl _)
  have hD := hD0.self (sz := s.heap.size)
  have hA : ∀ q : Nat, s.heap.size ≤ q → va_A (zwM adM adM_tape adM_frameAt adM_field adM_draft adM_given adM_low adM_high adM_packet adM_known cB cI cL sM) s.heap.size q := fun q h => Or.inr h
  have hl := lv_entry ([.ref adM, .int v1, .int v2]) (n := 4) (Nat.le_of_ble_eq_true rfl)
  rw [lg_entry_eq]
  generalize (lg_sl ([.ref adM, .int v1, .int v2]) ++ List.replicate (4 - (lg_sl ([.ref adM, .int v1, .int v2])).length) Slot.unset).toArray = ls at hl ⊢
  exact k_M_headerFlaw_0 X hA zz N sM v1 v2 a hG adM adM_tape adM_frameAt adM_field adM_draft adM_given adM_low adM_high adM_packet adM_known _ _ hP hD va_S.rf ls hl
noncomputable def g_M_head_w67 (sM_67 : zM) : Option (Int32 × zM) := zg (vp_in (4 : Int32) 49152) (some ((zM_packet sM_67) (4 : Int32).toNatClampNeg, sM_67))
noncomputable def g_M_head_c53 (sM_53 : zM) : Option (Int32 × zM) := if (zM_fault sM_53) ≤ (0 : Int32) then (g_M_head_w67 (zM_packets' sM_53 (1 : Int32))) else (some ((-1 : Int32), sM_53))
noncomputable def g_M_head_c49 (v1 : Int32) (sM_49 : zM) (r_49 : Int32) : Option (Int32 × zM) := (g_M_tell sM_49 r_49 v1).bind (fun a => g_M_head_c53 a)
noncomputable def g_M_head_c42 (N : Nat) (v1 : Int32) (v2 : Int32) (sM_42 : zM) : Option (Int32 × zM) := (g_M_headerFlaw N sM_42 v1 v2).bind (fun a => g_M_head_c49 v1 a.2 a.1)
noncomputable def g_M_head_c33 (N : Nat) (v1 : Int32) (v2 : Int32) (sM_33 : zM) (r_33 : Int32) : Option (Int32 × zM) := if r_33 = (0 : Int32) then ((g_M_begin sM_33).bind (fun a => g_M_head_c42 N v1 v2 a)) else (some ((0 : Int32), sM_33))
noncomputable def g_M_head_32 (N : Nat) (sM : zM) (v1 : Int32) (v2 : Int32) (s0 : Int32) : Option (Int32 × zM) := (g_M_fails sM s0 (1 : Int32)).bind (fun a => g_M_head_c33 N v1 v2 a.2 a.1)
noncomputable def g_M_head_27 (N : Nat) (sM : zM) (v1 : Int32) (v2 : Int32) : Option (Int32 × zM) := g_M_head_32 N sM v1 v2 (1 : Int32)
noncomputable def g_M_head_c21 (N : Nat) (sM : zM) (v1 : Int32) (v2 : Int32) (r_21 : Int32) : Option (Int32 × zM) := if r_21 = (0 : Int32) then (g_M_head_27 N sM v1 v2) else (g_M_head_32 N sM v1 v2 (0 : Int32))
noncomputable def g_M_head_c9 (N : Nat) (sM : zM) (v1 : Int32) (v2 : Int32) (r_9 : Int32) : Option (Int32 × zM) := if r_9 = (0 : Int32) then (g_M_head_27 N sM v1 v2) else ((g_M_within v2.toInt64 (0 : Int64) (20 : Int64)).bind (fun a => g_M_head_c21 N sM v1 v2 a))
noncomputable def g_M_head (N : Nat) (sM : zM) (v1 : Int32) (v2 : Int32) : Option (Int32 × zM) := (g_M_within v1.toInt64 (0 : Int64) ((zM_size sM).toInt64)).bind (fun a => g_M_head_c9 N sM v1 v2 a)
def q_M_head (dC : Nat → ClassId) (dI : Nat → Nat → Nat) (cB cI cL : ClassId) (A : Nat → Prop) (adM : Nat) (adM_tape : Nat) (adM_frameAt : Nat) (adM_field : Nat) (adM_draft : Nat) (adM_given : Nat) (adM_low : Nat) (adM_high : Nat) (adM_packet : Nat) (adM_known : Nat) (a : Int32 × zM) : Array Value → State → Outcome → State → Prop := va_Qi (fun (r : Int32) (u : zM) => (r, u) = a) (fun u U => va_P (dC, dI) zcl (zwM adM adM_tape adM_frameAt adM_field adM_draft adM_given adM_low adM_high adM_packet adM_known cB cI cL u) U.heap ∧ va_D A (zwM adM adM_tape adM_frameAt adM_field adM_draft adM_given adM_low adM_high adM_packet adM_known cB cI cL u)) A
set_option maxRecDepth 100000 in
set_option maxHeartbeats 4000000 in
theorem k_M_head_32 {p : Program} {l : Launch} {e : Env} {R : Room} {s : State} {m : MethodId} {args : Array Value} {below : List Frame} {meth : Method} {c : Code} {dC : Nat → ClassId} {dI : Nat → Nat → Nat} {cB cI cL : ClassId} {A : Nat → Prop} (X : zx p s m args meth c R R_M b_M_head (some .int) 3 5 118) (hA : ∀ q, s.heap.size ≤ q → A q) (zz : zk dC dI cB cI cL A s)  (N : Nat) (sM : zM) (v1 : Int32) (v2 : Int32) (s0 : Int32) (a : Int32 × zM) (hG : g_M_head_32 N sM v1 v2 s0 = some a) (adM adM_tape adM_frameAt adM_field adM_draft adM_given adM_low adM_high adM_packet adM_known : Nat) (H : Heap) (locs : List Loc) (hP : va_P (dC, dI) zcl (zwM adM adM_tape adM_frameAt adM_field adM_draft adM_given adM_low adM_high adM_packet adM_known cB cI cL sM) H) (hD : va_D A (zwM adM adM_tape adM_frameAt adM_field adM_draft adM_given adM_low adM_high adM_packet adM_known cB cI cL sM)) (hS : va_S A s.heap H locs) (ls : Array Slot) (hl : lv_has ls 3 [(0, .ref adM), (1, .int v1), (2, .int v2)]) : W p l e R s m args below meth c H locs 0 0 (MQ below (q_M_head dC dI cB cI cL A adM adM_tape adM_frameAt adM_field adM_draft adM_given adM_low adM_high adM_packet adM_known a) args s 0 0 A) (F0 m 32 ls [.int s0, .ref adM]) := by
  obtain ⟨hx, hb, hr, hml, hown, hts, hlocks, hRf, hRl⟩ := id X
  unfold g_M_head_32 at hG
  refine lv_iconst (v := (1 : Int32)) hx hb d_M_head_32 (by decide) ?_
  obtain ⟨a_33, hx_33, hG⟩ := zb hG
  have hr_33 := zrunV (p := p) (e := e) (below := below) (meth := meth) (As := [.int s0, .int (1 : Int32)]) (rest := []) (st0 := [.int (1 : Int32), .int s0, .ref adM]) (cells := 0) (slots := 0) X zz hP hD hS hA [0, 1, 2, 3, 4, 5, 6, 7, 8, 9] (by decide) rfl (c_M_fails l dC dI cB cI cL H.size adM adM_tape adM_frameAt adM_field adM_draft adM_given adM_low adM_high adM_packet adM_known sM s0 (1 : Int32) _ hx_33) zy_M_fails zv_M_fails (hts (.methodLink R_M 62 y_M_fails) zin_M_62) hl rfl rfl d_M_head_33 (lv_room (Nat.le_of_ble_eq_true rfl)) rfl rfl ⟨Nat.le_trans (Nat.le_of_ble_eq_true rfl) hRf, Nat.le_trans (Nat.le_of_ble_eq_true rfl) hRl⟩ ⟨Nat.zero_le _, Nat.zero_le _⟩ 0 8 rfl rfl
  refine zcalli (wr := ([] : va_W)) hr_33 hP hD hS hA [0, 1, 2, 3, 4, 5, 6, 7, 8, 9] [] rfl rfl (by decide) (by decide) (fun r_33 u_33 H locs hw_33 hP hD hS => ?_)
  obtain ⟨sM_33, rfl⟩ : ∃ z, z = u_33 := ⟨_, rfl⟩
  subst hw_33
  have hP : va_P (dC, dI) zcl (zwM adM adM_tape adM_frameAt adM_field adM_draft adM_given adM_low adM_high adM_packet adM_known cB cI cL sM_33) H := hP
  have hD : va_D A (zwM adM adM_tape adM_frameAt adM_field adM_draft adM_given adM_low adM_high adM_packet adM_known cB cI cL sM_33) := hD
  have hG : g_M_head_c33 N v1 v2 sM_33 r_33 = some a := hG
  unfold g_M_head_c33 at hG
  refine lv_if_eq (tgt := 41) hx hb d_M_head_36 (by decide) (fun hc => ?_) (fun hc => ?_)
  · have hG := zt hG hc
    refine lv_aload_n hx hb d_M_head_41 rfl (lv_at hl 0 rfl) ?_
    obtain ⟨a_42, hx_42, hG⟩ := zb hG
    have hr_42 := zrunV (p := p) (e := e) (below := below) (meth := meth) (As := []) (rest := []) (st0 := [.ref adM]) (cells := 0) (slots := 0) X zz hP hD hS hA [0, 1, 2, 3, 4, 5, 6, 7, 8, 9] (by decide) rfl (c_M_begin l dC dI cB cI cL H.size adM adM_tape adM_frameAt adM_field adM_draft adM_given adM_low adM_high adM_packet adM_known sM_33 _ hx_42) zy_M_begin zv_M_begin (hts (.methodLink R_M 100 y_M_begin) zin_M_100) hl rfl rfl d_M_head_42 (lv_room (Nat.le_of_ble_eq_true rfl)) rfl rfl ⟨Nat.le_trans (Nat.le_of_ble_eq_true rfl) hRf, Nat.le_trans (Nat.le_of_ble_eq_true rfl) hRl⟩ ⟨Nat.zero_le _, Nat.zero_le _⟩ 0 8 rfl rfl
    refine zcallv (wr := ([] : va_W)) hr_42 hP hD hS hA [0, 1, 2, 3, 4, 5, 6, 7, 8, 9] [] rfl rfl (by decide) (by decide) (fun u_42 H locs hw_42 hP hD hS => ?_)
    obtain ⟨sM_42, rfl⟩ : ∃ z, z = u_42 := ⟨_, rfl⟩
    subst hw_42
    have hP : va_P (dC, dI) zcl (zwM adM adM_tape adM_frameAt adM_field adM_draft adM_given adM_low adM_high adM_packet adM_known cB cI cL sM_42) H := hP
    have hD : va_D A (zwM adM adM_tape adM_frameAt adM_field adM_draft adM_given adM_low adM_high adM_packet adM_known cB cI cL sM_42) := hD
    have hG : g_M_head_c42 N v1 v2 sM_42 = some a := hG
    unfold g_M_head_c42 at hG
    refine lv_aload_n hx hb d_M_head_45 rfl (lv_at hl 0 rfl) ?_
    refine lv_aload_n hx hb d_M_head_46 rfl (lv_at hl 0 rfl) ?_
    refine lv_iload_n hx hb d_M_head_47 rfl (lv_at hl 1 rfl) ?_
    refine lv_iload_n hx hb d_M_head_48 rfl (lv_at hl 2 rfl) ?_
    obtain ⟨a_49, hx_49, hG⟩ := zb hG
    have hr_49 := zrunV (p := p) (e := e) (below := below) (meth := meth) (As := [.int v1, .int v2]) (rest := [.ref adM]) (st0 := [.int v2, .int v1, .ref adM, .ref adM]) (cells := 0) (slots := 0) X zz hP hD hS hA [0, 1, 2, 3, 4, 5, 6, 7, 8, 9] (by decide) rfl (c_M_headerFlaw l dC dI cB cI cL H.size adM adM_tape adM_frameAt adM_field adM_draft adM_given adM_low adM_high adM_packet adM_known N sM_42 v1 v2 _ hx_49) zy_M_headerFlaw zv_M_headerFlaw (hts (.methodLink R_M 259 y_M_headerFlaw) zin_M_259) hl rfl rfl d_M_head_49 (lv_room (Nat.le_of_ble_eq_true rfl)) rfl rfl ⟨Nat.le_trans (Nat.le_of_ble_eq_true rfl) hRf, Nat.le_trans (Nat.le_of_ble_eq_true rfl) hRl⟩ ⟨Nat.zero_le _, Nat.zero_le _⟩ 0 8 rfl rfl
    refine zcalli (wr := ([] : va_W)) hr_49 hP hD hS hA [0, 1, 2, 3, 4, 5, 6, 7, 8, 9] [] rfl rfl (by decide) (by decide) (fun r_49 u_49 H locs hw_49 hP hD hS => ?_)
    obtain ⟨sM_49, rfl⟩ : ∃ z, z = u_49 := ⟨_, rfl⟩
    subst hw_49
    have hP : va_P (dC, dI) zcl (zwM adM adM_tape adM_frameAt adM_field adM_draft adM_given adM_low adM_high adM_packet adM_known cB cI cL sM_49) H := hP
    have hD : va_D A (zwM adM adM_tape adM_frameAt adM_field adM_draft adM_given adM_low adM_high adM_packet adM_known cB cI cL sM_49) := hD
    have hG : g_M_head_c49 v1 sM_49 r_49 = some a := hG
    unfold g_M_head_c49 at hG
    refine lv_iload_n hx hb d_M_head_52 rfl (lv_at hl 1 rfl) ?_
    obtain ⟨a_53, hx_53, hG⟩ := zb hG
    have hr_53 := zrunV (p := p) (e := e) (below := below) (meth := meth) (As := [.int r_49, .int v1]) (rest := []) (st0 := [.int v1, .int r_49, .ref adM]) (cells := 0) (slots := 0) X zz hP hD hS hA [0, 1, 2, 3, 4, 5, 6, 7, 8, 9] (by decide) rfl (c_M_tell l dC dI cB cI cL H.size adM adM_tape adM_frameAt adM_field adM_draft adM_given adM_low adM_high adM_packet adM_known sM_49 r_49 v1 _ hx_53) zy_M_tell zv_M_tell (hts (.methodLink R_M 203 y_M_tell) zin_M_203) hl rfl rfl d_M_head_53 (lv_room (Nat.le_of_ble_eq_true rfl)) rfl rfl ⟨Nat.le_trans (Nat.le_of_ble_eq_true rfl) hRf, Nat.le_trans (Nat.le_of_ble_eq_true rfl) hRl⟩ ⟨Nat.zero_le _, Nat.zero_le _⟩ 0 8 rfl rfl
    refine zcallv (wr := ([] : va_W)) hr_53 hP hD hS hA [0, 1, 2, 3, 4, 5, 6, 7, 8, 9] [] rfl rfl (by decide) (by decide) (fun u_53 H locs hw_53 hP hD hS => ?_)
    obtain ⟨sM_53, rfl⟩ : ∃ z, z = u_53 := ⟨_, rfl⟩
    subst hw_53
    have hP : va_P (dC, dI) zcl (zwM adM adM_tape adM_frameAt adM_field adM_draft adM_given adM_low adM_high adM_packet adM_known cB cI cL sM_53) H := hP
    have hD : va_D A (zwM adM adM_tape adM_frameAt adM_field adM_draft adM_given adM_low adM_high adM_packet adM_known cB cI cL sM_53) := hD
    have hG : g_M_head_c53 sM_53 = some a := hG
    unfold g_M_head_c53 at hG
    refine lv_aload_n hx hb d_M_head_56 rfl (lv_at hl 0 rfl) ?_
    refine va_get (D := (dC, dI)) (ci := 8) (v := .int (zM_fault sM_53)) (C := R_M) (T := F_M) (N := 26) hx hb hts zi_M hown zz.1 hP 0 rfl rfl 3 (by decide) (hts (.fieldLink R_M 91 "WireCodecModel" "fault" "I") zin_M_91) (fun _ h9 => h9) rfl d_M_head_57 ?_
    refine lv_if_le (tgt := 65) hx hb d_M_head_60 (by decide) (fun hc => ?_) (fun hc => ?_)
    · have hG := zt hG hc
      refine lv_aload_n hx hb d_M_head_65 rfl (lv_at hl 0 rfl) ?_
      refine lv_iconst (v := (1 : Int32)) hx hb d_M_head_66 (by decide) ?_
      refine va_put (D := (dC, dI)) (ci := 8) (v := .int (1 : Int32)) (ty := .int) (C := R_M) (T := F_M) (N := 26) hx hb hts zi_M zty_M zty_M_ok znm_M hown zz.1 hP hD hS 0 rfl rfl 23 (by decide) (hts (.fieldLink R_M 97 "WireCodecModel" "packets" "I") zin_M_97) (fun _ h9 => h9) rfl (by decide +kernel) rfl rfl (Nat.le_of_ble_eq_true rfl) d_M_head_67 (fun H locs hP hD hS => ?_)
      have hP := zp_M_packets hP
      have hD := zd_M_packets hD
      have hG : g_M_head_w67 (zM_packets' sM_53 (1 : Int32)) = some a := hG
      generalize zM_packets' sM_53 (1 : Int32) = sM_67 at hP hD hG
      unfold g_M_head_w67 at hG
      refine lv_aload_n hx hb d_M_head_70 rfl (lv_at hl 0 rfl) ?_
      refine va_get (D := (dC, dI)) (ci := 8) (v := .ref adM_packet) (C := R_M) (T := F_M) (N := 26) hx hb hts zi_M hown zz.1 hP 0 rfl rfl 24 (by decide) (hts (.fieldLink R_M 39 "WireCodecModel" "packet" "[I") zin_M_39) (fun _ h9 => h9) rfl d_M_head_71 ?_
      refine lv_iconst (v := (4 : Int32)) hx hb d_M_head_74 (by decide) ?_
      obtain ⟨hin, hG⟩ := zgd hG
      refine va_iald hx hb zz.1 hP 8 1 rfl rfl hin d_M_head_75 ?_
      exact W.iret (v := (zM_packet sM_67) (4 : Int32).toNatClampNeg) hx hb hr (fun t9 ht9 hW9 => ⟨⟨(zM_packet sM_67) (4 : Int32).toNatClampNeg, (sM_67), rfl, Option.some.inj hG, by rw [ht9]; exact hP, hD⟩, hS.F ht9⟩) hS.2.2 d_M_head_76
    · have hG := zf hG hc
      refine lv_iconst (v := (-1 : Int32)) hx hb d_M_head_63 (by decide) ?_
      exact W.iret (v := (-1 : Int32)) hx hb hr (fun t9 ht9 hW9 => ⟨⟨(-1 : Int32), (sM_53), rfl, Option.some.inj hG, by rw [ht9]; exact hP, hD⟩, hS.F ht9⟩) hS.2.2 d_M_head_64
  · have hG := zf hG hc
    refine lv_iconst (v := (0 : Int32)) hx hb d_M_head_39 (by decide) ?_
    exact W.iret (v := (0 : Int32)) hx hb hr (fun t9 ht9 hW9 => ⟨⟨(0 : Int32), (sM_33), rfl, Option.some.inj hG, by rw [ht9]; exact hP, hD⟩, hS.F ht9⟩) hS.2.2 d_M_head_40
set_option maxRecDepth 100000 in
set_option maxHeartbeats 4000000 in
theorem k_M_head_27 {p : Program} {l : Launch} {e : Env} {R : Room} {s : State} {m : MethodId} {args : Array Value} {below : List Frame} {meth : Method} {c : Code} {dC : Nat → ClassId} {dI : Nat → Nat → Nat} {cB cI cL : ClassId} {A : Nat → Prop} (X : zx p s m args meth c R R_M b_M_head (some .int) 3 5 118) (hA : ∀ q, s.heap.size ≤ q → A q) (zz : zk dC dI cB cI cL A s)  (N : Nat) (sM : zM) (v1 : Int32) (v2 : Int32) (a : Int32 × zM) (hG : g_M_head_27 N sM v1 v2 = some a) (adM adM_tape adM_frameAt adM_field adM_draft adM_given adM_low adM_high adM_packet adM_known : Nat) (H : Heap) (locs : List Loc) (hP : va_P (dC, dI) zcl (zwM adM adM_tape adM_frameAt adM_field adM_draft adM_given adM_low adM_high adM_packet adM_known cB cI cL sM) H) (hD : va_D A (zwM adM adM_tape adM_frameAt adM_field adM_draft adM_given adM_low adM_high adM_packet adM_known cB cI cL sM)) (hS : va_S A s.heap H locs) (ls : Array Slot) (hl : lv_has ls 3 [(0, .ref adM), (1, .int v1), (2, .int v2)]) : W p l e R s m args below meth c H locs 0 0 (MQ below (q_M_head dC dI cB cI cL A adM adM_tape adM_frameAt adM_field adM_draft adM_given adM_low adM_high adM_packet adM_known a) args s 0 0 A) (F0 m 27 ls [.ref adM]) := by
  obtain ⟨hx, hb, hr, hml, hown, hts, hlocks, hRf, hRl⟩ := id X
  unfold g_M_head_27 at hG
  refine lv_iconst (v := (1 : Int32)) hx hb d_M_head_27 (by decide) ?_
  refine lv_goto (tgt := 32) hx hb d_M_head_28 (by decide) ?_
  exact k_M_head_32 X hA zz N sM v1 v2 (1 : Int32) _ hG adM adM_tape adM_frameAt adM_field adM_draft adM_given adM_low adM_high adM_packet adM_known _ _ hP hD hS _ (lv_sub hl [0, 1, 2] rfl)
set_option maxRecDepth 100000 in
set_option maxHeartbeats 4000000 in
theorem k_M_head_0 {p : Program} {l : Launch} {e : Env} {R : Room} {s : State} {m : MethodId} {args : Array Value} {below : List Frame} {meth : Method} {c : Code} {dC : Nat → ClassId} {dI : Nat → Nat → Nat} {cB cI cL : ClassId} {A : Nat → Prop} (X : zx p s m args meth c R R_M b_M_head (some .int) 3 5 118) (hA : ∀ q, s.heap.size ≤ q → A q) (zz : zk dC dI cB cI cL A s)  (N : Nat) (sM : zM) (v1 : Int32) (v2 : Int32) (a : Int32 × zM) (hG : g_M_head N sM v1 v2 = some a) (adM adM_tape adM_frameAt adM_field adM_draft adM_given adM_low adM_high adM_packet adM_known : Nat) (H : Heap) (locs : List Loc) (hP : va_P (dC, dI) zcl (zwM adM adM_tape adM_frameAt adM_field adM_draft adM_given adM_low adM_high adM_packet adM_known cB cI cL sM) H) (hD : va_D A (zwM adM adM_tape adM_frameAt adM_field adM_draft adM_given adM_low adM_high adM_packet adM_known cB cI cL sM)) (hS : va_S A s.heap H locs) (ls : Array Slot) (hl : lv_has ls 3 [(0, .ref adM), (1, .int v1), (2, .int v2)]) : W p l e R s m args below meth c H locs 0 0 (MQ below (q_M_head dC dI cB cI cL A adM adM_tape adM_frameAt adM_field adM_draft adM_given adM_low adM_high adM_packet adM_known a) args s 0 0 A) (F0 m 0 ls []) := by
  obtain ⟨hx, hb, hr, hml, hown, hts, hlocks, hRf, hRl⟩ := id X
  unfold g_M_head at hG
  refine lv_aload_n hx hb d_M_head_0 rfl (lv_at hl 0 rfl) ?_
  refine lv_iload_n hx hb d_M_head_1 rfl (lv_at hl 1 rfl) ?_
  refine lv_i2l hx hb d_M_head_2 rfl ?_
  refine lv_lconst (v := (0 : Int64)) hx hb d_M_head_3 (by decide) ?_
  refine lv_aload_n hx hb d_M_head_4 rfl (lv_at hl 0 rfl) ?_
  refine va_get (D := (dC, dI)) (ci := 8) (v := .int (zM_size sM)) (C := R_M) (T := F_M) (N := 26) hx hb hts zi_M hown zz.1 hP 0 rfl rfl 2 (by decide) (hts (.fieldLink R_M 57 "WireCodecModel" "size" "I") zin_M_57) (fun _ h9 => h9) rfl d_M_head_5 ?_
  refine lv_i2l hx hb d_M_head_8 rfl ?_
  obtain ⟨a_9, hx_9, hG⟩ := zb hG
  have hr_9 := zrunS (p := p) (e := e) (below := below) (meth := meth) (As := [.long v1.toInt64, .long (0 : Int64), .long ((zM_size sM).toInt64)]) (rest := [.ref adM]) (st0 := [.long ((zM_size sM).toInt64), .long (0 : Int64), .long v1.toInt64, .ref adM]) (cells := 0) (slots := 0) X zz hP hD hS hA [] (by decide) rfl (c_M_within l dC dI cB cI cL H.size v1.toInt64 (0 : Int64) ((zM_size sM).toInt64) _ hx_9) zy_M_within zv_M_within (hts (.methodLink R_M 53 y_M_within) zin_M_53) hl rfl rfl d_M_head_9 (lv_room (Nat.le_of_ble_eq_true rfl)) rfl rfl ⟨Nat.le_trans (Nat.le_of_ble_eq_true rfl) hRf, Nat.le_trans (Nat.le_of_ble_eq_true rfl) hRl⟩ ⟨Nat.zero_le _, Nat.zero_le _⟩
  refine zcalli (wr := (zwM adM adM_tape adM_frameAt adM_field adM_draft adM_given adM_low adM_high adM_packet adM_known cB cI cL sM)) hr_9 hP hD hS hA [] [0, 1, 2, 3, 4, 5, 6, 7, 8, 9] rfl rfl (by decide) (by decide) (fun r_9 u_9 H locs hw_9 hP hD hS => ?_)
  subst hw_9
  have hP : va_P (dC, dI) zcl (zwM adM adM_tape adM_frameAt adM_field adM_draft adM_given adM_low adM_high adM_packet adM_known cB cI cL sM) H := hP
  have hD : va_D A (zwM adM adM_tape adM_frameAt adM_field adM_draft adM_given adM_low adM_high adM_packet adM_known cB cI cL sM) := hD
  have hG : g_M_head_c9 N sM v1 v2 r_9 = some a := hG
  unfold g_M_head_c9 at hG
  refine lv_if_eq (tgt := 27) hx hb d_M_head_12 (by decide) (fun hc => ?_) (fun hc => ?_)
  · have hG := zt hG hc
    exact k_M_head_27 X hA zz N sM v1 v2 _ hG adM adM_tape adM_frameAt adM_field adM_draft adM_given adM_low adM_high adM_packet adM_known _ _ hP hD hS _ (lv_sub hl [0, 1, 2] rfl)
  · have hG := zf hG hc
    refine lv_iload_n hx hb d_M_head_15 rfl (lv_at hl 2 rfl) ?_
    refine lv_i2l hx hb d_M_head_16 rfl ?_
    refine lv_lconst (v := (0 : Int64)) hx hb d_M_head_17 (by decide) ?_
    refine lv_ldc2 (v := (20 : Int64)) hx hb hown (hts (.constantLong R_M 254 (20 : Int64)) zin_M_254) d_M_head_18 ?_
    obtain ⟨a_21, hx_21, hG⟩ := zb hG
    have hr_21 := zrunS (p := p) (e := e) (below := below) (meth := meth) (As := [.long v2.toInt64, .long (0 : Int64), .long (20 : Int64)]) (rest := [.ref adM]) (st0 := [.long (20 : Int64), .long (0 : Int64), .long v2.toInt64, .ref adM]) (cells := 0) (slots := 0) X zz hP hD hS hA [] (by decide) rfl (c_M_within l dC dI cB cI cL H.size v2.toInt64 (0 : Int64) (20 : Int64) _ hx_21) zy_M_within zv_M_within (hts (.methodLink R_M 53 y_M_within) zin_M_53) hl rfl rfl d_M_head_21 (lv_room (Nat.le_of_ble_eq_true rfl)) rfl rfl ⟨Nat.le_trans (Nat.le_of_ble_eq_true rfl) hRf, Nat.le_trans (Nat.le_of_ble_eq_true rfl) hRl⟩ ⟨Nat.zero_le _, Nat.zero_le _⟩
    refine zcalli (wr := (zwM adM adM_tape adM_frameAt adM_field adM_draft adM_given adM_low adM_high adM_packet adM_known cB cI cL sM)) hr_21 hP hD hS hA [] [0, 1, 2, 3, 4, 5, 6, 7, 8, 9] rfl rfl (by decide) (by decide) (fun r_21 u_21 H locs hw_21 hP hD hS => ?_)
    subst hw_21
    have hP : va_P (dC, dI) zcl (zwM adM adM_tape adM_frameAt adM_field adM_draft adM_given adM_low adM_high adM_packet adM_known cB cI cL sM) H := hP
    have hD : va_D A (zwM adM adM_tape adM_frameAt adM_field adM_draft adM_given adM_low adM_high adM_packet adM_known cB cI cL sM) := hD
    have hG : g_M_head_c21 N sM v1 v2 r_21 = some a := hG
    unfold g_M_head_c21 at hG
    refine lv_if_ne (tgt := 31) hx hb d_M_head_24 (by decide) (fun hc => ?_) (fun hc => ?_)
    · have hG := zf hG hc
      refine lv_iconst (v := (0 : Int32)) hx hb d_M_head_31 (by decide) ?_
      exact k_M_head_32 X hA zz N sM v1 v2 (0 : Int32) _ hG adM adM_tape adM_frameAt adM_field adM_draft adM_given adM_low adM_high adM_packet adM_known _ _ hP hD hS _ (lv_sub hl [0, 1, 2] rfl)
    · have hG := zt hG hc
      exact k_M_head_27 X hA zz N sM v1 v2 _ hG adM adM_tape adM_frameAt adM_field adM_draft adM_given adM_low adM_high adM_packet adM_known _ _ hP hD hS _ (lv_sub hl [0, 1, 2] rfl)
set_option maxRecDepth 100000 in
set_option maxHeartbeats 4000000 in
theorem c_M_head (l : Launch) (dC : Nat → ClassId) (dI : Nat → Nat → Nat) (cB cI cL : ClassId) (sz : Nat) (adM adM_tape adM_frameAt adM_field adM_draft adM_given adM_low adM_high adM_packet adM_known : Nat) (N : Nat) (sM : zM) (v1 : Int32) (v2 : Int32) (a : Int32 × zM) (hG : g_M_head N sM v1 v2 = some a) : Met l y_M_head (zw y_M_head b_M_head 3 (some .int)) ({ frames := 5, cells := 0, slots := 0, locals := 118 }) (va_Pc [.ref adM, .int v1, .int v2] (zpre dC dI cB cI cL sz (zwM adM adM_tape adM_frameAt adM_field adM_draft adM_given adM_low adM_high adM_packet adM_known cB cI cL sM))) (q_M_head dC dI cB cI cL (va_A (zwM adM adM_tape adM_frameAt adM_field adM_draft adM_given adM_low adM_high adM_packet adM_known cB cI cL sM) sz) adM adM_tape adM_frameAt adM_field adM_draft adM_given adM_low adM_high adM_packet adM_known a) 0 0 (va_A (zwM adM adM_tape adM_frameAt adM_field adM_draft adM_given adM_low adM_high adM_packet adM_known cB cI cL sM) sz) := by
  refine Met.ofW (cc := b_M_head) (maxL := 3) (ret := (some .int)) (by decide) rfl ?_
  intro p e s m args below meth c s₁ B hml hv
  obtain ⟨rfl, hsz, hP, zz, hD0⟩ := hv
  subst hsz
  have X := zx_of (F := 5) (L := 118) B hml (Nat.le_refl _) (Nat.le_refl _)
  have hD := hD0.self (sz := s.heap.size)
  have hA : ∀ q : Nat, s.heap.size ≤ q → va_A (zwM adM adM_tape adM_frameAt adM_field adM_draft adM_given adM_low adM_high adM_packet adM_known cB cI cL sM) s.heap.size q := fun q h => Or.inr h
  have hl := lv_entry ([.ref adM, .int v1, .int v2]) (n := 3) (Nat.le_of_ble_eq_true rfl)
  rw [lg_entry_eq]
  generalize (lg_sl ([.ref adM, .int v1, .int v2]) ++ List.replicate (3 - (lg_sl ([.ref adM, .int v1, .int v2])).length) Slot.unset).toArray = ls at hl ⊢
  exact k_M_head_0 X hA zz N sM v1 v2 a hG adM adM_tape adM_frameAt adM_field adM_draft adM_given adM_low adM_high adM_packet adM_known _ _ hP hD va_S.rf ls hl
noncomputable def g_M_datagram_155 (N : Nat) (kr : zM → Int32 → Int32 → Int32 → Option (Int32 × zM)) (sM : zM) (v2 : Int32) (v3 : Int32) (s0 : Int32) : Option (Int32 × zM) := kr sM v2 v3 s0
noncomputable def g_M_datagram_154 (N : Nat) (kr : zM → Int32 → Int32 → Int32 → Option (Int32 × zM)) (sM : zM) (v2 : Int32) (v3 : Int32) : Option (Int32 × zM) := g_M_datagram_155 N kr sM v2 v3 (0 : Int32)
noncomputable def g_M_datagram_135 (N : Nat) (kr : zM → Int32 → Int32 → Int32 → Option (Int32 × zM)) (sM : zM) (v2 : Int32) (v3 : Int32) : Option (Int32 × zM) := if (zM_fault sM) = (0 : Int32) then (if (zM_size sM) ≤ v3 then (g_M_datagram_154 N kr sM v2 v3) else (g_M_datagram_155 N kr sM v2 v3 (1 : Int32))) else (g_M_datagram_154 N kr sM v2 v3)
noncomputable def g_M_datagram_w132 (N : Nat) (kr : zM → Int32 → Int32 → Int32 → Option (Int32 × zM)) (v2 : Int32) (sM_100 : zM) (sM_132 : zM) : Option (Int32 × zM) := g_M_datagram_135 N kr sM_132 v2 ((zM_packet sM_100) (((12 : Int32) * (zM_packets sM_100)) + (5 : Int32)).toNatClampNeg)
noncomputable def g_M_datagram_c100 (N : Nat) (kr : zM → Int32 → Int32 → Int32 → Option (Int32 × zM)) (v2 : Int32) (v3 : Int32) (sM_100 : zM) : Option (Int32 × zM) := if (zM_fault sM_100) = (0 : Int32) then (zg (vp_in (((12 : Int32) * (zM_packets sM_100)) + (5 : Int32)) 49152) (g_M_datagram_w132 N kr v2 sM_100 (zM_packets' sM_100 ((zM_packets sM_100) + (1 : Int32))))) else (g_M_datagram_135 N kr sM_100 v2 v3)
noncomputable def g_M_datagram_99 (N : Nat) (kr : zM → Int32 → Int32 → Int32 → Option (Int32 × zM)) (sM : zM) (v2 : Int32) (v3 : Int32) (s0 : Int32) : Option (Int32 × zM) := (g_M_tell sM s0 v3).bind (fun a => g_M_datagram_c100 N kr v2 v3 a)
noncomputable def g_M_datagram_c87 (N : Nat) (kr : zM → Int32 → Int32 → Int32 → Option (Int32 × zM)) (v2 : Int32) (v3 : Int32) (sM_70 : zM) (r_87 : Int32) : Option (Int32 × zM) := if r_87 = (0 : Int32) then (g_M_datagram_99 N kr sM_70 v2 v3 (6 : Int32)) else (g_M_datagram_99 N kr sM_70 v2 v3 (0 : Int32))
noncomputable def g_M_datagram_c70 (N : Nat) (kr : zM → Int32 → Int32 → Int32 → Option (Int32 × zM)) (v2 : Int32) (v3 : Int32) (sM_70 : zM) (r_70 : Int32) : Option (Int32 × zM) := if r_70 ≤ (0 : Int32) then ((g_M_isSame N sM_70).bind (fun a => g_M_datagram_c87 N kr v2 v3 sM_70 a)) else (g_M_datagram_99 N kr sM_70 v2 v3 r_70)
noncomputable def g_M_datagram_62_b (N : Nat) (kr : zM → Int32 → Int32 → Int32 → Option (Int32 × zM)) (sM : zM) (v2 : Int32) (v3 : Int32) (v4 : Int32) : Option (Int32 × zM) := if v4 = (0 : Int32) then (some (zM_packets sM, sM)) else ((g_M_headerFlaw N sM v3 v2).bind (fun a => g_M_datagram_c70 N kr v2 v3 a.2 a.1))
noncomputable def g_M_datagram_62 (N : Nat) : Nat → zM → Int32 → Int32 → Int32 → Option (Int32 × zM)
  | 0 => fun _ _ _ _ => none
  | k + 1 => fun sM v2 v3 v4 => g_M_datagram_62_b N (g_M_datagram_62 N k) sM v2 v3 v4
noncomputable def g_M_datagram_60 (N : Nat) (sM : zM) (v2 : Int32) (v3 : Int32) (s0 : Int32) : Option (Int32 × zM) := g_M_datagram_62 N N sM v2 v3 s0
noncomputable def g_M_datagram_c42 (N : Nat) (v1 : Int32) (v2 : Int32) (sM_42 : zM) : Option (Int32 × zM) := if (zM_size sM_42) ≤ v1 then (g_M_datagram_60 N sM_42 v2 v1 (0 : Int32)) else (g_M_datagram_60 N sM_42 v2 v1 (1 : Int32))
noncomputable def g_M_datagram_c33 (N : Nat) (v1 : Int32) (v2 : Int32) (sM_33 : zM) (r_33 : Int32) : Option (Int32 × zM) := if r_33 = (0 : Int32) then ((g_M_begin sM_33).bind (fun a => g_M_datagram_c42 N v1 v2 a)) else (some ((0 : Int32), sM_33))
noncomputable def g_M_datagram_32 (N : Nat) (sM : zM) (v1 : Int32) (v2 : Int32) (s0 : Int32) : Option (Int32 × zM) := (g_M_fails sM s0 (1 : Int32)).bind (fun a => g_M_datagram_c33 N v1 v2 a.2 a.1)
noncomputable def g_M_datagram_27 (N : Nat) (sM : zM) (v1 : Int32) (v2 : Int32) : Option (Int32 × zM) := g_M_datagram_32 N sM v1 v2 (1 : Int32)
noncomputable def g_M_datagram_c21 (N : Nat) (sM : zM) (v1 : Int32) (v2 : Int32) (r_21 : Int32) : Option (Int32 × zM) := if r_21 = (0 : Int32) then (g_M_datagram_27 N sM v1 v2) else (g_M_datagram_32 N sM v1 v2 (0 : Int32))
noncomputable def g_M_datagram_c9 (N : Nat) (sM : zM) (v1 : Int32) (v2 : Int32) (r_9 : Int32) : Option (Int32 × zM) := if r_9 = (0 : Int32) then (g_M_datagram_27 N sM v1 v2) else ((g_M_within v2.toInt64 (0 : Int64) (20 : Int64)).bind (fun a => g_M_datagram_c21 N sM v1 v2 a))
noncomputable def g_M_datagram (N : Nat) (sM : zM) (v1 : Int32) (v2 : Int32) : Option (Int32 × zM) := (g_M_within v1.toInt64 (0 : Int64) ((zM_size sM).toInt64)).bind (fun a => g_M_datagram_c9 N sM v1 v2 a)
def q_M_datagram (dC : Nat → ClassId) (dI : Nat → Nat → Nat) (cB cI cL : ClassId) (A : Nat → Prop) (adM : Nat) (adM_tape : Nat) (adM_frameAt : Nat) (adM_field : Nat) (adM_draft : Nat) (adM_given : Nat) (adM_low : Nat) (adM_high : Nat) (adM_packet : Nat) (adM_known : Nat) (a : Int32 × zM) : Array Value → State → Outcome → State → Prop := va_Qi (fun (r : Int32) (u : zM) => (r, u) = a) (fun u U => va_P (dC, dI) zcl (zwM adM adM_tape adM_frameAt adM_field adM_draft adM_given adM_low adM_high adM_packet adM_known cB cI cL u) U.heap ∧ va_D A (zwM adM adM_tape adM_frameAt adM_field adM_draft adM_given adM_low adM_high adM_packet adM_known cB cI cL u)) A
set_option maxRecDepth 100000 in
set_option maxHeartbeats 4000000 in
theorem k_M_datagram_155 {p : Program} {l : Launch} {e : Env} {R : Room} {s : State} {m : MethodId} {args : Array Value} {below : List Frame} {meth : Method} {c : Code} {dC : Nat → ClassId} {dI : Nat → Nat → Nat} {cB cI cL : ClassId} {A : Nat → Prop} (kr : zM → Int32 → Int32 → Int32 → Option (Int32 × zM)) (hrec : ∀ (sM : zM) (v2 : Int32) (v3 : Int32) (v4 : Int32) (a : Int32 × zM), kr sM v2 v3 v4 = some a → ∀ (adM adM_tape adM_frameAt adM_field adM_draft adM_given adM_low adM_high adM_packet adM_known : Nat) (H : Heap) (locs : List Loc), va_P (dC, dI) zcl (zwM adM adM_tape adM_frameAt adM_field adM_draft adM_given adM_low adM_high adM_packet adM_known cB cI cL sM) H → va_D A (zwM adM adM_tape adM_frameAt adM_field adM_draft adM_given adM_low adM_high adM_packet adM_known cB cI cL sM) → va_S A s.heap H locs → ∀ ls : Array Slot, lv_has ls 6 [(0, .ref adM), (2, .int v2), (3, .int v3), (4, .int v4)] → W p l e R s m args below meth c H locs 0 0 (MQ below (q_M_datagram dC dI cB cI cL A adM adM_tape adM_frameAt adM_field adM_draft adM_given adM_low adM_high adM_packet adM_known a) args s 0 0 A) (F0 m 62 ls [])) (X : zx p s m args meth c R R_M b_M_datagram (some .int) 6 5 118) (hA : ∀ q, s.heap.size ≤ q → A q) (zz : zk dC dI cB cI cL A s)  (N : Nat) (sM : zM) (v2 : Int32) (v3 : Int32) (s0 : Int32) (a : Int32 × zM) (hG : g_M_datagram_155 N kr sM v2 v3 s0 = some a) (adM adM_tape adM_frameAt adM_field adM_draft adM_given adM_low adM_high adM_packet adM_known : Nat) (H : Heap) (locs : List Loc) (hP : va_P (dC, dI) zcl (zwM adM adM_tape adM_frameAt adM_field adM_draft adM_given adM_low adM_high adM_packet adM_known cB cI cL sM) H) (hD : va_D A (zwM adM adM_tape adM_frameAt adM_field adM_draft adM_given adM_low adM_high adM_packet adM_known cB cI cL sM)) (hS : va_S A s.heap H locs) (ls : Array Slot) (hl : lv_has ls 6 [(0, .ref adM), (2, .int v2), (3, .int v3)]) : W p l e R s m args below meth c H locs 0 0 (MQ below (q_M_datagram dC dI cB cI cL A adM adM_tape adM_frameAt adM_field adM_draft adM_given adM_low adM_high adM_packet adM_known a) args s 0 0 A) (F0 m 155 ls [.int s0]) := by
  obtain ⟨hx, hb, hr, hml, hown, hts, hlocks, hRf, hRl⟩ := id X
  unfold g_M_datagram_155 at hG
  refine lv_istore (lv' := [(4, .int s0), (0, .ref adM), (2, .int v2), (3, .int v3)]) hx hb d_M_datagram_155 hl (by decide) rfl (fun ls hl => ?_)
  refine lv_goto (tgt := 62) hx hb d_M_datagram_157 (by decide) ?_
  exact hrec sM v2 v3 s0 _ hG adM adM_tape adM_frameAt adM_field adM_draft adM_given adM_low adM_high adM_packet adM_known _ _ hP hD hS _ (lv_sub hl [1, 2, 3, 0] rfl)
set_option maxRecDepth 100000 in
set_option maxHeartbeats 4000000 in
theorem k_M_datagram_154 {p : Program} {l : Launch} {e : Env} {R : Room} {s : State} {m : MethodId} {args : Array Value} {below : List Frame} {meth : Method} {c : Code} {dC : Nat → ClassId} {dI : Nat → Nat → Nat} {cB cI cL : ClassId} {A : Nat → Prop} (kr : zM → Int32 → Int32 → Int32 → Option (Int32 × zM)) (hrec : ∀ (sM : zM) (v2 : Int32) (v3 : Int32) (v4 : Int32) (a : Int32 × zM), kr sM v2 v3 v4 = some a → ∀ (adM adM_tape adM_frameAt adM_field adM_draft adM_given adM_low adM_high adM_packet adM_known : Nat) (H : Heap) (locs : List Loc), va_P (dC, dI) zcl (zwM adM adM_tape adM_frameAt adM_field adM_draft adM_given adM_low adM_high adM_packet adM_known cB cI cL sM) H → va_D A (zwM adM adM_tape adM_frameAt adM_field adM_draft adM_given adM_low adM_high adM_packet adM_known cB cI cL sM) → va_S A s.heap H locs → ∀ ls : Array Slot, lv_has ls 6 [(0, .ref adM), (2, .int v2), (3, .int v3), (4, .int v4)] → W p l e R s m args below meth c H locs 0 0 (MQ below (q_M_datagram dC dI cB cI cL A adM adM_tape adM_frameAt adM_field adM_draft adM_given adM_low adM_high adM_packet adM_known a) args s 0 0 A) (F0 m 62 ls [])) (X : zx p s m args meth c R R_M b_M_datagram (some .int) 6 5 118) (hA : ∀ q, s.heap.size ≤ q → A q) (zz : zk dC dI cB cI cL A s)  (N : Nat) (sM : zM) (v2 : Int32) (v3 : Int32) (a : Int32 × zM) (hG : g_M_datagram_154 N kr sM v2 v3 = some a) (adM adM_tape adM_frameAt adM_field adM_draft adM_given adM_low adM_high adM_packet adM_known : Nat) (H : Heap) (locs : List Loc) (hP : va_P (dC, dI) zcl (zwM adM adM_tape adM_frameAt adM_field adM_draft adM_given adM_low adM_high adM_packet adM_known cB cI cL sM) H) (hD : va_D A (zwM adM adM_tape adM_frameAt adM_field adM_draft adM_given adM_low adM_high adM_packet adM_known cB cI cL sM)) (hS : va_S A s.heap H locs) (ls : Array Slot) (hl : lv_has ls 6 [(0, .ref adM), (2, .int v2), (3, .int v3)]) : W p l e R s m args below meth c H locs 0 0 (MQ below (q_M_datagram dC dI cB cI cL A adM adM_tape adM_frameAt adM_field adM_draft adM_given adM_low adM_high adM_packet adM_known a) args s 0 0 A) (F0 m 154 ls []) := by
  obtain ⟨hx, hb, hr, hml, hown, hts, hlocks, hRf, hRl⟩ := id X
  unfold g_M_datagram_154 at hG
  refine lv_iconst (v := (0 : Int32)) hx hb d_M_datagram_154 (by decide) ?_
  exact k_M_datagram_155 kr hrec X hA zz N sM v2 v3 (0 : Int32) _ hG adM adM_tape adM_frameAt adM_field adM_draft adM_given adM_low adM_high adM_packet adM_known _ _ hP hD hS _ (lv_sub hl [0, 1, 2] rfl)
set_option maxRecDepth 100000 in
set_option maxHeartbeats 4000000 in
theorem k_M_datagram_135 {p : Program} {l : Launch} {e : Env} {R : Room} {s : State} {m : MethodId} {args : Array Value} {below : List Frame} {meth : Method} {c : Code} {dC : Nat → ClassId} {dI : Nat → Nat → Nat} {cB cI cL : ClassId} {A : Nat → Prop} (kr : zM → Int32 → Int32 → Int32 → Option (Int32 × zM)) (hrec : ∀ (sM : zM) (v2 : Int32) (v3 : Int32) (v4 : Int32) (a : Int32 × zM), kr sM v2 v3 v4 = some a → ∀ (adM adM_tape adM_frameAt adM_field adM_draft adM_given adM_low adM_high adM_packet adM_known : Nat) (H : Heap) (locs : List Loc), va_P (dC, dI) zcl (zwM adM adM_tape adM_frameAt adM_field adM_draft adM_given adM_low adM_high adM_packet adM_known cB cI cL sM) H → va_D A (zwM adM adM_tape adM_frameAt adM_field adM_draft adM_given adM_low adM_high adM_packet adM_known cB cI cL sM) → va_S A s.heap H locs → ∀ ls : Array Slot, lv_has ls 6 [(0, .ref adM), (2, .int v2), (3, .int v3), (4, .int v4)] → W p l e R s m args below meth c H locs 0 0 (MQ below (q_M_datagram dC dI cB cI cL A adM adM_tape adM_frameAt adM_field adM_draft adM_given adM_low adM_high adM_packet adM_known a) args s 0 0 A) (F0 m 62 ls [])) (X : zx p s m args meth c R R_M b_M_datagram (some .int) 6 5 118) (hA : ∀ q, s.heap.size ≤ q → A q) (zz : zk dC dI cB cI cL A s)  (N : Nat) (sM : zM) (v2 : Int32) (v3 : Int32) (a : Int32 × zM) (hG : g_M_datagram_135 N kr sM v2 v3 = some a) (adM adM_tape adM_frameAt adM_field adM_draft adM_given adM_low adM_high adM_packet adM_known : Nat) (H : Heap) (locs : List Loc) (hP : va_P (dC, dI) zcl (zwM adM adM_tape adM_frameAt adM_field adM_draft adM_given adM_low adM_high adM_packet adM_known cB cI cL sM) H) (hD : va_D A (zwM adM adM_tape adM_frameAt adM_field adM_draft adM_given adM_low adM_high adM_packet adM_known cB cI cL sM)) (hS : va_S A s.heap H locs) (ls : Array Slot) (hl : lv_has ls 6 [(0, .ref adM), (2, .int v2), (3, .int v3)]) : W p l e R s m args below meth c H locs 0 0 (MQ below (q_M_datagram dC dI cB cI cL A adM adM_tape adM_frameAt adM_field adM_draft adM_given adM_low adM_high adM_packet adM_known a) args s 0 0 A) (F0 m 135 ls []) := by
  obtain ⟨hx, hb, hr, hml, hown, hts, hlocks, hRf, hRl⟩ := id X
  unfold g_M_datagram_135 at hG
  refine lv_aload_n hx hb d_M_datagram_135 rfl (lv_at hl 0 rfl) ?_
  refine va_get (D := (dC, dI)) (ci := 8) (v := .int (zM_fault sM)) (C := R_M) (T := F_M) (N := 26) hx hb hts zi_M hown zz.1 hP 0 rfl rfl 3 (by decide) (hts (.fieldLink R_M 91 "WireCodecModel" "fault" "I") zin_M_91) (fun _ h9 => h9) rfl d_M_datagram_136 ?_
  refine lv_if_ne (tgt := 154) hx hb d_M_datagram_139 (by decide) (fun hc => ?_) (fun hc => ?_)
  · have hG := zf hG hc
    exact k_M_datagram_154 kr hrec X hA zz N sM v2 v3 _ hG adM adM_tape adM_frameAt adM_field adM_draft adM_given adM_low adM_high adM_packet adM_known _ _ hP hD hS _ (lv_sub hl [0, 1, 2] rfl)
  · have hG := zt hG hc
    refine lv_iload_n hx hb d_M_datagram_142 rfl (lv_at hl 2 rfl) ?_
    refine lv_aload_n hx hb d_M_datagram_143 rfl (lv_at hl 0 rfl) ?_
    refine va_get (D := (dC, dI)) (ci := 8) (v := .int (zM_size sM)) (C := R_M) (T := F_M) (N := 26) hx hb hts zi_M hown zz.1 hP 0 rfl rfl 2 (by decide) (hts (.fieldLink R_M 57 "WireCodecModel" "size" "I") zin_M_57) (fun _ h9 => h9) rfl d_M_datagram_144 ?_
    refine lv_icmp_ge (tgt := 154) hx hb d_M_datagram_147 (by decide) (fun hc => ?_) (fun hc => ?_)
    · have hG := zt hG hc
      exact k_M_datagram_154 kr hrec X hA zz N sM v2 v3 _ hG adM adM_tape adM_frameAt adM_field adM_draft adM_given adM_low adM_high adM_packet adM_known _ _ hP hD hS _ (lv_sub hl [0, 1, 2] rfl)
    · have hG := zf hG hc
      refine lv_iconst (v := (1 : Int32)) hx hb d_M_datagram_150 (by decide) ?_
      refine lv_goto (tgt := 155) hx hb d_M_datagram_151 (by decide) ?_
      exact k_M_datagram_155 kr hrec X hA zz N sM v2 v3 (1 : Int32) _ hG adM adM_tape adM_frameAt adM_field adM_draft adM_given adM_low adM_high adM_packet adM_known _ _ hP hD hS _ (lv_sub hl [0, 1, 2] rfl)
set_option maxRecDepth 100000 in
set_option maxHeartbeats 4000000 in
theorem k_M_datagram_99 {p : Program} {l : Launch} {e : Env} {R : Room} {s : State} {m : MethodId} {args : Array Value} {below : List Frame} {meth : Method} {c : Code} {dC : Nat → ClassId} {dI : Nat → Nat → Nat} {cB cI cL : ClassId} {A : Nat → Prop} (kr : zM → Int32 → Int32 → Int32 → Option (Int32 × zM)) (hrec : ∀ (sM : zM) (v2 : Int32) (v3 : Int32) (v4 : Int32) (a : Int32 × zM), kr sM v2 v3 v4 = some a → ∀ (adM adM_tape adM_frameAt adM_field adM_draft adM_given adM_low adM_high adM_packet adM_known : Nat) (H : Heap) (locs : List Loc), va_P (dC, dI) zcl (zwM adM adM_tape adM_frameAt adM_field adM_draft adM_given adM_low adM_high adM_packet adM_known cB cI cL sM) H → va_D A (zwM adM adM_tape adM_frameAt adM_field adM_draft adM_given adM_low adM_high adM_packet adM_known cB cI cL sM) → va_S A s.heap H locs → ∀ ls : Array Slot, lv_has ls 6 [(0, .ref adM), (2, .int v2), (3, .int v3), (4, .int v4)] → W p l e R s m args below meth c H locs 0 0 (MQ below (q_M_datagram dC dI cB cI cL A adM adM_tape adM_frameAt adM_field adM_draft adM_given adM_low adM_high adM_packet adM_known a) args s 0 0 A) (F0 m 62 ls [])) (X : zx p s m args meth c R R_M b_M_datagram (some .int) 6 5 118) (hA : ∀ q, s.heap.size ≤ q → A q) (zz : zk dC dI cB cI cL A s)  (N : Nat) (sM : zM) (v2 : Int32) (v3 : Int32) (s0 : Int32) (a : Int32 × zM) (hG : g_M_datagram_99 N kr sM v2 v3 s0 = some a) (adM adM_tape adM_frameAt adM_field adM_draft adM_given adM_low adM_high adM_packet adM_known : Nat) (H : Heap) (locs : List Loc) (hP : va_P (dC, dI) zcl (zwM adM adM_tape adM_frameAt adM_field adM_draft adM_given adM_low adM_high adM_packet adM_known cB cI cL sM) H) (hD : va_D A (zwM adM adM_tape adM_frameAt adM_field adM_draft adM_given adM_low adM_high adM_packet adM_known cB cI cL sM)) (hS : va_S A s.heap H locs) (ls : Array Slot) (hl : lv_has ls 6 [(0, .ref adM), (2, .int v2), (3, .int v3)]) : W p l e R s m args below meth c H locs 0 0 (MQ below (q_M_datagram dC dI cB cI cL A adM adM_tape adM_frameAt adM_field adM_draft adM_given adM_low adM_high adM_packet adM_known a) args s 0 0 A) (F0 m 99 ls [.int s0, .ref adM]) := by
  obtain ⟨hx, hb, hr, hml, hown, hts, hlocks, hRf, hRl⟩ := id X
  unfold g_M_datagram_99 at hG
  refine lv_iload_n hx hb d_M_datagram_99 rfl (lv_at hl 2 rfl) ?_
  obtain ⟨a_100, hx_100, hG⟩ := zb hG
  have hr_100 := zrunV (p := p) (e := e) (below := below) (meth := meth) (As := [.int s0, .int v3]) (rest := []) (st0 := [.int v3, .int s0, .ref adM]) (cells := 0) (slots := 0) X zz hP hD hS hA [0, 1, 2, 3, 4, 5, 6, 7, 8, 9] (by decide) rfl (c_M_tell l dC dI cB cI cL H.size adM adM_tape adM_frameAt adM_field adM_draft adM_given adM_low adM_high adM_packet adM_known sM s0 v3 _ hx_100) zy_M_tell zv_M_tell (hts (.methodLink R_M 203 y_M_tell) zin_M_203) hl rfl rfl d_M_datagram_100 (lv_room (Nat.le_of_ble_eq_true rfl)) rfl rfl ⟨Nat.le_trans (Nat.le_of_ble_eq_true rfl) hRf, Nat.le_trans (Nat.le_of_ble_eq_true rfl) hRl⟩ ⟨Nat.zero_le _, Nat.zero_le _⟩ 0 8 rfl rfl
  refine zcallv (wr := ([] : va_W)) hr_100 hP hD hS hA [0, 1, 2, 3, 4, 5, 6, 7, 8, 9] [] rfl rfl (by decide) (by decide) (fun u_100 H locs hw_100 hP hD hS => ?_)
  obtain ⟨sM_100, rfl⟩ : ∃ z, z = u_100 := ⟨_, rfl⟩
  subst hw_100
  have hP : va_P (dC, dI) zcl (zwM adM adM_tape adM_frameAt adM_field adM_draft adM_given adM_low adM_high adM_packet adM_known cB cI cL sM_100) H := hP
  have hD : va_D A (zwM adM adM_tape adM_frameAt adM_field adM_draft adM_given adM_low adM_high adM_packet adM_known cB cI cL sM_100) := hD
  have hG : g_M_datagram_c100 N kr v2 v3 sM_100 = some a := hG
  unfold g_M_datagram_c100 at hG
  refine lv_aload_n hx hb d_M_datagram_103 rfl (lv_at hl 0 rfl) ?_
  refine va_get (D := (dC, dI)) (ci := 8) (v := .int (zM_fault sM_100)) (C := R_M) (T := F_M) (N := 26) hx hb hts zi_M hown zz.1 hP 0 rfl rfl 3 (by decide) (hts (.fieldLink R_M 91 "WireCodecModel" "fault" "I") zin_M_91) (fun _ h9 => h9) rfl d_M_datagram_104 ?_
  refine lv_if_ne (tgt := 135) hx hb d_M_datagram_107 (by decide) (fun hc => ?_) (fun hc => ?_)
  · have hG := zf hG hc
    exact k_M_datagram_135 kr hrec X hA zz N sM_100 v2 v3 _ hG adM adM_tape adM_frameAt adM_field adM_draft adM_given adM_low adM_high adM_packet adM_known _ _ hP hD hS _ (lv_sub hl [0, 1, 2] rfl)
  · have hG := zt hG hc
    refine lv_aload_n hx hb d_M_datagram_110 rfl (lv_at hl 0 rfl) ?_
    refine va_get (D := (dC, dI)) (ci := 8) (v := .ref adM_packet) (C := R_M) (T := F_M) (N := 26) hx hb hts zi_M hown zz.1 hP 0 rfl rfl 24 (by decide) (hts (.fieldLink R_M 39 "WireCodecModel" "packet" "[I") zin_M_39) (fun _ h9 => h9) rfl d_M_datagram_111 ?_
    refine lv_bipush (v := (12 : Int32)) hx hb d_M_datagram_114 (by decide) ?_
    refine lv_aload_n hx hb d_M_datagram_116 rfl (lv_at hl 0 rfl) ?_
    refine va_get (D := (dC, dI)) (ci := 8) (v := .int (zM_packets sM_100)) (C := R_M) (T := F_M) (N := 26) hx hb hts zi_M hown zz.1 hP 0 rfl rfl 23 (by decide) (hts (.fieldLink R_M 97 "WireCodecModel" "packets" "I") zin_M_97) (fun _ h9 => h9) rfl d_M_datagram_117 ?_
    refine lv_imul hx hb d_M_datagram_120 ?_
    refine lv_iconst (v := (5 : Int32)) hx hb d_M_datagram_121 (by decide) ?_
    refine lv_iadd hx hb d_M_datagram_122 ?_
    obtain ⟨hin, hG⟩ := zgd hG
    refine va_iald hx hb zz.1 hP 8 1 rfl rfl hin d_M_datagram_123 ?_
    refine lv_istore_n (lv' := [(3, .int ((zM_packet sM_100) (((12 : Int32) * (zM_packets sM_100)) + (5 : Int32)).toNatClampNeg)), (0, .ref adM), (2, .int v2)]) hx hb d_M_datagram_124 rfl hl (by decide) rfl (fun ls hl => ?_)
    refine lv_aload_n hx hb d_M_datagram_125 rfl (lv_at hl 1 rfl) ?_
    refine lv_dup hx hb d_M_datagram_126 rfl ?_
    refine va_get (D := (dC, dI)) (ci := 8) (v := .int (zM_packets sM_100)) (C := R_M) (T := F_M) (N := 26) hx hb hts zi_M hown zz.1 hP 0 rfl rfl 23 (by decide) (hts (.fieldLink R_M 97 "WireCodecModel" "packets" "I") zin_M_97) (fun _ h9 => h9) rfl d_M_datagram_127 ?_
    refine lv_iconst (v := (1 : Int32)) hx hb d_M_datagram_130 (by decide) ?_
    refine lv_iadd hx hb d_M_datagram_131 ?_
    refine va_put (D := (dC, dI)) (ci := 8) (v := .int ((zM_packets sM_100) + (1 : Int32))) (ty := .int) (C := R_M) (T := F_M) (N := 26) hx hb hts zi_M zty_M zty_M_ok znm_M hown zz.1 hP hD hS 0 rfl rfl 23 (by decide) (hts (.fieldLink R_M 97 "WireCodecModel" "packets" "I") zin_M_97) (fun _ h9 => h9) rfl (by decide +kernel) rfl rfl (Nat.le_of_ble_eq_true rfl) d_M_datagram_132 (fun H locs hP hD hS => ?_)
    have hP := zp_M_packets hP
    have hD := zd_M_packets hD
    have hG : g_M_datagram_w132 N kr v2 sM_100 (zM_packets' sM_100 ((zM_packets sM_100) + (1 : Int32))) = some a := hG
    generalize zM_packets' sM_100 ((zM_packets sM_100) + (1 : Int32)) = sM_132 at hP hD hG
    unfold g_M_datagram_w132 at hG
    exact k_M_datagram_135 kr hrec X hA zz N sM_132 v2 ((zM_packet sM_100) (((12 : Int32) * (zM_packets sM_100)) + (5 : Int32)).toNatClampNeg) _ hG adM adM_tape adM_frameAt adM_field adM_draft adM_given adM_low adM_high adM_packet adM_known _ _ hP hD hS _ (lv_sub hl [1, 2, 0] rfl)
set_option maxRecDepth 100000 in
set_option maxHeartbeats 4000000 in
theorem k_M_datagram_62_b {p : Program} {l : Launch} {e : Env} {R : Room} {s : State} {m : MethodId} {args : Array Value} {below : List Frame} {meth : Method} {c : Code} {dC : Nat → ClassId} {dI : Nat → Nat → Nat} {cB cI cL : ClassId} {A : Nat → Prop} (kr : zM → Int32 → Int32 → Int32 → Option (Int32 × zM)) (hrec : ∀ (sM : zM) (v2 : Int32) (v3 : Int32) (v4 : Int32) (a : Int32 × zM), kr sM v2 v3 v4 = some a → ∀ (adM adM_tape adM_frameAt adM_field adM_draft adM_given adM_low adM_high adM_packet adM_known : Nat) (H : Heap) (locs : List Loc), va_P (dC, dI) zcl (zwM adM adM_tape adM_frameAt adM_field adM_draft adM_given adM_low adM_high adM_packet adM_known cB cI cL sM) H → va_D A (zwM adM adM_tape adM_frameAt adM_field adM_draft adM_given adM_low adM_high adM_packet adM_known cB cI cL sM) → va_S A s.heap H locs → ∀ ls : Array Slot, lv_has ls 6 [(0, .ref adM), (2, .int v2), (3, .int v3), (4, .int v4)] → W p l e R s m args below meth c H locs 0 0 (MQ below (q_M_datagram dC dI cB cI cL A adM adM_tape adM_frameAt adM_field adM_draft adM_given adM_low adM_high adM_packet adM_known a) args s 0 0 A) (F0 m 62 ls [])) (X : zx p s m args meth c R R_M b_M_datagram (some .int) 6 5 118) (hA : ∀ q, s.heap.size ≤ q → A q) (zz : zk dC dI cB cI cL A s)  (N : Nat) (sM : zM) (v2 : Int32) (v3 : Int32) (v4 : Int32) (a : Int32 × zM) (hG : g_M_datagram_62_b N kr sM v2 v3 v4 = some a) (adM adM_tape adM_frameAt adM_field adM_draft adM_given adM_low adM_high adM_packet adM_known : Nat) (H : Heap) (locs : List Loc) (hP : va_P (dC, dI) zcl (zwM adM adM_tape adM_frameAt adM_field adM_draft adM_given adM_low adM_high adM_packet adM_known cB cI cL sM) H) (hD : va_D A (zwM adM adM_tape adM_frameAt adM_field adM_draft adM_given adM_low adM_high adM_packet adM_known cB cI cL sM)) (hS : va_S A s.heap H locs) (ls : Array Slot) (hl : lv_has ls 6 [(0, .ref adM), (2, .int v2), (3, .int v3), (4, .int v4)]) : W p l e R s m args below meth c H locs 0 0 (MQ below (q_M_datagram dC dI cB cI cL A adM adM_tape adM_frameAt adM_field adM_draft adM_given adM_low adM_high adM_packet adM_known a) args s 0 0 A) (F0 m 62 ls []) := by
  obtain ⟨hx, hb, hr, hml, hown, hts, hlocks, hRf, hRl⟩ := id X
  unfold g_M_datagram_62_b at hG
  refine lv_iload hx hb d_M_datagram_62 (lv_at hl 3 rfl) ?_
  refine lv_if_eq (tgt := 160) hx hb d_M_datagram_64 (by decide) (fun hc => ?_) (fun hc => ?_)
  · have hG := zt hG hc
    refine lv_aload_n hx hb d_M_datagram_160 rfl (lv_at hl 0 rfl) ?_
    refine va_get (D := (dC, dI)) (ci := 8) (v := .int (zM_packets sM)) (C := R_M) (T := F_M) (N := 26) hx hb hts zi_M hown zz.1 hP 0 rfl rfl 23 (by decide) (hts (.fieldLink R_M 97 "WireCodecModel" "packets" "I") zin_M_97) (fun _ h9 => h9) rfl d_M_datagram_161 ?_
    exact W.iret (v := zM_packets sM) hx hb hr (fun t9 ht9 hW9 => ⟨⟨zM_packets sM, (sM), rfl, Option.some.inj hG, by rw [ht9]; exact hP, hD⟩, hS.F ht9⟩) hS.2.2 d_M_datagram_164
  · have hG := zf hG hc
    refine lv_aload_n hx hb d_M_datagram_67 rfl (lv_at hl 0 rfl) ?_
    refine lv_iload_n hx hb d_M_datagram_68 rfl (lv_at hl 2 rfl) ?_
    refine lv_iload_n hx hb d_M_datagram_69 rfl (lv_at hl 1 rfl) ?_
    obtain ⟨a_70, hx_70, hG⟩ := zb hG
    have hr_70 := zrunV (p := p) (e := e) (below := below) (meth := meth) (As := [.int v3, .int v2]) (rest := []) (st0 := [.int v2, .int v3, .ref adM]) (cells := 0) (slots := 0) X zz hP hD hS hA [0, 1, 2, 3, 4, 5, 6, 7, 8, 9] (by decide) rfl (c_M_headerFlaw l dC dI cB cI cL H.size adM adM_tape adM_frameAt adM_field adM_draft adM_given adM_low adM_high adM_packet adM_known N sM v3 v2 _ hx_70) zy_M_headerFlaw zv_M_headerFlaw (hts (.methodLink R_M 259 y_M_headerFlaw) zin_M_259) hl rfl rfl d_M_datagram_70 (lv_room (Nat.le_of_ble_eq_true rfl)) rfl rfl ⟨Nat.le_trans (Nat.le_of_ble_eq_true rfl) hRf, Nat.le_trans (Nat.le_of_ble_eq_true rfl) hRl⟩ ⟨Nat.zero_le _, Nat.zero_le _⟩ 0 8 rfl rfl
    refine zcalli (wr := ([] : va_W)) hr_70 hP hD hS hA [0, 1, 2, 3, 4, 5, 6, 7, 8, 9] [] rfl rfl (by decide) (by decide) (fun r_70 u_70 H locs hw_70 hP hD hS => ?_)
    obtain ⟨sM_70, rfl⟩ : ∃ z, z = u_70 := ⟨_, rfl⟩
    subst hw_70
    have hP : va_P (dC, dI) zcl (zwM adM adM_tape adM_frameAt adM_field adM_draft adM_given adM_low adM_high adM_packet adM_known cB cI cL sM_70) H := hP
    have hD : va_D A (zwM adM adM_tape adM_frameAt adM_field adM_draft adM_given adM_low adM_high adM_packet adM_known cB cI cL sM_70) := hD
    have hG : g_M_datagram_c70 N kr v2 v3 sM_70 r_70 = some a := hG
    unfold g_M_datagram_c70 at hG
    refine lv_istore (lv' := [(5, .int r_70), (0, .ref adM), (2, .int v2), (3, .int v3), (4, .int v4)]) hx hb d_M_datagram_73 hl (by decide) rfl (fun ls hl => ?_)
    refine lv_aload_n hx hb d_M_datagram_75 rfl (lv_at hl 1 rfl) ?_
    refine lv_iload hx hb d_M_datagram_76 (lv_at hl 0 rfl) ?_
    refine lv_if_le (tgt := 86) hx hb d_M_datagram_78 (by decide) (fun hc => ?_) (fun hc => ?_)
    · have hG := zt hG hc
      refine lv_aload_n hx hb d_M_datagram_86 rfl (lv_at hl 1 rfl) ?_
      obtain ⟨a_87, hx_87, hG⟩ := zb hG
      have hr_87 := zrunV (p := p) (e := e) (below := below) (meth := meth) (As := []) (rest := [.ref adM]) (st0 := [.ref adM, .ref adM]) (cells := 0) (slots := 0) X zz hP hD hS hA [0, 1, 2, 3, 4, 5, 6, 7, 8, 9] (by decide) rfl (c_M_isSame l dC dI cB cI cL H.size adM adM_tape adM_frameAt adM_field adM_draft adM_given adM_low adM_high adM_packet adM_known N sM_70 _ hx_87) zy_M_isSame zv_M_isSame (hts (.methodLink R_M 262 y_M_isSame) zin_M_262) hl rfl rfl d_M_datagram_87 (lv_room (Nat.le_of_ble_eq_true rfl)) rfl rfl ⟨Nat.le_trans (Nat.le_of_ble_eq_true rfl) hRf, Nat.le_trans (Nat.le_of_ble_eq_true rfl) hRl⟩ ⟨Nat.zero_le _, Nat.zero_le _⟩ 0 8 rfl rfl
      refine zcalli (wr := ([] : va_W)) hr_87 hP hD hS hA [0, 1, 2, 3, 4, 5, 6, 7, 8, 9] [] rfl rfl (by decide) (by decide) (fun r_87 u_87 H locs hw_87 hP hD hS => ?_)
      subst hw_87
      have hP : va_P (dC, dI) zcl (zwM adM adM_tape adM_frameAt adM_field adM_draft adM_given adM_low adM_high adM_packet adM_known cB cI cL sM_70) H := hP
      have hD : va_D A (zwM adM adM_tape adM_frameAt adM_field adM_draft adM_given adM_low adM_high adM_packet adM_known cB cI cL sM_70) := hD
      have hG : g_M_datagram_c87 N kr v2 v3 sM_70 r_87 = some a := hG
      unfold g_M_datagram_c87 at hG
      refine lv_if_eq (tgt := 97) hx hb d_M_datagram_90 (by decide) (fun hc => ?_) (fun hc => ?_)
      · have hG := zt hG hc
        refine lv_bipush (v := (6 : Int32)) hx hb d_M_datagram_97 (by decide) ?_
        exact k_M_datagram_99 kr hrec X hA zz N sM_70 v2 v3 (6 : Int32) _ hG adM adM_tape adM_frameAt adM_field adM_draft adM_given adM_low adM_high adM_packet adM_known _ _ hP hD hS _ (lv_sub hl [1, 2, 3] rfl)
      · have hG := zf hG hc
        refine lv_iconst (v := (0 : Int32)) hx hb d_M_datagram_93 (by decide) ?_
        refine lv_goto (tgt := 99) hx hb d_M_datagram_94 (by decide) ?_
        exact k_M_datagram_99 kr hrec X hA zz N sM_70 v2 v3 (0 : Int32) _ hG adM adM_tape adM_frameAt adM_field adM_draft adM_given adM_low adM_high adM_packet adM_known _ _ hP hD hS _ (lv_sub hl [1, 2, 3] rfl)
    · have hG := zf hG hc
      refine lv_iload hx hb d_M_datagram_81 (lv_at hl 0 rfl) ?_
      refine lv_goto (tgt := 99) hx hb d_M_datagram_83 (by decide) ?_
      exact k_M_datagram_99 kr hrec X hA zz N sM_70 v2 v3 r_70 _ hG adM adM_tape adM_frameAt adM_field adM_draft adM_given adM_low adM_high adM_packet adM_known _ _ hP hD hS _ (lv_sub hl [1, 2, 3] rfl)
theorem k_M_datagram_62 {p : Program} {l : Launch} {e : Env} {R : Room} {s : State} {m : MethodId} {args : Array Value} {below : List Frame} {meth : Method} {c : Code} {dC : Nat → ClassId} {dI : Nat → Nat → Nat} {cB cI cL : ClassId} {A : Nat → Prop} (X : zx p s m args meth c R R_M b_M_datagram (some .int) 6 5 118) (hA : ∀ q, s.heap.size ≤ q → A q) (zz : zk dC dI cB cI cL A s)  (N : Nat) : ∀ (k : Nat) (sM : zM) (v2 : Int32) (v3 : Int32) (v4 : Int32) (a : Int32 × zM) (hG : g_M_datagram_62 N k sM v2 v3 v4 = some a) (adM adM_tape adM_frameAt adM_field adM_draft adM_given adM_low adM_high adM_packet adM_known : Nat) (H : Heap) (locs : List Loc) (hP : va_P (dC, dI) zcl (zwM adM adM_tape adM_frameAt adM_field adM_draft adM_given adM_low adM_high adM_packet adM_known cB cI cL sM) H) (hD : va_D A (zwM adM adM_tape adM_frameAt adM_field adM_draft adM_given adM_low adM_high adM_packet adM_known cB cI cL sM)) (hS : va_S A s.heap H locs) (ls : Array Slot) (hl : lv_has ls 6 [(0, .ref adM), (2, .int v2), (3, .int v3), (4, .int v4)]), W p l e R s m args below meth c H locs 0 0 (MQ below (q_M_datagram dC dI cB cI cL A adM adM_tape adM_frameAt adM_field adM_draft adM_given adM_low adM_high adM_packet adM_known a) args s 0 0 A) (F0 m 62 ls []) := by
  intro k
  induction k with
  | zero => intro sM v2 v3 v4 a hG; exact absurd hG (by unfold g_M_datagram_62; simp)
  | succ k ih => intro sM v2 v3 v4 a hG adM adM_tape adM_frameAt adM_field adM_draft adM_given adM_low adM_high adM_packet adM_known H locs hP hD hS ls hl; exact k_M_datagram_62_b _ ih X hA zz N sM v2 v3 v4 a hG adM adM_tape adM_frameAt adM_field adM_draft adM_given adM_low adM_high adM_packet adM_known H locs hP hD hS ls hl
set_option maxRecDepth 100000 in
set_option maxHeartbeats 4000000 in
theorem k_M_datagram_60 {p : Program} {l : Launch} {e : Env} {R : Room} {s : State} {m : MethodId} {args : Array Value} {below : List Frame} {meth : Method} {c : Code} {dC : Nat → ClassId} {dI : Nat → Nat → Nat} {cB cI cL : ClassId} {A : Nat → Prop} (X : zx p s m args meth c R R_M b_M_datagram (some .int) 6 5 118) (hA : ∀ q, s.heap.size ≤ q → A q) (zz : zk dC dI cB cI cL A s)  (N : Nat) (sM : zM) (v2 : Int32) (v3 : Int32) (s0 : Int32) (a : Int32 × zM) (hG : g_M_datagram_60 N sM v2 v3 s0 = some a) (adM adM_tape adM_frameAt adM_field adM_draft adM_given adM_low adM_high adM_packet adM_known : Nat) (H : Heap) (locs : List Loc) (hP : va_P (dC, dI) zcl (zwM adM adM_tape adM_frameAt adM_field adM_draft adM_given adM_low adM_high adM_packet adM_known cB cI cL sM) H) (hD : va_D A (zwM adM adM_tape adM_frameAt adM_field adM_draft adM_given adM_low adM_high adM_packet adM_known cB cI cL sM)) (hS : va_S A s.heap H locs) (ls : Array Slot) (hl : lv_has ls 6 [(0, .ref adM), (2, .int v2), (3, .int v3)]) : W p l e R s m args below meth c H locs 0 0 (MQ below (q_M_datagram dC dI cB cI cL A adM adM_tape adM_frameAt adM_field adM_draft adM_given adM_low adM_high adM_packet adM_known a) args s 0 0 A) (F0 m 60 ls [.int s0]) := by
  obtain ⟨hx, hb, hr, hml, hown, hts, hlocks, hRf, hRl⟩ := id X
  unfold g_M_datagram_60 at hG
  refine lv_istore (lv' := [(4, .int s0), (0, .ref adM), (2, .int v2), (3, .int v3)]) hx hb d_M_datagram_60 hl (by decide) rfl (fun ls hl => ?_)
  exact k_M_datagram_62 X hA zz N N sM v2 v3 s0 _ hG adM adM_tape adM_frameAt adM_field adM_draft adM_given adM_low adM_high adM_packet adM_known _ _ hP hD hS _ (lv_sub hl [1, 2, 3, 0] rfl)
set_option maxRecDepth 100000 in
set_option maxHeartbeats 4000000 in
theorem k_M_datagram_32 {p : Program} {l : Launch} {e : Env} {R : Room} {s : State} {m : MethodId} {args : Array Value} {below : List Frame} {meth : Method} {c : Code} {dC : Nat → ClassId} {dI : Nat → Nat → Nat} {cB cI cL : ClassId} {A : Nat → Prop} (X : zx p s m args meth c R R_M b_M_datagram (some .int) 6 5 118) (hA : ∀ q, s.heap.size ≤ q → A q) (zz : zk dC dI cB cI cL A s)  (N : Nat) (sM : zM) (v1 : Int32) (v2 : Int32) (s0 : Int32) (a : Int32 × zM) (hG : g_M_datagram_32 N sM v1 v2 s0 = some a) (adM adM_tape adM_frameAt adM_field adM_draft adM_given adM_low adM_high adM_packet adM_known : Nat) (H : Heap) (locs : List Loc) (hP : va_P (dC, dI) zcl (zwM adM adM_tape adM_frameAt adM_field adM_draft adM_given adM_low adM_high adM_packet adM_known cB cI cL sM) H) (hD : va_D A (zwM adM adM_tape adM_frameAt adM_field adM_draft adM_given adM_low adM_high adM_packet adM_known cB cI cL sM)) (hS : va_S A s.heap H locs) (ls : Array Slot) (hl : lv_has ls 6 [(0, .ref adM), (1, .int v1), (2, .int v2)]) : W p l e R s m args below meth c H locs 0 0 (MQ below (q_M_datagram dC dI cB cI cL A adM adM_tape adM_frameAt adM_field adM_draft adM_given adM_low adM_high adM_packet adM_known a) args s 0 0 A) (F0 m 32 ls [.int s0, .ref adM]) := by
  obtain ⟨hx, hb, hr, hml, hown, hts, hlocks, hRf, hRl⟩ := id X
  unfold g_M_datagram_32 at hG
  refine lv_iconst (v := (1 : Int32)) hx hb d_M_datagram_32 (by decide) ?_
  obtain ⟨a_33, hx_33, hG⟩ := zb hG
  have hr_33 := zrunV (p := p) (e := e) (below := below) (meth := meth) (As := [.int s0, .int (1 : Int32)]) (rest := []) (st0 := [.int (1 : Int32), .int s0, .ref adM]) (cells := 0) (slots := 0) X zz hP hD hS hA [0, 1, 2, 3, 4, 5, 6, 7, 8, 9] (by decide) rfl (c_M_fails l dC dI cB cI cL H.size adM adM_tape adM_frameAt adM_field adM_draft adM_given adM_low adM_high adM_packet adM_known sM s0 (1 : Int32) _ hx_33) zy_M_fails zv_M_fails (hts (.methodLink R_M 62 y_M_fails) zin_M_62) hl rfl rfl d_M_datagram_33 (lv_room (Nat.le_of_ble_eq_true rfl)) rfl rfl ⟨Nat.le_trans (Nat.le_of_ble_eq_true rfl) hRf, Nat.le_trans (Nat.le_of_ble_eq_true rfl) hRl⟩ ⟨Nat.zero_le _, Nat.zero_le _⟩ 0 8 rfl rfl
  refine zcalli (wr := ([] : va_W)) hr_33 hP hD hS hA [0, 1, 2, 3, 4, 5, 6, 7, 8, 9] [] rfl rfl (by decide) (by decide) (fun r_33 u_33 H locs hw_33 hP hD hS => ?_)
  obtain ⟨sM_33, rfl⟩ : ∃ z, z = u_33 := ⟨_, rfl⟩
  subst hw_33
  have hP : va_P (dC, dI) zcl (zwM adM adM_tape adM_frameAt adM_field adM_draft adM_given adM_low adM_high adM_packet adM_known cB cI cL sM_33) H := hP
  have hD : va_D A (zwM adM adM_tape adM_frameAt adM_field adM_draft adM_given adM_low adM_high adM_packet adM_known cB cI cL sM_33) := hD
  have hG : g_M_datagram_c33 N v1 v2 sM_33 r_33 = some a := hG
  unfold g_M_datagram_c33 at hG
  refine lv_if_eq (tgt := 41) hx hb d_M_datagram_36 (by decide) (fun hc => ?_) (fun hc => ?_)
  · have hG := zt hG hc
    refine lv_aload_n hx hb d_M_datagram_41 rfl (lv_at hl 0 rfl) ?_
    obtain ⟨a_42, hx_42, hG⟩ := zb hG
    have hr_42 := zrunV (p := p) (e := e) (below := below) (meth := meth) (As := []) (rest := []) (st0 := [.ref adM]) (cells := 0) (slots := 0) X zz hP hD hS hA [0, 1, 2, 3, 4, 5, 6, 7, 8, 9] (by decide) rfl (c_M_begin l dC dI cB cI cL H.size adM adM_tape adM_frameAt adM_field adM_draft adM_given adM_low adM_high adM_packet adM_known sM_33 _ hx_42) zy_M_begin zv_M_begin (hts (.methodLink R_M 100 y_M_begin) zin_M_100) hl rfl rfl d_M_datagram_42 (lv_room (Nat.le_of_ble_eq_true rfl)) rfl rfl ⟨Nat.le_trans (Nat.le_of_ble_eq_true rfl) hRf, Nat.le_trans (Nat.le_of_ble_eq_true rfl) hRl⟩ ⟨Nat.zero_le _, Nat.zero_le _⟩ 0 8 rfl rfl
    refine zcallv (wr := ([] : va_W)) hr_42 hP hD hS hA [0, 1, 2, 3, 4, 5, 6, 7, 8, 9] [] rfl rfl (by decide) (by decide) (fun u_42 H locs hw_42 hP hD hS => ?_)
    obtain ⟨sM_42, rfl⟩ : ∃ z, z = u_42 := ⟨_, rfl⟩
    subst hw_42
    have hP : va_P (dC, dI) zcl (zwM adM adM_tape adM_frameAt adM_field adM_draft adM_given adM_low adM_high adM_packet adM_known cB cI cL sM_42) H := hP
    have hD : va_D A (zwM adM adM_tape adM_frameAt adM_field adM_draft adM_given adM_low adM_high adM_packet adM_known cB cI cL sM_42) := hD
    have hG : g_M_datagram_c42 N v1 v2 sM_42 = some a := hG
    unfold g_M_datagram_c42 at hG
    refine lv_iload_n hx hb d_M_datagram_45 rfl (lv_at hl 1 rfl) ?_
    refine lv_istore_n (lv' := [(3, .int v1), (0, .ref adM), (1, .int v1), (2, .int v2)]) hx hb d_M_datagram_46 rfl hl (by decide) rfl (fun ls hl => ?_)
    refine lv_iload_n hx hb d_M_datagram_47 rfl (lv_at hl 0 rfl) ?_
    refine lv_aload_n hx hb d_M_datagram_48 rfl (lv_at hl 1 rfl) ?_
    refine va_get (D := (dC, dI)) (ci := 8) (v := .int (zM_size sM_42)) (C := R_M) (T := F_M) (N := 26) hx hb hts zi_M hown zz.1 hP 0 rfl rfl 2 (by decide) (hts (.fieldLink R_M 57 "WireCodecModel" "size" "I") zin_M_57) (fun _ h9 => h9) rfl d_M_datagram_49 ?_
    refine lv_icmp_ge (tgt := 59) hx hb d_M_datagram_52 (by decide) (fun hc => ?_) (fun hc => ?_)
    · have hG := zt hG hc
      refine lv_iconst (v := (0 : Int32)) hx hb d_M_datagram_59 (by decide) ?_
      exact k_M_datagram_60 X hA zz N sM_42 v2 v1 (0 : Int32) _ hG adM adM_tape adM_frameAt adM_field adM_draft adM_given adM_low adM_high adM_packet adM_known _ _ hP hD hS _ (lv_sub hl [1, 3, 0] rfl)
    · have hG := zf hG hc
      refine lv_iconst (v := (1 : Int32)) hx hb d_M_datagram_55 (by decide) ?_
      refine lv_goto (tgt := 60) hx hb d_M_datagram_56 (by decide) ?_
      exact k_M_datagram_60 X hA zz N sM_42 v2 v1 (1 : Int32) _ hG adM adM_tape adM_frameAt adM_field adM_draft adM_given adM_low adM_high adM_packet adM_known _ _ hP hD hS _ (lv_sub hl [1, 3, 0] rfl)
  · have hG := zf hG hc
    refine lv_iconst (v := (0 : Int32)) hx hb d_M_datagram_39 (by decide) ?_
    exact W.iret (v := (0 : Int32)) hx hb hr (fun t9 ht9 hW9 => ⟨⟨(0 : Int32), (sM_33), rfl, Option.some.inj hG, by rw [ht9]; exact hP, hD⟩, hS.F ht9⟩) hS.2.2 d_M_datagram_40
set_option maxRecDepth 100000 in
set_option maxHeartbeats 4000000 in
theorem k_M_datagram_27 {p : Program} {l : Launch} {e : Env} {R : Room} {s : State} {m : MethodId} {args : Array Value} {below : List Frame} {meth : Method} {c : Code} {dC : Nat → ClassId} {dI : Nat → Nat → Nat} {cB cI cL : ClassId} {A : Nat → Prop} (X : zx p s m args meth c R R_M b_M_datagram (some .int) 6 5 118) (hA : ∀ q, s.heap.size ≤ q → A q) (zz : zk dC dI cB cI cL A s)  (N : Nat) (sM : zM) (v1 : Int32) (v2 : Int32) (a : Int32 × zM) (hG : g_M_datagram_27 N sM v1 v2 = some a) (adM adM_tape adM_frameAt adM_field adM_draft adM_given adM_low adM_high adM_packet adM_known : Nat) (H : Heap) (locs : List Loc) (hP : va_P (dC, dI) zcl (zwM adM adM_tape adM_frameAt adM_field adM_draft adM_given adM_low adM_high adM_packet adM_known cB cI cL sM) H) (hD : va_D A (zwM adM adM_tape adM_frameAt adM_field adM_draft adM_given adM_low adM_high adM_packet adM_known cB cI cL sM)) (hS : va_S A s.heap H locs) (ls : Array Slot) (hl : lv_has ls 6 [(0, .ref adM), (1, .int v1), (2, .int v2)]) : W p l e R s m args below meth c H locs 0 0 (MQ below (q_M_datagram dC dI cB cI cL A adM adM_tape adM_frameAt adM_field adM_draft adM_given adM_low adM_high adM_packet adM_known a) args s 0 0 A) (F0 m 27 ls [.ref adM]) := by
  obtain ⟨hx, hb, hr, hml, hown, hts, hlocks, hRf, hRl⟩ := id X
  unfold g_M_datagram_27 at hG
  refine lv_iconst (v := (1 : Int32)) hx hb d_M_datagram_27 (by decide) ?_
  refine lv_goto (tgt := 32) hx hb d_M_datagram_28 (by decide) ?_
  exact k_M_datagram_32 X hA zz N sM v1 v2 (1 : Int32) _ hG adM adM_tape adM_frameAt adM_field adM_draft adM_given adM_low adM_high adM_packet adM_known _ _ hP hD hS _ (lv_sub hl [0, 1, 2] rfl)
set_option maxRecDepth 100000 in
set_option maxHeartbeats 4000000 in
theorem k_M_datagram_0 {p : Program} {l : Launch} {e : Env} {R : Room} {s : State} {m : MethodId} {args : Array Value} {below : List Frame} {meth : Method} {c : Code} {dC : Nat → ClassId} {dI : Nat → Nat → Nat} {cB cI cL : ClassId} {A : Nat → Prop} (X : zx p s m args meth c R R_M b_M_datagram (some .int) 6 5 118) (hA : ∀ q, s.heap.size ≤ q → A q) (zz : zk dC dI cB cI cL A s)  (N : Nat) (sM : zM) (v1 : Int32) (v2 : Int32) (a : Int32 × zM) (hG : g_M_datagram N sM v1 v2 = some a) (adM adM_tape adM_frameAt adM_field adM_draft adM_given adM_low adM_high adM_packet adM_known : Nat) (H : Heap) (locs : List Loc) (hP : va_P (dC, dI) zcl (zwM adM adM_tape adM_frameAt adM_field adM_draft adM_given adM_low adM_high adM_packet adM_known cB cI cL sM) H) (hD : va_D A (zwM adM adM_tape adM_frameAt adM_field adM_draft adM_given adM_low adM_high adM_packet adM_known cB cI cL sM)) (hS : va_S A s.heap H locs) (ls : Array Slot) (hl : lv_has ls 6 [(0, .ref adM), (1, .int v1), (2, .int v2)]) : W p l e R s m args below meth c H locs 0 0 (MQ below (q_M_datagram dC dI cB cI cL A adM adM_tape adM_frameAt adM_field adM_draft adM_given adM_low adM_high adM_packet adM_known a) args s 0 0 A) (F0 m 0 ls []) := by
  obtain ⟨hx, hb, hr, hml, hown, hts, hlocks, hRf, hRl⟩ := id X
  unfold g_M_datagram at hG
  refine lv_aload_n hx hb d_M_datagram_0 rfl (lv_at hl 0 rfl) ?_
  refine lv_iload_n hx hb d_M_datagram_1 rfl (lv_at hl 1 rfl) ?_
  refine lv_i2l hx hb d_M_datagram_2 rfl ?_
  refine lv_lconst (v := (0 : Int64)) hx hb d_M_datagram_3 (by decide) ?_
  refine lv_aload_n hx hb d_M_datagram_4 rfl (lv_at hl 0 rfl) ?_
  refine va_get (D := (dC, dI)) (ci := 8) (v := .int (zM_size sM)) (C := R_M) (T := F_M) (N := 26) hx hb hts zi_M hown zz.1 hP 0 rfl rfl 2 (by decide) (hts (.fieldLink R_M 57 "WireCodecModel" "size" "I") zin_M_57) (fun _ h9 => h9) rfl d_M_datagram_5 ?_
  refine lv_i2l hx hb d_M_datagram_8 rfl ?_
  obtain ⟨a_9, hx_9, hG⟩ := zb hG
  have hr_9 := zrunS (p := p) (e := e) (below := below) (meth := meth) (As := [.long v1.toInt64, .long (0 : Int64), .long ((zM_size sM).toInt64)]) (rest := [.ref adM]) (st0 := [.long ((zM_size sM).toInt64), .long (0 : Int64), .long v1.toInt64, .ref adM]) (cells := 0) (slots := 0) X zz hP hD hS hA [] (by decide) rfl (c_M_within l dC dI cB cI cL H.size v1.toInt64 (0 : Int64) ((zM_size sM).toInt64) _ hx_9) zy_M_within zv_M_within (hts (.methodLink R_M 53 y_M_within) zin_M_53) hl rfl rfl d_M_datagram_9 (lv_room (Nat.le_of_ble_eq_true rfl)) rfl rfl ⟨Nat.le_trans (Nat.le_of_ble_eq_true rfl) hRf, Nat.le_trans (Nat.le_of_ble_eq_true rfl) hRl⟩ ⟨Nat.zero_le _, Nat.zero_le _⟩
  refine zcalli (wr := (zwM adM adM_tape adM_frameAt adM_field adM_draft adM_given adM_low adM_high adM_packet adM_known cB cI cL sM)) hr_9 hP hD hS hA [] [0, 1, 2, 3, 4, 5, 6, 7, 8, 9] rfl rfl (by decide) (by decide) (fun r_9 u_9 H locs hw_9 hP hD hS => ?_)
  subst hw_9
  have hP : va_P (dC, dI) zcl (zwM adM adM_tape adM_frameAt adM_field adM_draft adM_given adM_low adM_high adM_packet adM_known cB cI cL sM) H := hP
  have hD : va_D A (zwM adM adM_tape adM_frameAt adM_field adM_draft adM_given adM_low adM_high adM_packet adM_known cB cI cL sM) := hD
  have hG : g_M_datagram_c9 N sM v1 v2 r_9 = some a := hG
  unfold g_M_datagram_c9 at hG
  refine lv_if_eq (tgt := 27) hx hb d_M_datagram_12 (by decide) (fun hc => ?_) (fun hc => ?_)
  · have hG := zt hG hc
    exact k_M_datagram_27 X hA zz N sM v1 v2 _ hG adM adM_tape adM_frameAt adM_field adM_draft adM_given adM_low adM_high adM_packet adM_known _ _ hP hD hS _ (lv_sub hl [0, 1, 2] rfl)
  · have hG := zf hG hc
    refine lv_iload_n hx hb d_M_datagram_15 rfl (lv_at hl 2 rfl) ?_
    refine lv_i2l hx hb d_M_datagram_16 rfl ?_
    refine lv_lconst (v := (0 : Int64)) hx hb d_M_datagram_17 (by decide) ?_
    refine lv_ldc2 (v := (20 : Int64)) hx hb hown (hts (.constantLong R_M 254 (20 : Int64)) zin_M_254) d_M_datagram_18 ?_
    obtain ⟨a_21, hx_21, hG⟩ := zb hG
    have hr_21 := zrunS (p := p) (e := e) (below := below) (meth := meth) (As := [.long v2.toInt64, .long (0 : Int64), .long (20 : Int64)]) (rest := [.ref adM]) (st0 := [.long (20 : Int64), .long (0 : Int64), .long v2.toInt64, .ref adM]) (cells := 0) (slots := 0) X zz hP hD hS hA [] (by decide) rfl (c_M_within l dC dI cB cI cL H.size v2.toInt64 (0 : Int64) (20 : Int64) _ hx_21) zy_M_within zv_M_within (hts (.methodLink R_M 53 y_M_within) zin_M_53) hl rfl rfl d_M_datagram_21 (lv_room (Nat.le_of_ble_eq_true rfl)) rfl rfl ⟨Nat.le_trans (Nat.le_of_ble_eq_true rfl) hRf, Nat.le_trans (Nat.le_of_ble_eq_true rfl) hRl⟩ ⟨Nat.zero_le _, Nat.zero_le _⟩
    refine zcalli (wr := (zwM adM adM_tape adM_frameAt adM_field adM_draft adM_given adM_low adM_high adM_packet adM_known cB cI cL sM)) hr_21 hP hD hS hA [] [0, 1, 2, 3, 4, 5, 6, 7, 8, 9] rfl rfl (by decide) (by decide) (fun r_21 u_21 H locs hw_21 hP hD hS => ?_)
    subst hw_21
    have hP : va_P (dC, dI) zcl (zwM adM adM_tape adM_frameAt adM_field adM_draft adM_given adM_low adM_high adM_packet adM_known cB cI cL sM) H := hP
    have hD : va_D A (zwM adM adM_tape adM_frameAt adM_field adM_draft adM_given adM_low adM_high adM_packet adM_known cB cI cL sM) := hD
    have hG : g_M_datagram_c21 N sM v1 v2 r_21 = some a := hG
    unfold g_M_datagram_c21 at hG
    refine lv_if_ne (tgt := 31) hx hb d_M_datagram_24 (by decide) (fun hc => ?_) (fun hc => ?_)
    · have hG := zf hG hc
      refine lv_iconst (v := (0 : Int32)) hx hb d_M_datagram_31 (by decide) ?_
      exact k_M_datagram_32 X hA zz N sM v1 v2 (0 : Int32) _ hG adM adM_tape adM_frameAt adM_field adM_draft adM_given adM_low adM_high adM_packet adM_known _ _ hP hD hS _ (lv_sub hl [0, 1, 2] rfl)
    · have hG := zt hG hc
      exact k_M_datagram_27 X hA zz N sM v1 v2 _ hG adM adM_tape adM_frameAt adM_field adM_draft adM_given adM_low adM_high adM_packet adM_known _ _ hP hD hS _ (lv_sub hl [0, 1, 2] rfl)
set_option maxRecDepth 100000 in
set_option maxHeartbeats 4000000 in
theorem c_M_datagram (l : Launch) (dC : Nat → ClassId) (dI : Nat → Nat → Nat) (cB cI cL : ClassId) (sz : Nat) (adM adM_tape adM_frameAt adM_field adM_draft adM_given adM_low adM_high adM_packet adM_known : Nat) (N : Nat) (sM : zM) (v1 : Int32) (v2 : Int32) (a : Int32 × zM) (hG : g_M_datagram N sM v1 v2 = some a) : Met l y_M_datagram (zw y_M_datagram b_M_datagram 6 (some .int)) ({ frames := 5, cells := 0, slots := 0, locals := 118 }) (va_Pc [.ref adM, .int v1, .int v2] (zpre dC dI cB cI cL sz (zwM adM adM_tape adM_frameAt adM_field adM_draft adM_given adM_low adM_high adM_packet adM_known cB cI cL sM))) (q_M_datagram dC dI cB cI cL (va_A (zwM adM adM_tape adM_frameAt adM_field adM_draft adM_given adM_low adM_high adM_packet adM_known cB cI cL sM) sz) adM adM_tape adM_frameAt adM_field adM_draft adM_given adM_low adM_high adM_packet adM_known a) 0 0 (va_A (zwM adM adM_tape adM_frameAt adM_field adM_draft adM_given adM_low adM_high adM_packet adM_known cB cI cL sM) sz) := by
  refine Met.ofW (cc := b_M_datagram) (maxL := 6) (ret := (some .int)) (by decide) rfl ?_
  intro p e s m args below meth c s₁ B hml hv
  obtain ⟨rfl, hsz, hP, zz, hD0⟩ := hv
  subst hsz
  have X := zx_of (F := 5) (L := 118) B hml (Nat.le_refl _) (Nat.le_refl _)
  have hD := hD0.self (sz := s.heap.size)
  have hA : ∀ q : Nat, s.heap.size ≤ q → va_A (zwM adM adM_tape adM_frameAt adM_field adM_draft adM_given adM_low adM_high adM_packet adM_known cB cI cL sM) s.heap.size q := fun q h => Or.inr h
  have hl := lv_entry ([.ref adM, .int v1, .int v2]) (n := 6) (Nat.le_of_ble_eq_true rfl)
  rw [lg_entry_eq]
  generalize (lg_sl ([.ref adM, .int v1, .int v2]) ++ List.replicate (6 - (lg_sl ([.ref adM, .int v1, .int v2])).length) Slot.unset).toArray = ls at hl ⊢
  exact k_M_datagram_0 X hA zz N sM v1 v2 a hG adM adM_tape adM_frameAt adM_field adM_draft adM_given adM_low adM_high adM_packet adM_known _ _ hP hD va_S.rf ls hl

theorem zy_W_frame : zy y_W_frame b_W_frame 3 (some .long) 2 := ⟨zmem 651 (by decide +kernel) (by decide +kernel), zmem 62 (by decide +kernel) (by decide +kernel), by decide +kernel⟩
theorem zv_W_frame : Cond.instanceMethod y_W_frame ∈ ztb ∧ Cond.selects y_W_frame.cls y_W_frame y_W_frame ∈ ztb := ⟨zmem 649 (by decide +kernel) (by decide +kernel), zmem 650 (by decide +kernel) (by decide +kernel)⟩
theorem d_W_frame_0 : decode b_W_frame 0 = .ok (.aload_n 0, 1) := by decide +kernel
theorem d_W_frame_1 : decode b_W_frame 1 = .ok (.iload_n 1, 1) := by decide +kernel
theorem d_W_frame_2 : decode b_W_frame 2 = .ok (.invokevirtual 161, 3) := by decide +kernel
theorem d_W_frame_5 : decode b_W_frame 5 = .ok (.aload_n 0, 1) := by decide +kernel
theorem d_W_frame_6 : decode b_W_frame 6 = .ok (.getfield 35, 3) := by decide +kernel
theorem d_W_frame_9 : decode b_W_frame 9 = .ok (.aload_n 0, 1) := by decide +kernel
theorem d_W_frame_10 : decode b_W_frame 10 = .ok (.getfield 21, 3) := by decide +kernel
theorem d_W_frame_13 : decode b_W_frame 13 = .ok (.iconst 2, 1) := by decide +kernel
theorem d_W_frame_14 : decode b_W_frame 14 = .ok (.invokevirtual 142, 3) := by decide +kernel
theorem d_W_frame_17 : decode b_W_frame 17 = .ok (.pop, 1) := by decide +kernel
theorem d_W_frame_18 : decode b_W_frame 18 = .ok (.iload_n 2, 1) := by decide +kernel
theorem d_W_frame_19 : decode b_W_frame 19 = .ok (.ifCond .lt 9, 3) := by decide +kernel
theorem d_W_frame_22 : decode b_W_frame 22 = .ok (.iload_n 2, 1) := by decide +kernel
theorem d_W_frame_23 : decode b_W_frame 23 = .ok (.bipush 12, 2) := by decide +kernel
theorem d_W_frame_25 : decode b_W_frame 25 = .ok (.if_icmp .lt 13, 3) := by decide +kernel
theorem d_W_frame_28 : decode b_W_frame 28 = .ok (.new 164, 3) := by decide +kernel
theorem d_W_frame_31 : decode b_W_frame 31 = .ok (.dup, 1) := by decide +kernel
theorem d_W_frame_32 : decode b_W_frame 32 = .ok (.ldc 166, 2) := by decide +kernel
theorem d_W_frame_34 : decode b_W_frame 34 = .ok (.invokespecial 168, 3) := by decide +kernel
theorem d_W_frame_37 : decode b_W_frame 37 = .ok (.athrow, 1) := by decide +kernel
theorem d_W_frame_38 : decode b_W_frame 38 = .ok (.aload_n 0, 1) := by decide +kernel
theorem d_W_frame_39 : decode b_W_frame 39 = .ok (.getfield 35, 3) := by decide +kernel
theorem d_W_frame_42 : decode b_W_frame 42 = .ok (.getfield 169, 3) := by decide +kernel
theorem d_W_frame_45 : decode b_W_frame 45 = .ok (.iload_n 2, 1) := by decide +kernel
theorem d_W_frame_46 : decode b_W_frame 46 = .ok (.laload, 1) := by decide +kernel
theorem d_W_frame_47 : decode b_W_frame 47 = .ok (.lreturn, 1) := by decide +kernel
theorem zy_W_data : zy y_W_data b_W_data 6 (some .int) 3 := ⟨zmem 668 (by decide +kernel) (by decide +kernel), zmem 62 (by decide +kernel) (by decide +kernel), by decide +kernel⟩
theorem zv_W_data : Cond.instanceMethod y_W_data ∈ ztb ∧ Cond.selects y_W_data.cls y_W_data y_W_data ∈ ztb := ⟨zmem 666 (by decide +kernel) (by decide +kernel), zmem 667 (by decide +kernel) (by decide +kernel)⟩
theorem d_W_data_0 : decode b_W_data 0 = .ok (.aload_n 0, 1) := by decide +kernel
theorem d_W_data_1 : decode b_W_data 1 = .ok (.iload_n 1, 1) := by decide +kernel
theorem d_W_data_2 : decode b_W_data 2 = .ok (.invokevirtual 161, 3) := by decide +kernel
theorem d_W_data_5 : decode b_W_data 5 = .ok (.aload_n 0, 1) := by decide +kernel
theorem d_W_data_6 : decode b_W_data 6 = .ok (.getfield 35, 3) := by decide +kernel
theorem d_W_data_9 : decode b_W_data 9 = .ok (.aload_n 0, 1) := by decide +kernel
theorem d_W_data_10 : decode b_W_data 10 = .ok (.getfield 21, 3) := by decide +kernel
theorem d_W_data_13 : decode b_W_data 13 = .ok (.iconst 2, 1) := by decide +kernel
theorem d_W_data_14 : decode b_W_data 14 = .ok (.invokevirtual 142, 3) := by decide +kernel
theorem d_W_data_17 : decode b_W_data 17 = .ok (.pop, 1) := by decide +kernel
theorem d_W_data_18 : decode b_W_data 18 = .ok (.iload_n 3, 1) := by decide +kernel
theorem d_W_data_19 : decode b_W_data 19 = .ok (.ifCond .eq 14, 3) := by decide +kernel
theorem d_W_data_22 : decode b_W_data 22 = .ok (.aload_n 0, 1) := by decide +kernel
theorem d_W_data_23 : decode b_W_data 23 = .ok (.getfield 35, 3) := by decide +kernel
theorem d_W_data_26 : decode b_W_data 26 = .ok (.getfield 173, 3) := by decide +kernel
theorem d_W_data_29 : decode b_W_data 29 = .ok (.i2l, 1) := by decide +kernel
theorem d_W_data_30 : decode b_W_data 30 = .ok (.goto 12, 3) := by decide +kernel
theorem d_W_data_33 : decode b_W_data 33 = .ok (.aload_n 0, 1) := by decide +kernel
theorem d_W_data_34 : decode b_W_data 34 = .ok (.getfield 35, 3) := by decide +kernel
theorem d_W_data_37 : decode b_W_data 37 = .ok (.getfield 169, 3) := by decide +kernel
theorem d_W_data_40 : decode b_W_data 40 = .ok (.iconst 5, 1) := by decide +kernel
theorem d_W_data_41 : decode b_W_data 41 = .ok (.laload, 1) := by decide +kernel
theorem d_W_data_42 : decode b_W_data 42 = .ok (.lstore 4, 2) := by decide +kernel
theorem d_W_data_44 : decode b_W_data 44 = .ok (.iload_n 2, 1) := by decide +kernel
theorem d_W_data_45 : decode b_W_data 45 = .ok (.ifCond .lt 11, 3) := by decide +kernel
theorem d_W_data_48 : decode b_W_data 48 = .ok (.iload_n 2, 1) := by decide +kernel
theorem d_W_data_49 : decode b_W_data 49 = .ok (.i2l, 1) := by decide +kernel
theorem d_W_data_50 : decode b_W_data 50 = .ok (.lload 4, 2) := by decide +kernel
theorem d_W_data_52 : decode b_W_data 52 = .ok (.lcmp, 1) := by decide +kernel
theorem d_W_data_53 : decode b_W_data 53 = .ok (.ifCond .lt 13, 3) := by decide +kernel
theorem d_W_data_56 : decode b_W_data 56 = .ok (.new 164, 3) := by decide +kernel
theorem d_W_data_59 : decode b_W_data 59 = .ok (.dup, 1) := by decide +kernel
theorem d_W_data_60 : decode b_W_data 60 = .ok (.ldc 176, 2) := by decide +kernel
theorem d_W_data_62 : decode b_W_data 62 = .ok (.invokespecial 168, 3) := by decide +kernel
theorem d_W_data_65 : decode b_W_data 65 = .ok (.athrow, 1) := by decide +kernel
theorem d_W_data_66 : decode b_W_data 66 = .ok (.aload_n 0, 1) := by decide +kernel
theorem d_W_data_67 : decode b_W_data 67 = .ok (.getfield 12, 3) := by decide +kernel
theorem d_W_data_70 : decode b_W_data 70 = .ok (.iload_n 3, 1) := by decide +kernel
theorem d_W_data_71 : decode b_W_data 71 = .ok (.ifCond .eq 13, 3) := by decide +kernel
theorem d_W_data_74 : decode b_W_data 74 = .ok (.aload_n 0, 1) := by decide +kernel
theorem d_W_data_75 : decode b_W_data 75 = .ok (.getfield 35, 3) := by decide +kernel
theorem d_W_data_78 : decode b_W_data 78 = .ok (.getfield 178, 3) := by decide +kernel
theorem d_W_data_81 : decode b_W_data 81 = .ok (.goto 10, 3) := by decide +kernel
theorem d_W_data_84 : decode b_W_data 84 = .ok (.aload_n 0, 1) := by decide +kernel
theorem d_W_data_85 : decode b_W_data 85 = .ok (.getfield 35, 3) := by decide +kernel
theorem d_W_data_88 : decode b_W_data 88 = .ok (.getfield 181, 3) := by decide +kernel
theorem d_W_data_91 : decode b_W_data 91 = .ok (.iload_n 2, 1) := by decide +kernel
theorem d_W_data_92 : decode b_W_data 92 = .ok (.iadd, 1) := by decide +kernel
theorem d_W_data_93 : decode b_W_data 93 = .ok (.invokevirtual 110, 3) := by decide +kernel
theorem d_W_data_96 : decode b_W_data 96 = .ok (.ireturn, 1) := by decide +kernel
theorem zy_W_range : zy y_W_range b_W_range 4 (some .long) 3 := ⟨zmem 676 (by decide +kernel) (by decide +kernel), zmem 62 (by decide +kernel) (by decide +kernel), by decide +kernel⟩
theorem zv_W_range : Cond.instanceMethod y_W_range ∈ ztb ∧ Cond.selects y_W_range.cls y_W_range y_W_range ∈ ztb := ⟨zmem 674 (by decide +kernel) (by decide +kernel), zmem 675 (by decide +kernel) (by decide +kernel)⟩
theorem d_W_range_0 : decode b_W_range 0 = .ok (.aload_n 0, 1) := by decide +kernel
theorem d_W_range_1 : decode b_W_range 1 = .ok (.iload_n 1, 1) := by decide +kernel
theorem d_W_range_2 : decode b_W_range 2 = .ok (.invokevirtual 161, 3) := by decide +kernel
theorem d_W_range_5 : decode b_W_range 5 = .ok (.aload_n 0, 1) := by decide +kernel
theorem d_W_range_6 : decode b_W_range 6 = .ok (.getfield 35, 3) := by decide +kernel
theorem d_W_range_9 : decode b_W_range 9 = .ok (.aload_n 0, 1) := by decide +kernel
theorem d_W_range_10 : decode b_W_range 10 = .ok (.getfield 21, 3) := by decide +kernel
theorem d_W_range_13 : decode b_W_range 13 = .ok (.iconst 2, 1) := by decide +kernel
theorem d_W_range_14 : decode b_W_range 14 = .ok (.invokevirtual 142, 3) := by decide +kernel
theorem d_W_range_17 : decode b_W_range 17 = .ok (.pop, 1) := by decide +kernel
theorem d_W_range_18 : decode b_W_range 18 = .ok (.iload_n 2, 1) := by decide +kernel
theorem d_W_range_19 : decode b_W_range 19 = .ok (.ifCond .lt 19, 3) := by decide +kernel
theorem d_W_range_22 : decode b_W_range 22 = .ok (.iload_n 2, 1) := by decide +kernel
theorem d_W_range_23 : decode b_W_range 23 = .ok (.i2l, 1) := by decide +kernel
theorem d_W_range_24 : decode b_W_range 24 = .ok (.aload_n 0, 1) := by decide +kernel
theorem d_W_range_25 : decode b_W_range 25 = .ok (.getfield 35, 3) := by decide +kernel
theorem d_W_range_28 : decode b_W_range 28 = .ok (.getfield 169, 3) := by decide +kernel
theorem d_W_range_31 : decode b_W_range 31 = .ok (.bipush 6, 2) := by decide +kernel
theorem d_W_range_33 : decode b_W_range 33 = .ok (.laload, 1) := by decide +kernel
theorem d_W_range_34 : decode b_W_range 34 = .ok (.lcmp, 1) := by decide +kernel
theorem d_W_range_35 : decode b_W_range 35 = .ok (.ifCond .lt 13, 3) := by decide +kernel
theorem d_W_range_38 : decode b_W_range 38 = .ok (.new 164, 3) := by decide +kernel
theorem d_W_range_41 : decode b_W_range 41 = .ok (.dup, 1) := by decide +kernel
theorem d_W_range_42 : decode b_W_range 42 = .ok (.ldc 184, 2) := by decide +kernel
theorem d_W_range_44 : decode b_W_range 44 = .ok (.invokespecial 168, 3) := by decide +kernel
theorem d_W_range_47 : decode b_W_range 47 = .ok (.athrow, 1) := by decide +kernel
theorem d_W_range_48 : decode b_W_range 48 = .ok (.aload_n 0, 1) := by decide +kernel
theorem d_W_range_49 : decode b_W_range 49 = .ok (.getfield 21, 3) := by decide +kernel
theorem d_W_range_52 : decode b_W_range 52 = .ok (.aload_n 0, 1) := by decide +kernel
theorem d_W_range_53 : decode b_W_range 53 = .ok (.getfield 35, 3) := by decide +kernel
theorem d_W_range_56 : decode b_W_range 56 = .ok (.getfield 186, 3) := by decide +kernel
theorem d_W_range_59 : decode b_W_range 59 = .ok (.aload_n 0, 1) := by decide +kernel
theorem d_W_range_60 : decode b_W_range 60 = .ok (.getfield 28, 3) := by decide +kernel
theorem d_W_range_63 : decode b_W_range 63 = .ok (.getfield 132, 3) := by decide +kernel
theorem d_W_range_66 : decode b_W_range 66 = .ok (.invokevirtual 114, 3) := by decide +kernel
theorem d_W_range_69 : decode b_W_range 69 = .ok (.aload_n 0, 1) := by decide +kernel
theorem d_W_range_70 : decode b_W_range 70 = .ok (.getfield 35, 3) := by decide +kernel
theorem d_W_range_73 : decode b_W_range 73 = .ok (.aload_n 0, 1) := by decide +kernel
theorem d_W_range_74 : decode b_W_range 74 = .ok (.getfield 21, 3) := by decide +kernel
theorem d_W_range_77 : decode b_W_range 77 = .ok (.iload_n 2, 1) := by decide +kernel
theorem d_W_range_78 : decode b_W_range 78 = .ok (.invokevirtual 189, 3) := by decide +kernel
theorem d_W_range_81 : decode b_W_range 81 = .ok (.iload_n 3, 1) := by decide +kernel
theorem d_W_range_82 : decode b_W_range 82 = .ok (.ifCond .eq 13, 3) := by decide +kernel
theorem d_W_range_85 : decode b_W_range 85 = .ok (.aload_n 0, 1) := by decide +kernel
theorem d_W_range_86 : decode b_W_range 86 = .ok (.getfield 35, 3) := by decide +kernel
theorem d_W_range_89 : decode b_W_range 89 = .ok (.getfield 193, 3) := by decide +kernel
theorem d_W_range_92 : decode b_W_range 92 = .ok (.goto 10, 3) := by decide +kernel
theorem d_W_range_95 : decode b_W_range 95 = .ok (.aload_n 0, 1) := by decide +kernel
theorem d_W_range_96 : decode b_W_range 96 = .ok (.getfield 35, 3) := by decide +kernel
theorem d_W_range_99 : decode b_W_range 99 = .ok (.getfield 197, 3) := by decide +kernel
theorem d_W_range_102 : decode b_W_range 102 = .ok (.lreturn, 1) := by decide +kernel
theorem zy_W_head : zy y_W_head b_W_head 4 (some .int) 2 := ⟨zmem 780 (by decide +kernel) (by decide +kernel), zmem 62 (by decide +kernel) (by decide +kernel), by decide +kernel⟩
theorem zv_W_head : Cond.instanceMethod y_W_head ∈ ztb ∧ Cond.selects y_W_head.cls y_W_head y_W_head ∈ ztb := ⟨zmem 778 (by decide +kernel) (by decide +kernel), zmem 779 (by decide +kernel) (by decide +kernel)⟩
theorem d_W_head_0 : decode b_W_head 0 = .ok (.aload_n 0, 1) := by decide +kernel
theorem d_W_head_1 : decode b_W_head 1 = .ok (.iload_n 1, 1) := by decide +kernel
theorem d_W_head_2 : decode b_W_head 2 = .ok (.invokevirtual 127, 3) := by decide +kernel
theorem d_W_head_5 : decode b_W_head 5 = .ok (.iload_n 2, 1) := by decide +kernel
theorem d_W_head_6 : decode b_W_head 6 = .ok (.invokestatic 238, 3) := by decide +kernel
theorem d_W_head_9 : decode b_W_head 9 = .ok (.aload_n 0, 1) := by decide +kernel
theorem d_W_head_10 : decode b_W_head 10 = .ok (.getfield 28, 3) := by decide +kernel
theorem d_W_head_13 : decode b_W_head 13 = .ok (.aload_n 0, 1) := by decide +kernel
theorem d_W_head_14 : decode b_W_head 14 = .ok (.getfield 12, 3) := by decide +kernel
theorem d_W_head_17 : decode b_W_head 17 = .ok (.getfield 95, 3) := by decide +kernel
theorem d_W_head_20 : decode b_W_head 20 = .ok (.iload_n 2, 1) := by decide +kernel
theorem d_W_head_21 : decode b_W_head 21 = .ok (.invokevirtual 99, 3) := by decide +kernel
theorem d_W_head_24 : decode b_W_head 24 = .ok (.aload_n 0, 1) := by decide +kernel
theorem d_W_head_25 : decode b_W_head 25 = .ok (.getfield 21, 3) := by decide +kernel
theorem d_W_head_28 : decode b_W_head 28 = .ok (.iload_n 1, 1) := by decide +kernel
theorem d_W_head_29 : decode b_W_head 29 = .ok (.aload_n 0, 1) := by decide +kernel
theorem d_W_head_30 : decode b_W_head 30 = .ok (.getfield 28, 3) := by decide +kernel
theorem d_W_head_33 : decode b_W_head 33 = .ok (.getfield 132, 3) := by decide +kernel
theorem d_W_head_36 : decode b_W_head 36 = .ok (.invokevirtual 114, 3) := by decide +kernel
theorem d_W_head_39 : decode b_W_head 39 = .ok (.aload_n 0, 1) := by decide +kernel
theorem d_W_head_40 : decode b_W_head 40 = .ok (.getfield 42, 3) := by decide +kernel
theorem d_W_head_43 : decode b_W_head 43 = .ok (.aload_n 0, 1) := by decide +kernel
theorem d_W_head_44 : decode b_W_head 44 = .ok (.getfield 21, 3) := by decide +kernel
theorem d_W_head_47 : decode b_W_head 47 = .ok (.iload_n 2, 1) := by decide +kernel
theorem d_W_head_48 : decode b_W_head 48 = .ok (.invokevirtual 241, 3) := by decide +kernel
theorem d_W_head_51 : decode b_W_head 51 = .ok (.istore_n 3, 1) := by decide +kernel
theorem d_W_head_52 : decode b_W_head 52 = .ok (.iload_n 3, 1) := by decide +kernel
theorem d_W_head_53 : decode b_W_head 53 = .ok (.ifCond .eq 14, 3) := by decide +kernel
theorem d_W_head_56 : decode b_W_head 56 = .ok (.aload_n 0, 1) := by decide +kernel
theorem d_W_head_57 : decode b_W_head 57 = .ok (.getfield 28, 3) := by decide +kernel
theorem d_W_head_60 : decode b_W_head 60 = .ok (.iload_n 3, 1) := by decide +kernel
theorem d_W_head_61 : decode b_W_head 61 = .ok (.iload_n 1, 1) := by decide +kernel
theorem d_W_head_62 : decode b_W_head 62 = .ok (.invokevirtual 146, 3) := by decide +kernel
theorem d_W_head_65 : decode b_W_head 65 = .ok (.iconst (-1), 1) := by decide +kernel
theorem d_W_head_66 : decode b_W_head 66 = .ok (.ireturn, 1) := by decide +kernel
theorem d_W_head_67 : decode b_W_head 67 = .ok (.aload_n 0, 1) := by decide +kernel
theorem d_W_head_68 : decode b_W_head 68 = .ok (.getfield 28, 3) := by decide +kernel
theorem d_W_head_71 : decode b_W_head 71 = .ok (.iload_n 1, 1) := by decide +kernel
theorem d_W_head_72 : decode b_W_head 72 = .ok (.invokevirtual 242, 3) := by decide +kernel
theorem d_W_head_75 : decode b_W_head 75 = .ok (.aload_n 0, 1) := by decide +kernel
theorem d_W_head_76 : decode b_W_head 76 = .ok (.getfield 42, 3) := by decide +kernel
theorem d_W_head_79 : decode b_W_head 79 = .ok (.getfield 245, 3) := by decide +kernel
theorem d_W_head_82 : decode b_W_head 82 = .ok (.iconst 4, 1) := by decide +kernel
theorem d_W_head_83 : decode b_W_head 83 = .ok (.iaload, 1) := by decide +kernel
theorem d_W_head_84 : decode b_W_head 84 = .ok (.ireturn, 1) := by decide +kernel
theorem zy_W_datagram : zy y_W_datagram b_W_datagram 8 (some .int) 2 := ⟨zmem 823 (by decide +kernel) (by decide +kernel), zmem 62 (by decide +kernel) (by decide +kernel), by decide +kernel⟩
theorem zv_W_datagram : Cond.instanceMethod y_W_datagram ∈ ztb ∧ Cond.selects y_W_datagram.cls y_W_datagram y_W_datagram ∈ ztb := ⟨zmem 821 (by decide +kernel) (by decide +kernel), zmem 822 (by decide +kernel) (by decide +kernel)⟩
theorem d_W_datagram_0 : decode b_W_datagram 0 = .ok (.aload_n 0, 1) := by decide +kernel
theorem d_W_datagram_1 : decode b_W_datagram 1 = .ok (.iload_n 1, 1) := by decide +kernel
theorem d_W_datagram_2 : decode b_W_datagram 2 = .ok (.invokevirtual 127, 3) := by decide +kernel
theorem d_W_datagram_5 : decode b_W_datagram 5 = .ok (.iload_n 2, 1) := by decide +kernel
theorem d_W_datagram_6 : decode b_W_datagram 6 = .ok (.invokestatic 238, 3) := by decide +kernel
theorem d_W_datagram_9 : decode b_W_datagram 9 = .ok (.aload_n 0, 1) := by decide +kernel
theorem d_W_datagram_10 : decode b_W_datagram 10 = .ok (.getfield 28, 3) := by decide +kernel
theorem d_W_datagram_13 : decode b_W_datagram 13 = .ok (.aload_n 0, 1) := by decide +kernel
theorem d_W_datagram_14 : decode b_W_datagram 14 = .ok (.getfield 12, 3) := by decide +kernel
theorem d_W_datagram_17 : decode b_W_datagram 17 = .ok (.getfield 95, 3) := by decide +kernel
theorem d_W_datagram_20 : decode b_W_datagram 20 = .ok (.iload_n 2, 1) := by decide +kernel
theorem d_W_datagram_21 : decode b_W_datagram 21 = .ok (.invokevirtual 99, 3) := by decide +kernel
theorem d_W_datagram_24 : decode b_W_datagram 24 = .ok (.iload_n 1, 1) := by decide +kernel
theorem d_W_datagram_25 : decode b_W_datagram 25 = .ok (.istore_n 3, 1) := by decide +kernel
theorem d_W_datagram_26 : decode b_W_datagram 26 = .ok (.iconst 0, 1) := by decide +kernel
theorem d_W_datagram_27 : decode b_W_datagram 27 = .ok (.istore 4, 2) := by decide +kernel
theorem d_W_datagram_29 : decode b_W_datagram 29 = .ok (.iconst 0, 1) := by decide +kernel
theorem d_W_datagram_30 : decode b_W_datagram 30 = .ok (.istore 5, 2) := by decide +kernel
theorem d_W_datagram_32 : decode b_W_datagram 32 = .ok (.iconst 0, 1) := by decide +kernel
theorem d_W_datagram_33 : decode b_W_datagram 33 = .ok (.istore 6, 2) := by decide +kernel
theorem d_W_datagram_35 : decode b_W_datagram 35 = .ok (.iload 6, 2) := by decide +kernel
theorem d_W_datagram_37 : decode b_W_datagram 37 = .ok (.ldc 135, 2) := by decide +kernel
theorem d_W_datagram_39 : decode b_W_datagram 39 = .ok (.if_icmp .ge 146, 3) := by decide +kernel
theorem d_W_datagram_42 : decode b_W_datagram 42 = .ok (.iload_n 3, 1) := by decide +kernel
theorem d_W_datagram_43 : decode b_W_datagram 43 = .ok (.aload_n 0, 1) := by decide +kernel
theorem d_W_datagram_44 : decode b_W_datagram 44 = .ok (.getfield 28, 3) := by decide +kernel
theorem d_W_datagram_47 : decode b_W_datagram 47 = .ok (.getfield 132, 3) := by decide +kernel
theorem d_W_datagram_50 : decode b_W_datagram 50 = .ok (.if_icmp .ge 135, 3) := by decide +kernel
theorem d_W_datagram_53 : decode b_W_datagram 53 = .ok (.aload_n 0, 1) := by decide +kernel
theorem d_W_datagram_54 : decode b_W_datagram 54 = .ok (.getfield 21, 3) := by decide +kernel
theorem d_W_datagram_57 : decode b_W_datagram 57 = .ok (.iload_n 3, 1) := by decide +kernel
theorem d_W_datagram_58 : decode b_W_datagram 58 = .ok (.aload_n 0, 1) := by decide +kernel
theorem d_W_datagram_59 : decode b_W_datagram 59 = .ok (.getfield 28, 3) := by decide +kernel
theorem d_W_datagram_62 : decode b_W_datagram 62 = .ok (.getfield 132, 3) := by decide +kernel
theorem d_W_datagram_65 : decode b_W_datagram 65 = .ok (.invokevirtual 114, 3) := by decide +kernel
theorem d_W_datagram_68 : decode b_W_datagram 68 = .ok (.aload_n 0, 1) := by decide +kernel
theorem d_W_datagram_69 : decode b_W_datagram 69 = .ok (.getfield 42, 3) := by decide +kernel
theorem d_W_datagram_72 : decode b_W_datagram 72 = .ok (.aload_n 0, 1) := by decide +kernel
theorem d_W_datagram_73 : decode b_W_datagram 73 = .ok (.getfield 21, 3) := by decide +kernel
theorem d_W_datagram_76 : decode b_W_datagram 76 = .ok (.iload_n 2, 1) := by decide +kernel
theorem d_W_datagram_77 : decode b_W_datagram 77 = .ok (.invokevirtual 241, 3) := by decide +kernel
theorem d_W_datagram_80 : decode b_W_datagram 80 = .ok (.istore 7, 2) := by decide +kernel
theorem d_W_datagram_82 : decode b_W_datagram 82 = .ok (.iload 7, 2) := by decide +kernel
theorem d_W_datagram_84 : decode b_W_datagram 84 = .ok (.ifCond .ne 32, 3) := by decide +kernel
theorem d_W_datagram_87 : decode b_W_datagram 87 = .ok (.iload 6, 2) := by decide +kernel
theorem d_W_datagram_89 : decode b_W_datagram 89 = .ok (.ifCond .ne 27, 3) := by decide +kernel
theorem d_W_datagram_92 : decode b_W_datagram 92 = .ok (.aload_n 0, 1) := by decide +kernel
theorem d_W_datagram_93 : decode b_W_datagram 93 = .ok (.getfield 42, 3) := by decide +kernel
theorem d_W_datagram_96 : decode b_W_datagram 96 = .ok (.getfield 245, 3) := by decide +kernel
theorem d_W_datagram_99 : decode b_W_datagram 99 = .ok (.bipush 6, 2) := by decide +kernel
theorem d_W_datagram_101 : decode b_W_datagram 101 = .ok (.iaload, 1) := by decide +kernel
theorem d_W_datagram_102 : decode b_W_datagram 102 = .ok (.istore 4, 2) := by decide +kernel
theorem d_W_datagram_104 : decode b_W_datagram 104 = .ok (.aload_n 0, 1) := by decide +kernel
theorem d_W_datagram_105 : decode b_W_datagram 105 = .ok (.getfield 42, 3) := by decide +kernel
theorem d_W_datagram_108 : decode b_W_datagram 108 = .ok (.getfield 245, 3) := by decide +kernel
theorem d_W_datagram_111 : decode b_W_datagram 111 = .ok (.bipush 7, 2) := by decide +kernel
theorem d_W_datagram_113 : decode b_W_datagram 113 = .ok (.iaload, 1) := by decide +kernel
theorem d_W_datagram_114 : decode b_W_datagram 114 = .ok (.istore 5, 2) := by decide +kernel
theorem d_W_datagram_116 : decode b_W_datagram 116 = .ok (.iload 7, 2) := by decide +kernel
theorem d_W_datagram_118 : decode b_W_datagram 118 = .ok (.ifCond .ne 25, 3) := by decide +kernel
theorem d_W_datagram_121 : decode b_W_datagram 121 = .ok (.aload_n 0, 1) := by decide +kernel
theorem d_W_datagram_122 : decode b_W_datagram 122 = .ok (.getfield 42, 3) := by decide +kernel
theorem d_W_datagram_125 : decode b_W_datagram 125 = .ok (.aload_n 0, 1) := by decide +kernel
theorem d_W_datagram_126 : decode b_W_datagram 126 = .ok (.getfield 12, 3) := by decide +kernel
theorem d_W_datagram_129 : decode b_W_datagram 129 = .ok (.iload 4, 2) := by decide +kernel
theorem d_W_datagram_131 : decode b_W_datagram 131 = .ok (.iload 5, 2) := by decide +kernel
theorem d_W_datagram_133 : decode b_W_datagram 133 = .ok (.invokevirtual 248, 3) := by decide +kernel
theorem d_W_datagram_136 : decode b_W_datagram 136 = .ok (.ifCond .ne 7, 3) := by decide +kernel
theorem d_W_datagram_139 : decode b_W_datagram 139 = .ok (.bipush 6, 2) := by decide +kernel
theorem d_W_datagram_141 : decode b_W_datagram 141 = .ok (.istore 7, 2) := by decide +kernel
theorem d_W_datagram_143 : decode b_W_datagram 143 = .ok (.iload 7, 2) := by decide +kernel
theorem d_W_datagram_145 : decode b_W_datagram 145 = .ok (.ifCond .eq 16, 3) := by decide +kernel
theorem d_W_datagram_148 : decode b_W_datagram 148 = .ok (.aload_n 0, 1) := by decide +kernel
theorem d_W_datagram_149 : decode b_W_datagram 149 = .ok (.getfield 28, 3) := by decide +kernel
theorem d_W_datagram_152 : decode b_W_datagram 152 = .ok (.iload 7, 2) := by decide +kernel
theorem d_W_datagram_154 : decode b_W_datagram 154 = .ok (.iload_n 3, 1) := by decide +kernel
theorem d_W_datagram_155 : decode b_W_datagram 155 = .ok (.invokevirtual 146, 3) := by decide +kernel
theorem d_W_datagram_158 : decode b_W_datagram 158 = .ok (.goto 27, 3) := by decide +kernel
theorem d_W_datagram_161 : decode b_W_datagram 161 = .ok (.aload_n 0, 1) := by decide +kernel
theorem d_W_datagram_162 : decode b_W_datagram 162 = .ok (.getfield 28, 3) := by decide +kernel
theorem d_W_datagram_165 : decode b_W_datagram 165 = .ok (.iload_n 3, 1) := by decide +kernel
theorem d_W_datagram_166 : decode b_W_datagram 166 = .ok (.invokevirtual 242, 3) := by decide +kernel
theorem d_W_datagram_169 : decode b_W_datagram 169 = .ok (.aload_n 0, 1) := by decide +kernel
theorem d_W_datagram_170 : decode b_W_datagram 170 = .ok (.getfield 42, 3) := by decide +kernel
theorem d_W_datagram_173 : decode b_W_datagram 173 = .ok (.getfield 245, 3) := by decide +kernel
theorem d_W_datagram_176 : decode b_W_datagram 176 = .ok (.iconst 5, 1) := by decide +kernel
theorem d_W_datagram_177 : decode b_W_datagram 177 = .ok (.iaload, 1) := by decide +kernel
theorem d_W_datagram_178 : decode b_W_datagram 178 = .ok (.istore_n 3, 1) := by decide +kernel
theorem d_W_datagram_179 : decode b_W_datagram 179 = .ok (.iinc 6 1, 3) := by decide +kernel
theorem d_W_datagram_182 : decode b_W_datagram 182 = .ok (.goto (-147), 3) := by decide +kernel
theorem d_W_datagram_185 : decode b_W_datagram 185 = .ok (.aload_n 0, 1) := by decide +kernel
theorem d_W_datagram_186 : decode b_W_datagram 186 = .ok (.getfield 28, 3) := by decide +kernel
theorem d_W_datagram_189 : decode b_W_datagram 189 = .ok (.getfield 252, 3) := by decide +kernel
theorem d_W_datagram_192 : decode b_W_datagram 192 = .ok (.ireturn, 1) := by decide +kernel
theorem zy_W_packet : zy y_W_packet b_W_packet 3 (some .long) 2 := ⟨zmem 835 (by decide +kernel) (by decide +kernel), zmem 62 (by decide +kernel) (by decide +kernel), by decide +kernel⟩
theorem zv_W_packet : Cond.instanceMethod y_W_packet ∈ ztb ∧ Cond.selects y_W_packet.cls y_W_packet y_W_packet ∈ ztb := ⟨zmem 833 (by decide +kernel) (by decide +kernel), zmem 834 (by decide +kernel) (by decide +kernel)⟩
theorem d_W_packet_0 : decode b_W_packet 0 = .ok (.iload_n 1, 1) := by decide +kernel
theorem d_W_packet_1 : decode b_W_packet 1 = .ok (.ifCond .lt 24, 3) := by decide +kernel
theorem d_W_packet_4 : decode b_W_packet 4 = .ok (.iload_n 1, 1) := by decide +kernel
theorem d_W_packet_5 : decode b_W_packet 5 = .ok (.aload_n 0, 1) := by decide +kernel
theorem d_W_packet_6 : decode b_W_packet 6 = .ok (.getfield 28, 3) := by decide +kernel
theorem d_W_packet_9 : decode b_W_packet 9 = .ok (.getfield 252, 3) := by decide +kernel
theorem d_W_packet_12 : decode b_W_packet 12 = .ok (.if_icmp .ge 13, 3) := by decide +kernel
theorem d_W_packet_15 : decode b_W_packet 15 = .ok (.iload_n 2, 1) := by decide +kernel
theorem d_W_packet_16 : decode b_W_packet 16 = .ok (.ifCond .lt 9, 3) := by decide +kernel
theorem d_W_packet_19 : decode b_W_packet 19 = .ok (.iload_n 2, 1) := by decide +kernel
theorem d_W_packet_20 : decode b_W_packet 20 = .ok (.bipush 12, 2) := by decide +kernel
theorem d_W_packet_22 : decode b_W_packet 22 = .ok (.if_icmp .lt 13, 3) := by decide +kernel
theorem d_W_packet_25 : decode b_W_packet 25 = .ok (.new 164, 3) := by decide +kernel
theorem d_W_packet_28 : decode b_W_packet 28 = .ok (.dup, 1) := by decide +kernel
theorem d_W_packet_29 : decode b_W_packet 29 = .ok (.ldc 255, 2) := by decide +kernel
theorem d_W_packet_31 : decode b_W_packet 31 = .ok (.invokespecial 168, 3) := by decide +kernel
theorem d_W_packet_34 : decode b_W_packet 34 = .ok (.athrow, 1) := by decide +kernel
theorem d_W_packet_35 : decode b_W_packet 35 = .ok (.aload_n 0, 1) := by decide +kernel
theorem d_W_packet_36 : decode b_W_packet 36 = .ok (.getfield 21, 3) := by decide +kernel
theorem d_W_packet_39 : decode b_W_packet 39 = .ok (.aload_n 0, 1) := by decide +kernel
theorem d_W_packet_40 : decode b_W_packet 40 = .ok (.getfield 28, 3) := by decide +kernel
theorem d_W_packet_43 : decode b_W_packet 43 = .ok (.iload_n 1, 1) := by decide +kernel
theorem d_W_packet_44 : decode b_W_packet 44 = .ok (.invokevirtual 257, 3) := by decide +kernel
theorem d_W_packet_47 : decode b_W_packet 47 = .ok (.aload_n 0, 1) := by decide +kernel
theorem d_W_packet_48 : decode b_W_packet 48 = .ok (.getfield 28, 3) := by decide +kernel
theorem d_W_packet_51 : decode b_W_packet 51 = .ok (.getfield 132, 3) := by decide +kernel
theorem d_W_packet_54 : decode b_W_packet 54 = .ok (.invokevirtual 114, 3) := by decide +kernel
theorem d_W_packet_57 : decode b_W_packet 57 = .ok (.aload_n 0, 1) := by decide +kernel
theorem d_W_packet_58 : decode b_W_packet 58 = .ok (.getfield 42, 3) := by decide +kernel
theorem d_W_packet_61 : decode b_W_packet 61 = .ok (.aload_n 0, 1) := by decide +kernel
theorem d_W_packet_62 : decode b_W_packet 62 = .ok (.getfield 21, 3) := by decide +kernel
theorem d_W_packet_65 : decode b_W_packet 65 = .ok (.aload_n 0, 1) := by decide +kernel
theorem d_W_packet_66 : decode b_W_packet 66 = .ok (.getfield 28, 3) := by decide +kernel
theorem d_W_packet_69 : decode b_W_packet 69 = .ok (.getfield 260, 3) := by decide +kernel
theorem d_W_packet_72 : decode b_W_packet 72 = .ok (.invokevirtual 241, 3) := by decide +kernel
theorem d_W_packet_75 : decode b_W_packet 75 = .ok (.pop, 1) := by decide +kernel
theorem d_W_packet_76 : decode b_W_packet 76 = .ok (.aload_n 0, 1) := by decide +kernel
theorem d_W_packet_77 : decode b_W_packet 77 = .ok (.getfield 42, 3) := by decide +kernel
theorem d_W_packet_80 : decode b_W_packet 80 = .ok (.getfield 245, 3) := by decide +kernel
theorem d_W_packet_83 : decode b_W_packet 83 = .ok (.iload_n 2, 1) := by decide +kernel
theorem d_W_packet_84 : decode b_W_packet 84 = .ok (.iaload, 1) := by decide +kernel
theorem d_W_packet_85 : decode b_W_packet 85 = .ok (.i2l, 1) := by decide +kernel
theorem d_W_packet_86 : decode b_W_packet 86 = .ok (.lreturn, 1) := by decide +kernel
theorem zin_W_161 : Cond.methodLink R_W 161 y_W_startAtFrame ∈ ztb := zmem 652 (by decide +kernel) (by decide +kernel)
theorem zin_W_169 : Cond.fieldLink R_W 169 "WireCodec$Frame" "parts" "[J" ∈ ztb := zmem 176 (by decide +kernel) (by decide +kernel)
theorem zin_W_181 : Cond.fieldLink R_W 181 "WireCodec$Frame" "dataPlace" "I" ∈ ztb := zmem 178 (by decide +kernel) (by decide +kernel)
theorem zin_W_178 : Cond.fieldLink R_W 178 "WireCodec$Frame" "secretPlace" "I" ∈ ztb := zmem 180 (by decide +kernel) (by decide +kernel)
theorem zin_W_173 : Cond.fieldLink R_W 173 "WireCodec$Frame" "secretBytes" "I" ∈ ztb := zmem 182 (by decide +kernel) (by decide +kernel)
theorem zin_W_186 : Cond.fieldLink R_W 186 "WireCodec$Frame" "rangesPlace" "I" ∈ ztb := zmem 184 (by decide +kernel) (by decide +kernel)
theorem zin_W_189 : Cond.methodLink R_W 189 y_F_walkRanges ∈ ztb := zmem 678 (by decide +kernel) (by decide +kernel)
theorem zin_W_197 : Cond.fieldLink R_W 197 "WireCodec$Frame" "low" "J" ∈ ztb := zmem 186 (by decide +kernel) (by decide +kernel)
theorem zin_W_193 : Cond.fieldLink R_W 193 "WireCodec$Frame" "high" "J" ∈ ztb := zmem 188 (by decide +kernel) (by decide +kernel)
theorem zin_W_238 : Cond.methodLink R_W 238 y_W_requireNames ∈ ztb := zmem 781 (by decide +kernel) (by decide +kernel)
theorem zin_W_42 : Cond.fieldLink R_W 42 "WireCodec" "loadedHeader" "LWireCodec$Header;" ∈ ztb := zmem 281 (by decide +kernel) (by decide +kernel)
theorem zin_W_241 : Cond.methodLink R_W 241 y_H_parse ∈ ztb := zmem 785 (by decide +kernel) (by decide +kernel)
theorem zin_W_242 : Cond.methodLink R_W 242 y_G_keepPacket ∈ ztb := zmem 813 (by decide +kernel) (by decide +kernel)
theorem zin_W_245 : Cond.fieldLink R_W 245 "WireCodec$Header" "parts" "[I" ∈ ztb := zmem 212 (by decide +kernel) (by decide +kernel)
theorem zin_W_252 : Cond.fieldLink R_W 252 "WireCodec$Reading" "packetCount" "I" ∈ ztb := zmem 144 (by decide +kernel) (by decide +kernel)
theorem zin_W_248 : Cond.methodLink R_W 248 y_H_goesTo ∈ ztb := zmem 824 (by decide +kernel) (by decide +kernel)
theorem zin_W_260 : Cond.fieldLink R_W 260 "WireCodec$Reading" "names" "I" ∈ ztb := zmem 148 (by decide +kernel) (by decide +kernel)
noncomputable def g_W_frame_28 (N : Nat) (sT : zT) (sR : zR) (sG : zG) (sF : zF) : Option ((Int64 ⊕ Nat) × zR × zF) := some (.inr 3, sR, sF)
noncomputable def g_W_frame_c14 (N : Nat) (sT : zT) (sG : zG) (v2 : Int32) (sR_14 : zR) (sF_14 : zF) : Option ((Int64 ⊕ Nat) × zR × zF) := if v2 < (0 : Int32) then (g_W_frame_28 N sT sR_14 sG sF_14) else (if v2 < (12 : Int32) then (zg (vp_in v2 12) (some (.inl ((zF_parts sF_14) v2.toNatClampNeg), sR_14, sF_14))) else (g_W_frame_28 N sT sR_14 sG sF_14))
noncomputable def g_W_frame_c2 (N : Nat) (sT : zT) (sG : zG) (sF : zF) (v2 : Int32) (sR_2 : zR) : Option ((Int64 ⊕ Nat) × zR × zF) := (g_F_parse N sT sR_2 sF (2 : Int32)).bind (fun a => g_W_frame_c14 N sT sG v2 a.2.1 a.2.2)
noncomputable def g_W_frame (N : Nat) (sT : zT) (sR : zR) (sG : zG) (sF : zF) (v1 : Int32) (v2 : Int32) : Option ((Int64 ⊕ Nat) × zR × zF) := (g_W_startAtFrame sR sG v1).bind (fun a => zmx (a.1) (fun r9 => g_W_frame_c2 N sT sG sF v2 a.2) (fun k9 => some (.inr k9, a.2, sF)))
def q_W_frame (dC : Nat → ClassId) (dI : Nat → Nat → Nat) (cB cI cL : ClassId) (A : Nat → Prop) (adW : Nat) (adT : Nat) (adT_bytes : Nat) (adR : Nat) (adG : Nat) (adG_places : Nat) (adF : Nat) (adF_parts : Nat) (adH : Nat) (adD : Nat) (adP : Nat) (sT : zT) (sG : zG) (a : (Int64 ⊕ Nat) × zR × zF) : Array Value → State → Outcome → State → Prop := zQx (α := Int64) (fun r => some (.long r)) (fun r (u : zR × zF) => (r, u.1, u.2) = a) (dC, dI) (fun u => (zwW adW adT adR adG adF adH adD adP ++ zwT adT adT_bytes cB cI cL sT ++ zwR adR adT cB cI cL u.1 ++ zwG adG adG_places cB cI cL sG ++ zwF adF adF_parts cB cI cL u.2)) A
set_option maxRecDepth 100000 in
set_option maxHeartbeats 4000000 in
theorem k_W_frame_28 {p : Program} {l : Launch} {e : Env} {R : Room} {s : State} {m : MethodId} {args : Array Value} {below : List Frame} {meth : Method} {c : Code} {dC : Nat → ClassId} {dI : Nat → Nat → Nat} {cB cI cL : ClassId} {A : Nat → Prop} {adH adD adP : Nat} (X : zx p s m args meth c R R_W b_W_frame (some .long) 3 7 145) (hA : ∀ q, s.heap.size ≤ q → A q) (zz : zk dC dI cB cI cL A s) (htr : l.stackTraces = false) (hnh : c.exceptionTable.isEmpty = true) (hAs : ∀ q, A q → ∀ cell, s.heap[q]? = some cell → cell.vm.isStatics = false) (hRc : 2 ≤ R.cells) (hRz : 12 ≤ R.slots)  (N : Nat) (sT : zT) (sR : zR) (sG : zG) (sF : zF) (a : (Int64 ⊕ Nat) × zR × zF) (hG : g_W_frame_28 N sT sR sG sF = some a) (adW adT adT_bytes adR adG adG_places adF adF_parts : Nat) (H : Heap) (locs : List Loc) (hP : va_P (dC, dI) zcl (zwW adW adT adR adG adF adH adD adP ++ zwT adT adT_bytes cB cI cL sT ++ zwR adR adT cB cI cL sR ++ zwG adG adG_places cB cI cL sG ++ zwF adF adF_parts cB cI cL sF) H) (hD : va_D A (zwW adW adT adR adG adF adH adD adP ++ zwT adT adT_bytes cB cI cL sT ++ zwR adR adT cB cI cL sR ++ zwG adG adG_places cB cI cL sG ++ zwF adF adF_parts cB cI cL sF)) (hS : va_S A s.heap H locs) (ls : Array Slot) (hl : lv_has ls 3 []) : W p l e R s m args below meth c H locs 1 6 (zMQ below (q_W_frame dC dI cB cI cL A adW adT adT_bytes adR adG adG_places adF adF_parts adH adD adP sT sG a) args s 2 12 A) (F0 m 28 ls []) := by
  obtain ⟨hx, hb, hr, hml, hown, hts, hlocks, hRf, hRl⟩ := id X
  unfold g_W_frame_28 at hG
  exact zthrow htr X zz hnh hAs hA hS 3 (text := "a frame has no such part") zin_W_164 zini_3 (by decide +kernel) zat_W_168 zfit_3 hl d_W_frame_28 d_W_frame_31 d_W_frame_32 d_W_frame_34 d_W_frame_37 (Nat.le_trans (Nat.le_of_ble_eq_true rfl) hRf) (Nat.le_trans (Nat.le_of_ble_eq_true rfl) hRl) hRc hRz (by decide) (by decide) (fun t9 q9 hz9 ho9 ht9 => ⟨(sR, sF), va_P.kept hP (zold hP ho9), hD, zFr hS hz9 ho9, Or.inr ⟨3, q9, rfl, Option.some.inj hG, ht9⟩⟩)
set_option maxRecDepth 100000 in
set_option maxHeartbeats 4000000 in
theorem k_W_frame_0 {p : Program} {l : Launch} {e : Env} {R : Room} {s : State} {m : MethodId} {args : Array Value} {below : List Frame} {meth : Method} {c : Code} {dC : Nat → ClassId} {dI : Nat → Nat → Nat} {cB cI cL : ClassId} {A : Nat → Prop} {adH adD adP : Nat} (X : zx p s m args meth c R R_W b_W_frame (some .long) 3 7 145) (hA : ∀ q, s.heap.size ≤ q → A q) (zz : zk dC dI cB cI cL A s) (htr : l.stackTraces = false) (hnh : c.exceptionTable.isEmpty = true) (hAs : ∀ q, A q → ∀ cell, s.heap[q]? = some cell → cell.vm.isStatics = false) (hRc : 2 ≤ R.cells) (hRz : 12 ≤ R.slots)  (N : Nat) (sT : zT) (sR : zR) (sG : zG) (sF : zF) (v1 : Int32) (v2 : Int32) (a : (Int64 ⊕ Nat) × zR × zF) (hG : g_W_frame N sT sR sG sF v1 v2 = some a) (adW adT adT_bytes adR adG adG_places adF adF_parts : Nat) (H : Heap) (locs : List Loc) (hP : va_P (dC, dI) zcl (zwW adW adT adR adG adF adH adD adP ++ zwT adT adT_bytes cB cI cL sT ++ zwR adR adT cB cI cL sR ++ zwG adG adG_places cB cI cL sG ++ zwF adF adF_parts cB cI cL sF) H) (hD : va_D A (zwW adW adT adR adG adF adH adD adP ++ zwT adT adT_bytes cB cI cL sT ++ zwR adR adT cB cI cL sR ++ zwG adG adG_places cB cI cL sG ++ zwF adF adF_parts cB cI cL sF)) (hS : va_S A s.heap H locs) (ls : Array Slot) (hl : lv_has ls 3 [(0, .ref adW), (1, .int v1), (2, .int v2)]) : W p l e R s m args below meth c H locs 0 0 (zMQ below (q_W_frame dC dI cB cI cL A adW adT adT_bytes adR adG adG_places adF adF_parts adH adD adP sT sG a) args s 2 12 A) (F0 m 0 ls []) := by
  obtain ⟨hx, hb, hr, hml, hown, hts, hlocks, hRf, hRl⟩ := id X
  unfold g_W_frame at hG
  refine lv_aload_n hx hb d_W_frame_0 rfl (lv_at hl 0 rfl) ?_
  refine lv_iload_n hx hb d_W_frame_1 rfl (lv_at hl 1 rfl) ?_
  obtain ⟨a_2, hx_2, hG⟩ := zb hG
  have hr_2 := zrunXV (p := p) (e := e) (below := below) (meth := meth) (As := [.int v1]) (rest := []) (st0 := [.int v1, .ref adW]) (cells := 0) (slots := 0) X zz hP hD hS hA [0, 3, 4, 5] (by decide) rfl (c_W_startAtFrame l dC dI cB cI cL H.size adW adR adG adG_places adT adF adH adD adP sR sG v1 _ hx_2 htr) zy_W_startAtFrame zv_W_startAtFrame (hts (.methodLink R_W 161 y_W_startAtFrame) zin_W_161) hl rfl rfl d_W_frame_2 (lv_room (Nat.le_of_ble_eq_true rfl)) rfl rfl ⟨Nat.le_trans (Nat.le_of_ble_eq_true rfl) hRf, Nat.le_trans (Nat.le_of_ble_eq_true rfl) hRl⟩ ⟨(Nat.le_trans (Nat.le_of_ble_eq_true rfl) hRc), (Nat.le_trans (Nat.le_of_ble_eq_true rfl) hRz)⟩ 0 0 rfl rfl
  refine zcallX (wr := (zwT adT adT_bytes cB cI cL sT ++ zwF adF adF_parts cB cI cL sF)) hr_2 hP hD hS hA [0, 3, 4, 5] [1, 2, 6, 7] rfl rfl (by decide) (by decide) hnh hlocks (by decide) (by decide) (fun k_2 u_2 t9 q9 hw_2 hP hD hF9 ht9 => ?_) (fun r_2 u_2 H locs hw_2 hP hD hS => ?_)
  · obtain ⟨sR_2, rfl⟩ : ∃ z, z = u_2 := ⟨_, rfl⟩
    subst hw_2
    have hP : va_P (dC, dI) zcl (zwT adT adT_bytes cB cI cL sT ++ zwF adF adF_parts cB cI cL sF ++ zwW adW adT adR adG adF adH adD adP ++ zwR adR adT cB cI cL sR_2 ++ zwG adG adG_places cB cI cL sG) t9.heap := hP
    have hD : va_D A (zwT adT adT_bytes cB cI cL sT ++ zwF adF adF_parts cB cI cL sF ++ zwW adW adT adR adG adF adH adD adP ++ zwR adR adT cB cI cL sR_2 ++ zwG adG adG_places cB cI cL sG) := hD
    exact ⟨(sR_2, sF), (hP.sub [4, 0, 1, 5, 6, 7, 2, 3] rfl), (hD.sub [4, 0, 1, 5, 6, 7, 2, 3] (by decide) rfl), hF9, Or.inr ⟨k_2, q9, rfl, Option.some.inj hG, ht9⟩⟩
  obtain ⟨sR_2, rfl⟩ : ∃ z, z = u_2 := ⟨_, rfl⟩
  subst hw_2
  have hP : va_P (dC, dI) zcl (zwT adT adT_bytes cB cI cL sT ++ zwF adF adF_parts cB cI cL sF ++ zwW adW adT adR adG adF adH adD adP ++ zwR adR adT cB cI cL sR_2 ++ zwG adG adG_places cB cI cL sG) H := hP
  have hD : va_D A (zwT adT adT_bytes cB cI cL sT ++ zwF adF adF_parts cB cI cL sF ++ zwW adW adT adR adG adF adH adD adP ++ zwR adR adT cB cI cL sR_2 ++ zwG adG adG_places cB cI cL sG) := hD
  have hG : g_W_frame_c2 N sT sG sF v2 sR_2 = some a := hG
  unfold g_W_frame_c2 at hG
  refine lv_aload_n hx hb d_W_frame_5 rfl (lv_at hl 0 rfl) ?_
  refine va_get (D := (dC, dI)) (ci := 0) (v := .ref adF) (C := R_W) (T := F_W) (N := 7) hx hb hts zi_W hown zz.1 hP 4 rfl rfl 3 (by decide) (hts (.fieldLink R_W 35 "WireCodec" "loadedFrame" "LWireCodec$Frame;") zin_W_35) (fun _ h9 => h9) rfl d_W_frame_6 ?_
  refine lv_aload_n hx hb d_W_frame_9 rfl (lv_at hl 0 rfl) ?_
  refine va_get (D := (dC, dI)) (ci := 0) (v := .ref adR) (C := R_W) (T := F_W) (N := 7) hx hb hts zi_W hown zz.1 hP 4 rfl rfl 1 (by decide) (hts (.fieldLink R_W 21 "WireCodec" "reader" "LWireCodec$Reader;") zin_W_21) (fun _ h9 => h9) rfl d_W_frame_10 ?_
  refine lv_iconst (v := (2 : Int32)) hx hb d_W_frame_13 (by decide) ?_
  obtain ⟨a_14, hx_14, hG⟩ := zb hG
  have hr_14 := zrunV (p := p) (e := e) (below := below) (meth := meth) (As := [.ref adR, .int (2 : Int32)]) (rest := []) (st0 := [.int (2 : Int32), .ref adR, .ref adF]) (cells := 1) (slots := 6) X zz hP hD hS hA [0, 1, 5, 2, 3] (by decide) rfl (c_F_parse l dC dI cB cI cL H.size adT adT_bytes adR adF adF_parts N sT sR_2 sF (2 : Int32) _ hx_14) zy_F_parse zv_F_parse (hts (.methodLink R_W 142 y_F_parse) zin_W_142) hl rfl rfl d_W_frame_14 (lv_room (Nat.le_of_ble_eq_true rfl)) rfl rfl ⟨Nat.le_trans (Nat.le_of_ble_eq_true rfl) hRf, Nat.le_trans (Nat.le_of_ble_eq_true rfl) hRl⟩ ⟨(Nat.le_trans (Nat.le_of_ble_eq_true rfl) hRc), (Nat.le_trans (Nat.le_of_ble_eq_true rfl) hRz)⟩ 3 4 rfl rfl
  refine zcalli (wr := (zwW adW adT adR adG adF adH adD adP ++ zwG adG adG_places cB cI cL sG)) hr_14 hP hD hS hA [0, 1, 5, 2, 3] [4, 6, 7] rfl rfl (by decide) (by decide) (fun r_14 u_14 H locs hw_14 hP hD hS => ?_)
  obtain ⟨sR_14, sF_14⟩ := u_14
  subst hw_14
  have hP : va_P (dC, dI) zcl (zwW adW adT adR adG adF adH adD adP ++ zwG adG adG_places cB cI cL sG ++ zwT adT adT_bytes cB cI cL sT ++ zwR adR adT cB cI cL sR_14 ++ zwF adF adF_parts cB cI cL sF_14) H := hP
  have hD : va_D A (zwW adW adT adR adG adF adH adD adP ++ zwG adG adG_places cB cI cL sG ++ zwT adT adT_bytes cB cI cL sT ++ zwR adR adT cB cI cL sR_14 ++ zwF adF adF_parts cB cI cL sF_14) := hD
  have hG : g_W_frame_c14 N sT sG v2 sR_14 sF_14 = some a := hG
  unfold g_W_frame_c14 at hG
  refine lv_pop hx hb d_W_frame_17 rfl ?_
  refine lv_iload_n hx hb d_W_frame_18 rfl (lv_at hl 2 rfl) ?_
  refine lv_if_lt (tgt := 28) hx hb d_W_frame_19 (by decide) (fun hc => ?_) (fun hc => ?_)
  · have hG := zt hG hc
    exact k_W_frame_28 X hA zz htr hnh hAs hRc hRz N sT sR_14 sG sF_14 _ hG adW adT adT_bytes adR adG adG_places adF adF_parts _ _ (hP.sub [0, 3, 4, 5, 1, 2, 6, 7] rfl) (hD.sub [0, 3, 4, 5, 1, 2, 6, 7] (by decide) rfl) hS _ (lv_sub hl [] rfl)
  · have hG := zf hG hc
    refine lv_iload_n hx hb d_W_frame_22 rfl (lv_at hl 2 rfl) ?_
    refine lv_bipush (v := (12 : Int32)) hx hb d_W_frame_23 (by decide) ?_
    refine lv_icmp_lt (tgt := 38) hx hb d_W_frame_25 (by decide) (fun hc => ?_) (fun hc => ?_)
    · have hG := zt hG hc
      refine lv_aload_n hx hb d_W_frame_38 rfl (lv_at hl 0 rfl) ?_
      refine va_get (D := (dC, dI)) (ci := 0) (v := .ref adF) (C := R_W) (T := F_W) (N := 7) hx hb hts zi_W hown zz.1 hP 0 rfl rfl 3 (by decide) (hts (.fieldLink R_W 35 "WireCodec" "loadedFrame" "LWireCodec$Frame;") zin_W_35) (fun _ h9 => h9) rfl d_W_frame_39 ?_
      refine va_get (D := (dC, dI)) (ci := 4) (v := .ref adF_parts) (C := R_F) (T := F_F) (N := 7) hx hb hts zi_F hown zz.1 hP 6 rfl rfl 0 (by decide) (hts (.fieldLink R_W 169 "WireCodec$Frame" "parts" "[J") zin_W_169) (fun _ h9 => h9) rfl d_W_frame_42 ?_
      refine lv_iload_n hx hb d_W_frame_45 rfl (lv_at hl 2 rfl) ?_
      obtain ⟨hin, hG⟩ := zgd hG
      refine va_lald hx hb zz.1 hP 7 2 rfl rfl hin d_W_frame_46 ?_
      refine W.widen (k := 2) (n := 12) (by decide) (by decide) ?_
      exact zxretl (u := (sR_14, sF_14)) (v := (zF_parts sF_14) v2.toNatClampNeg) X hlocks (Option.some.inj hG) (hP.sub [0, 3, 4, 5, 1, 2, 6, 7] rfl) (hD.sub [0, 3, 4, 5, 1, 2, 6, 7] (by decide) rfl) hS d_W_frame_47
    · have hG := zf hG hc
      exact k_W_frame_28 X hA zz htr hnh hAs hRc hRz N sT sR_14 sG sF_14 _ hG adW adT adT_bytes adR adG adG_places adF adF_parts _ _ (hP.sub [0, 3, 4, 5, 1, 2, 6, 7] rfl) (hD.sub [0, 3, 4, 5, 1, 2, 6, 7] (by decide) rfl) hS _ (lv_sub hl [] rfl)
set_option maxRecDepth 100000 in
set_option maxHeartbeats 4000000 in
theorem c_W_frame (l : Launch) (dC : Nat → ClassId) (dI : Nat → Nat → Nat) (cB cI cL : ClassId) (sz : Nat) (adW adT adT_bytes adR adG adG_places adF adF_parts adH adD adP : Nat) (N : Nat) (sT : zT) (sR : zR) (sG : zG) (sF : zF) (v1 : Int32) (v2 : Int32) (a : (Int64 ⊕ Nat) × zR × zF) (hG : g_W_frame N sT sR sG sF v1 v2 = some a) (htr : l.stackTraces = false) : zMet l y_W_frame (zw y_W_frame b_W_frame 3 (some .long)) ({ frames := 7, cells := 2, slots := 12, locals := 145 }) (va_Pc [.ref adW, .int v1, .int v2] (zpre dC dI cB cI cL sz (zwW adW adT adR adG adF adH adD adP ++ zwT adT adT_bytes cB cI cL sT ++ zwR adR adT cB cI cL sR ++ zwG adG adG_places cB cI cL sG ++ zwF adF adF_parts cB cI cL sF))) (q_W_frame dC dI cB cI cL (va_A (zwW adW adT adR adG adF adH adD adP ++ zwT adT adT_bytes cB cI cL sT ++ zwR adR adT cB cI cL sR ++ zwG adG adG_places cB cI cL sG ++ zwF adF adF_parts cB cI cL sF) sz) adW adT adT_bytes adR adG adG_places adF adF_parts adH adD adP sT sG a) 2 12 (va_A (zwW adW adT adR adG adF adH adD adP ++ zwT adT adT_bytes cB cI cL sT ++ zwR adR adT cB cI cL sR ++ zwG adG adG_places cB cI cL sG ++ zwF adF adF_parts cB cI cL sF) sz) := by
  refine zMet.ofW (cc := b_W_frame) (maxL := 3) (ret := (some .long)) (by decide) rfl ?_
  intro p e s m args below meth c s₁ B hml hv
  obtain ⟨rfl, hsz, hP, zz, hD0⟩ := hv
  subst hsz
  have X := zx_of (F := 7) (L := 145) B hml (Nat.le_refl _) (Nat.le_refl _)
  have hD := hD0.self (sz := s.heap.size)
  have hA : ∀ q : Nat, s.heap.size ≤ q → va_A (zwW adW adT adR adG adF adH adD adP ++ zwT adT adT_bytes cB cI cL sT ++ zwR adR adT cB cI cL sR ++ zwG adG adG_places cB cI cL sG ++ zwF adF adF_parts cB cI cL sF) s.heap.size q := fun q h => Or.inr h
  have hl := lv_entry ([.ref adW, .int v1, .int v2]) (n := 3) (Nat.le_of_ble_eq_true rfl)
  rw [lg_entry_eq]
  generalize (lg_sl ([.ref adW, .int v1, .int v2]) ++ List.replicate (3 - (lg_sl ([.ref adW, .int v1, .int v2])).length) Slot.unset).toArray = ls at hl ⊢
  have hnh := BodyLoose.noHandlers B (atoms_spec (ws := zw y_W_frame b_W_frame 3 (some .long)) B.pre _ List.mem_cons_self)
  have hAs := zstatics hP
  exact k_W_frame_0 X hA zz htr hnh hAs (Nat.le_refl _) (Nat.le_refl _) N sT sR sG sF v1 v2 a hG adW adT adT_bytes adR adG adG_places adF adF_parts _ _ hP hD va_S.rf ls hl
noncomputable def g_W_data_56 (N : Nat) (sT : zT) (sR : zR) (sG : zG) (sF : zF) : Option ((Int32 ⊕ Nat) × zR × zF) := some (.inr 3, sR, sF)
noncomputable def g_W_data_c93 (sR : zR) (sF : zF) (r_93 : Int32) : Option ((Int32 ⊕ Nat) × zR × zF) := some (.inl r_93, sR, sF)
noncomputable def g_W_data_91 (N : Nat) (sT : zT) (sR : zR) (sG : zG) (sF : zF) (v2 : Int32) (s0 : Int32) : Option ((Int32 ⊕ Nat) × zR × zF) := (g_T_byteAt sT (s0 + v2)).bind (fun a => g_W_data_c93 sR sF a)
noncomputable def g_W_data_42 (N : Nat) (sT : zT) (sR : zR) (sG : zG) (sF : zF) (v2 : Int32) (v3 : Int32) (s0 : Int64) : Option ((Int32 ⊕ Nat) × zR × zF) := if v2 < (0 : Int32) then (g_W_data_56 N sT sR sG sF) else (if (lg_cmp v2.toInt64 s0) < (0 : Int32) then (if v3 = (0 : Int32) then (g_W_data_91 N sT sR sG sF v2 (zF_dataPlace sF)) else (g_W_data_91 N sT sR sG sF v2 (zF_secretPlace sF))) else (g_W_data_56 N sT sR sG sF))
noncomputable def g_W_data_c14 (N : Nat) (sT : zT) (sG : zG) (v2 : Int32) (v3 : Int32) (sR_14 : zR) (sF_14 : zF) : Option ((Int32 ⊕ Nat) × zR × zF) := if v3 = (0 : Int32) then (zg (vp_in (5 : Int32) 12) (if v2 < (0 : Int32) then (g_W_data_56 N sT sR_14 sG sF_14) else (if (lg_cmp v2.toInt64 ((zF_parts sF_14) (5 : Int32).toNatClampNeg)) < (0 : Int32) then (if v3 = (0 : Int32) then (g_W_data_91 N sT sR_14 sG sF_14 v2 (zF_dataPlace sF_14)) else (g_W_data_91 N sT sR_14 sG sF_14 v2 (zF_secretPlace sF_14))) else (g_W_data_56 N sT sR_14 sG sF_14)))) else (g_W_data_42 N sT sR_14 sG sF_14 v2 v3 ((zF_secretBytes sF_14).toInt64))
noncomputable def g_W_data_c2 (N : Nat) (sT : zT) (sG : zG) (sF : zF) (v2 : Int32) (v3 : Int32) (sR_2 : zR) : Option ((Int32 ⊕ Nat) × zR × zF) := (g_F_parse N sT sR_2 sF (2 : Int32)).bind (fun a => g_W_data_c14 N sT sG v2 v3 a.2.1 a.2.2)
noncomputable def g_W_data (N : Nat) (sT : zT) (sR : zR) (sG : zG) (sF : zF) (v1 : Int32) (v2 : Int32) (v3 : Int32) : Option ((Int32 ⊕ Nat) × zR × zF) := (g_W_startAtFrame sR sG v1).bind (fun a => zmx (a.1) (fun r9 => g_W_data_c2 N sT sG sF v2 v3 a.2) (fun k9 => some (.inr k9, a.2, sF)))
def q_W_data (dC : Nat → ClassId) (dI : Nat → Nat → Nat) (cB cI cL : ClassId) (A : Nat → Prop) (adW : Nat) (adT : Nat) (adT_bytes : Nat) (adR : Nat) (adG : Nat) (adG_places : Nat) (adF : Nat) (adF_parts : Nat) (adH : Nat) (adD : Nat) (adP : Nat) (sT : zT) (sG : zG) (a : (Int32 ⊕ Nat) × zR × zF) : Array Value → State → Outcome → State → Prop := zQx (α := Int32) (fun r => some (.int r)) (fun r (u : zR × zF) => (r, u.1, u.2) = a) (dC, dI) (fun u => (zwW adW adT adR adG adF adH adD adP ++ zwT adT adT_bytes cB cI cL sT ++ zwR adR adT cB cI cL u.1 ++ zwG adG adG_places cB cI cL sG ++ zwF adF adF_parts cB cI cL u.2)) A
set_option maxRecDepth 100000 in
set_option maxHeartbeats 4000000 in
theorem k_W_data_56 {p : Program} {l : Launch} {e : Env} {R : Room} {s : State} {m : MethodId} {args : Array Value} {below : List Frame} {meth : Method} {c : Code} {dC : Nat → ClassId} {dI : Nat → Nat → Nat} {cB cI cL : ClassId} {A : Nat → Prop} {adH adD adP : Nat} (X : zx p s m args meth c R R_W b_W_data (some .int) 6 7 145) (hA : ∀ q, s.heap.size ≤ q → A q) (zz : zk dC dI cB cI cL A s) (htr : l.stackTraces = false) (hnh : c.exceptionTable.isEmpty = true) (hAs : ∀ q, A q → ∀ cell, s.heap[q]? = some cell → cell.vm.isStatics = false) (hRc : 2 ≤ R.cells) (hRz : 12 ≤ R.slots)  (N : Nat) (sT : zT) (sR : zR) (sG : zG) (sF : zF) (a : (Int32 ⊕ Nat) × zR × zF) (hG : g_W_data_56 N sT sR sG sF = some a) (adW adT adT_bytes adR adG adG_places adF adF_parts : Nat) (H : Heap) (locs : List Loc) (hP : va_P (dC, dI) zcl (zwW adW adT adR adG adF adH adD adP ++ zwT adT adT_bytes cB cI cL sT ++ zwR adR adT cB cI cL sR ++ zwG adG adG_places cB cI cL sG ++ zwF adF adF_parts cB cI cL sF) H) (hD : va_D A (zwW adW adT adR adG adF adH adD adP ++ zwT adT adT_bytes cB cI cL sT ++ zwR adR adT cB cI cL sR ++ zwG adG adG_places cB cI cL sG ++ zwF adF adF_parts cB cI cL sF)) (hS : va_S A s.heap H locs) (ls : Array Slot) (hl : lv_has ls 6 []) : W p l e R s m args below meth c H locs 1 6 (zMQ below (q_W_data dC dI cB cI cL A adW adT adT_bytes adR adG adG_places adF adF_parts adH adD adP sT sG a) args s 2 12 A) (F0 m 56 ls []) := by
  obtain ⟨hx, hb, hr, hml, hown, hts, hlocks, hRf, hRl⟩ := id X
  unfold g_W_data_56 at hG
  exact zthrow htr X zz hnh hAs hA hS 3 (text := "the frame has no such byte") zin_W_164 zini_3 (by decide +kernel) zat_W_168 zfit_3 hl d_W_data_56 d_W_data_59 d_W_data_60 d_W_data_62 d_W_data_65 (Nat.le_trans (Nat.le_of_ble_eq_true rfl) hRf) (Nat.le_trans (Nat.le_of_ble_eq_true rfl) hRl) hRc hRz (by decide) (by decide) (fun t9 q9 hz9 ho9 ht9 => ⟨(sR, sF), va_P.kept hP (zold hP ho9), hD, zFr hS hz9 ho9, Or.inr ⟨3, q9, rfl, Option.some.inj hG, ht9⟩⟩)
set_option maxRecDepth 100000 in
set_option maxHeartbeats 4000000 in
theorem k_W_data_91 {p : Program} {l : Launch} {e : Env} {R : Room} {s : State} {m : MethodId} {args : Array Value} {below : List Frame} {meth : Method} {c : Code} {dC : Nat → ClassId} {dI : Nat → Nat → Nat} {cB cI cL : ClassId} {A : Nat → Prop} {adH adD adP : Nat} (X : zx p s m args meth c R R_W b_W_data (some .int) 6 7 145) (hA : ∀ q, s.heap.size ≤ q → A q) (zz : zk dC dI cB cI cL A s) (htr : l.stackTraces = false) (hnh : c.exceptionTable.isEmpty = true) (hAs : ∀ q, A q → ∀ cell, s.heap[q]? = some cell → cell.vm.isStatics = false) (hRc : 2 ≤ R.cells) (hRz : 12 ≤ R.slots)  (N : Nat) (sT : zT) (sR : zR) (sG : zG) (sF : zF) (v2 : Int32) (s0 : Int32) (a : (Int32 ⊕ Nat) × zR × zF) (hG : g_W_data_91 N sT sR sG sF v2 s0 = some a) (adW adT adT_bytes adR adG adG_places adF adF_parts : Nat) (H : Heap) (locs : List Loc) (hP : va_P (dC, dI) zcl (zwW adW adT adR adG adF adH adD adP ++ zwT adT adT_bytes cB cI cL sT ++ zwR adR adT cB cI cL sR ++ zwG adG adG_places cB cI cL sG ++ zwF adF adF_parts cB cI cL sF) H) (hD : va_D A (zwW adW adT adR adG adF adH adD adP ++ zwT adT adT_bytes cB cI cL sT ++ zwR adR adT cB cI cL sR ++ zwG adG adG_places cB cI cL sG ++ zwF adF adF_parts cB cI cL sF)) (hS : va_S A s.heap H locs) (ls : Array Slot) (hl : lv_has ls 6 [(2, .int v2)]) : W p l e R s m args below meth c H locs 1 6 (zMQ below (q_W_data dC dI cB cI cL A adW adT adT_bytes adR adG adG_places adF adF_parts adH adD adP sT sG a) args s 2 12 A) (F0 m 91 ls [.int s0, .ref adT]) := by
  obtain ⟨hx, hb, hr, hml, hown, hts, hlocks, hRf, hRl⟩ := id X
  unfold g_W_data_91 at hG
  refine lv_iload_n hx hb d_W_data_91 rfl (lv_at hl 0 rfl) ?_
  refine lv_iadd hx hb d_W_data_92 ?_
  obtain ⟨a_93, hx_93, hG⟩ := zb hG
  have hr_93 := zrunV (p := p) (e := e) (below := below) (meth := meth) (As := [.int (s0 + v2)]) (rest := []) (st0 := [.int (s0 + v2), .ref adT]) (cells := 1) (slots := 6) X zz hP hD hS hA [1, 2] (by decide) rfl (c_T_byteAt l dC dI cB cI cL H.size adT adT_bytes sT (s0 + v2) _ hx_93) zy_T_byteAt zv_T_byteAt (hts (.methodLink R_W 110 y_T_byteAt) zin_W_110) hl rfl rfl d_W_data_93 (lv_room (Nat.le_of_ble_eq_true rfl)) rfl rfl ⟨Nat.le_trans (Nat.le_of_ble_eq_true rfl) hRf, Nat.le_trans (Nat.le_of_ble_eq_true rfl) hRl⟩ ⟨(Nat.le_trans (Nat.le_of_ble_eq_true rfl) hRc), (Nat.le_trans (Nat.le_of_ble_eq_true rfl) hRz)⟩ 0 1 rfl rfl
  refine zcalli (wr := (zwW adW adT adR adG adF adH adD adP ++ zwR adR adT cB cI cL sR ++ zwG adG adG_places cB cI cL sG ++ zwF adF adF_parts cB cI cL sF)) hr_93 hP hD hS hA [1, 2] [0, 3, 4, 5, 6, 7] rfl rfl (by decide) (by decide) (fun r_93 u_93 H locs hw_93 hP hD hS => ?_)
  subst hw_93
  have hP : va_P (dC, dI) zcl (zwW adW adT adR adG adF adH adD adP ++ zwR adR adT cB cI cL sR ++ zwG adG adG_places cB cI cL sG ++ zwF adF adF_parts cB cI cL sF ++ zwT adT adT_bytes cB cI cL sT) H := hP
  have hD : va_D A (zwW adW adT adR adG adF adH adD adP ++ zwR adR adT cB cI cL sR ++ zwG adG adG_places cB cI cL sG ++ zwF adF adF_parts cB cI cL sF ++ zwT adT adT_bytes cB cI cL sT) := hD
  have hG : g_W_data_c93 sR sF r_93 = some a := hG
  unfold g_W_data_c93 at hG
  refine W.widen (k := 2) (n := 12) (by decide) (by decide) ?_
  exact zxreti (u := (sR, sF)) (v := r_93) X hlocks (Option.some.inj hG) (hP.sub [0, 6, 7, 1, 2, 3, 4, 5] rfl) (hD.sub [0, 6, 7, 1, 2, 3, 4, 5] (by decide) rfl) hS d_W_data_96
set_option maxRecDepth 100000 in
set_option maxHeartbeats 4000000 in
theorem k_W_data_42 {p : Program} {l : Launch} {e : Env} {R : Room} {s : State} {m : MethodId} {args : Array Value} {below : List Frame} {meth : Method} {c : Code} {dC : Nat → ClassId} {dI : Nat → Nat → Nat} {cB cI cL : ClassId} {A : Nat → Prop} {adH adD adP : Nat} (X : zx p s m args meth c R R_W b_W_data (some .int) 6 7 145) (hA : ∀ q, s.heap.size ≤ q → A q) (zz : zk dC dI cB cI cL A s) (htr : l.stackTraces = false) (hnh : c.exceptionTable.isEmpty = true) (hAs : ∀ q, A q → ∀ cell, s.heap[q]? = some cell → cell.vm.isStatics = false) (hRc : 2 ≤ R.cells) (hRz : 12 ≤ R.slots)  (N : Nat) (sT : zT) (sR : zR) (sG : zG) (sF : zF) (v2 : Int32) (v3 : Int32) (s0 : Int64) (a : (Int32 ⊕ Nat) × zR × zF) (hG : g_W_data_42 N sT sR sG sF v2 v3 s0 = some a) (adW adT adT_bytes adR adG adG_places adF adF_parts : Nat) (H : Heap) (locs : List Loc) (hP : va_P (dC, dI) zcl (zwW adW adT adR adG adF adH adD adP ++ zwT adT adT_bytes cB cI cL sT ++ zwR adR adT cB cI cL sR ++ zwG adG adG_places cB cI cL sG ++ zwF adF adF_parts cB cI cL sF) H) (hD : va_D A (zwW adW adT adR adG adF adH adD adP ++ zwT adT adT_bytes cB cI cL sT ++ zwR adR adT cB cI cL sR ++ zwG adG adG_places cB cI cL sG ++ zwF adF adF_parts cB cI cL sF)) (hS : va_S A s.heap H locs) (ls : Array Slot) (hl : lv_has ls 6 [(0, .ref adW), (2, .int v2), (3, .int v3)]) : W p l e R s m args below meth c H locs 1 6 (zMQ below (q_W_data dC dI cB cI cL A adW adT adT_bytes adR adG adG_places adF adF_parts adH adD adP sT sG a) args s 2 12 A) (F0 m 42 ls [.long s0]) := by
  obtain ⟨hx, hb, hr, hml, hown, hts, hlocks, hRf, hRl⟩ := id X
  unfold g_W_data_42 at hG
  refine lv_lstore (lv' := [(4, .long s0), (0, .ref adW), (2, .int v2), (3, .int v3)]) hx hb d_W_data_42 hl (by decide) rfl (fun ls hl => ?_)
  refine lv_iload_n hx hb d_W_data_44 rfl (lv_at hl 2 rfl) ?_
  refine lv_if_lt (tgt := 56) hx hb d_W_data_45 (by decide) (fun hc => ?_) (fun hc => ?_)
  · have hG := zt hG hc
    exact k_W_data_56 X hA zz htr hnh hAs hRc hRz N sT sR sG sF _ hG adW adT adT_bytes adR adG adG_places adF adF_parts _ _ hP hD hS _ (lv_sub hl [] rfl)
  · have hG := zf hG hc
    refine lv_iload_n hx hb d_W_data_48 rfl (lv_at hl 2 rfl) ?_
    refine lv_i2l hx hb d_W_data_49 rfl ?_
    refine lv_lload hx hb d_W_data_50 (lv_at hl 0 rfl) ?_
    refine W.lcmp hx hb d_W_data_52 ?_
    refine lv_if_lt (tgt := 66) hx hb d_W_data_53 (by decide) (fun hc => ?_) (fun hc => ?_)
    · have hG := zt hG hc
      refine lv_aload_n hx hb d_W_data_66 rfl (lv_at hl 1 rfl) ?_
      refine va_get (D := (dC, dI)) (ci := 0) (v := .ref adT) (C := R_W) (T := F_W) (N := 7) hx hb hts zi_W hown zz.1 hP 0 rfl rfl 0 (by decide) (hts (.fieldLink R_W 12 "WireCodec" "tape" "LWireCodec$Tape;") zin_W_12) (fun _ h9 => h9) rfl d_W_data_67 ?_
      refine lv_iload_n hx hb d_W_data_70 rfl (lv_at hl 3 rfl) ?_
      refine lv_if_eq (tgt := 84) hx hb d_W_data_71 (by decide) (fun hc => ?_) (fun hc => ?_)
      · have hG := zt hG hc
        refine lv_aload_n hx hb d_W_data_84 rfl (lv_at hl 1 rfl) ?_
        refine va_get (D := (dC, dI)) (ci := 0) (v := .ref adF) (C := R_W) (T := F_W) (N := 7) hx hb hts zi_W hown zz.1 hP 0 rfl rfl 3 (by decide) (hts (.fieldLink R_W 35 "WireCodec" "loadedFrame" "LWireCodec$Frame;") zin_W_35) (fun _ h9 => h9) rfl d_W_data_85 ?_
        refine va_get (D := (dC, dI)) (ci := 4) (v := .int (zF_dataPlace sF)) (C := R_F) (T := F_F) (N := 7) hx hb hts zi_F hown zz.1 hP 6 rfl rfl 1 (by decide) (hts (.fieldLink R_W 181 "WireCodec$Frame" "dataPlace" "I") zin_W_181) (fun _ h9 => h9) rfl d_W_data_88 ?_
        exact k_W_data_91 X hA zz htr hnh hAs hRc hRz N sT sR sG sF v2 (zF_dataPlace sF) _ hG adW adT adT_bytes adR adG adG_places adF adF_parts _ _ hP hD hS _ (lv_sub hl [2] rfl)
      · have hG := zf hG hc
        refine lv_aload_n hx hb d_W_data_74 rfl (lv_at hl 1 rfl) ?_
        refine va_get (D := (dC, dI)) (ci := 0) (v := .ref adF) (C := R_W) (T := F_W) (N := 7) hx hb hts zi_W hown zz.1 hP 0 rfl rfl 3 (by decide) (hts (.fieldLink R_W 35 "WireCodec" "loadedFrame" "LWireCodec$Frame;") zin_W_35) (fun _ h9 => h9) rfl d_W_data_75 ?_
        refine va_get (D := (dC, dI)) (ci := 4) (v := .int (zF_secretPlace sF)) (C := R_F) (T := F_F) (N := 7) hx hb hts zi_F hown zz.1 hP 6 rfl rfl 2 (by decide) (hts (.fieldLink R_W 178 "WireCodec$Frame" "secretPlace" "I") zin_W_178) (fun _ h9 => h9) rfl d_W_data_78 ?_
        refine lv_goto (tgt := 91) hx hb d_W_data_81 (by decide) ?_
        exact k_W_data_91 X hA zz htr hnh hAs hRc hRz N sT sR sG sF v2 (zF_secretPlace sF) _ hG adW adT adT_bytes adR adG adG_places adF adF_parts _ _ hP hD hS _ (lv_sub hl [2] rfl)
    · have hG := zf hG hc
      exact k_W_data_56 X hA zz htr hnh hAs hRc hRz N sT sR sG sF _ hG adW adT adT_bytes adR adG adG_places adF adF_parts _ _ hP hD hS _ (lv_sub hl [] rfl)
set_option maxRecDepth 100000 in
set_option maxHeartbeats 4000000 in
theorem k_W_data_0 {p : Program} {l : Launch} {e : Env} {R : Room} {s : State} {m : MethodId} {args : Array Value} {below : List Frame} {meth : Method} {c : Code} {dC : Nat → ClassId} {dI : Nat → Nat → Nat} {cB cI cL : ClassId} {A : Nat → Prop} {adH adD adP : Nat} (X : zx p s m args meth c R R_W b_W_data (some .int) 6 7 145) (hA : ∀ q, s.heap.size ≤ q → A q) (zz : zk dC dI cB cI cL A s) (htr : l.stackTraces = false) (hnh : c.exceptionTable.isEmpty = true) (hAs : ∀ q, A q → ∀ cell, s.heap[q]? = some cell → cell.vm.isStatics = false) (hRc : 2 ≤ R.cells) (hRz : 12 ≤ R.slots)  (N : Nat) (sT : zT) (sR : zR) (sG : zG) (sF : zF) (v1 : Int32) (v2 : Int32) (v3 : Int32) (a : (Int32 ⊕ Nat) × zR × zF) (hG : g_W_data N sT sR sG sF v1 v2 v3 = some a) (adW adT adT_bytes adR adG adG_places adF adF_parts : Nat) (H : Heap) (locs : List Loc) (hP : va_P (dC, dI) zcl (zwW adW adT adR adG adF adH adD adP ++ zwT adT adT_bytes cB cI cL sT ++ zwR adR adT cB cI cL sR ++ zwG adG adG_places cB cI cL sG ++ zwF adF adF_parts cB cI cL sF) H) (hD : va_D A (zwW adW adT adR adG adF adH adD adP ++ zwT adT adT_bytes cB cI cL sT ++ zwR adR adT cB cI cL sR ++ zwG adG adG_places cB cI cL sG ++ zwF adF adF_parts cB cI cL sF)) (hS : va_S A s.heap H locs) (ls : Array Slot) (hl : lv_has ls 6 [(0, .ref adW), (1, .int v1), (2, .int v2), (3, .int v3)]) : W p l e R s m args below meth c H locs 0 0 (zMQ below (q_W_data dC dI cB cI cL A adW adT adT_bytes adR adG adG_places adF adF_parts adH adD adP sT sG a) args s 2 12 A) (F0 m 0 ls []) := by
  obtain ⟨hx, hb, hr, hml, hown, hts, hlocks, hRf, hRl⟩ := id X
  unfold g_W_data at hG
  refine lv_aload_n hx hb d_W_data_0 rfl (lv_at hl 0 rfl) ?_
  refine lv_iload_n hx hb d_W_data_1 rfl (lv_at hl 1 rfl) ?_
  obtain ⟨a_2, hx_2, hG⟩ := zb hG
  have hr_2 := zrunXV (p := p) (e := e) (below := below) (meth := meth) (As := [.int v1]) (rest := []) (st0 := [.int v1, .ref adW]) (cells := 0) (slots := 0) X zz hP hD hS hA [0, 3, 4, 5] (by decide) rfl (c_W_startAtFrame l dC dI cB cI cL H.size adW adR adG adG_places adT adF adH adD adP sR sG v1 _ hx_2 htr) zy_W_startAtFrame zv_W_startAtFrame (hts (.methodLink R_W 161 y_W_startAtFrame) zin_W_161) hl rfl rfl d_W_data_2 (lv_room (Nat.le_of_ble_eq_true rfl)) rfl rfl ⟨Nat.le_trans (Nat.le_of_ble_eq_true rfl) hRf, Nat.le_trans (Nat.le_of_ble_eq_true rfl) hRl⟩ ⟨(Nat.le_trans (Nat.le_of_ble_eq_true rfl) hRc), (Nat.le_trans (Nat.le_of_ble_eq_true rfl) hRz)⟩ 0 0 rfl rfl
  refine zcallX (wr := (zwT adT adT_bytes cB cI cL sT ++ zwF adF adF_parts cB cI cL sF)) hr_2 hP hD hS hA [0, 3, 4, 5] [1, 2, 6, 7] rfl rfl (by decide) (by decide) hnh hlocks (by decide) (by decide) (fun k_2 u_2 t9 q9 hw_2 hP hD hF9 ht9 => ?_) (fun r_2 u_2 H locs hw_2 hP hD hS => ?_)
  · obtain ⟨sR_2, rfl⟩ : ∃ z, z = u_2 := ⟨_, rfl⟩
    subst hw_2
    have hP : va_P (dC, dI) zcl (zwT adT adT_bytes cB cI cL sT ++ zwF adF adF_parts cB cI cL sF ++ zwW adW adT adR adG adF adH adD adP ++ zwR adR adT cB cI cL sR_2 ++ zwG adG adG_places cB cI cL sG) t9.heap := hP
    have hD : va_D A (zwT adT adT_bytes cB cI cL sT ++ zwF adF adF_parts cB cI cL sF ++ zwW adW adT adR adG adF adH adD adP ++ zwR adR adT cB cI cL sR_2 ++ zwG adG adG_places cB cI cL sG) := hD
    exact ⟨(sR_2, sF), (hP.sub [4, 0, 1, 5, 6, 7, 2, 3] rfl), (hD.sub [4, 0, 1, 5, 6, 7, 2, 3] (by decide) rfl), hF9, Or.inr ⟨k_2, q9, rfl, Option.some.inj hG, ht9⟩⟩
  obtain ⟨sR_2, rfl⟩ : ∃ z, z = u_2 := ⟨_, rfl⟩
  subst hw_2
  have hP : va_P (dC, dI) zcl (zwT adT adT_bytes cB cI cL sT ++ zwF adF adF_parts cB cI cL sF ++ zwW adW adT adR adG adF adH adD adP ++ zwR adR adT cB cI cL sR_2 ++ zwG adG adG_places cB cI cL sG) H := hP
  have hD : va_D A (zwT adT adT_bytes cB cI cL sT ++ zwF adF adF_parts cB cI cL sF ++ zwW adW adT adR adG adF adH adD adP ++ zwR adR adT cB cI cL sR_2 ++ zwG adG adG_places cB cI cL sG) := hD
  have hG : g_W_data_c2 N sT sG sF v2 v3 sR_2 = some a := hG
  unfold g_W_data_c2 at hG
  refine lv_aload_n hx hb d_W_data_5 rfl (lv_at hl 0 rfl) ?_
  refine va_get (D := (dC, dI)) (ci := 0) (v := .ref adF) (C := R_W) (T := F_W) (N := 7) hx hb hts zi_W hown zz.1 hP 4 rfl rfl 3 (by decide) (hts (.fieldLink R_W 35 "WireCodec" "loadedFrame" "LWireCodec$Frame;") zin_W_35) (fun _ h9 => h9) rfl d_W_data_6 ?_
  refine lv_aload_n hx hb d_W_data_9 rfl (lv_at hl 0 rfl) ?_
  refine va_get (D := (dC, dI)) (ci := 0) (v := .ref adR) (C := R_W) (T := F_W) (N := 7) hx hb hts zi_W hown zz.1 hP 4 rfl rfl 1 (by decide) (hts (.fieldLink R_W 21 "WireCodec" "reader" "LWireCodec$Reader;") zin_W_21) (fun _ h9 => h9) rfl d_W_data_10 ?_
  refine lv_iconst (v := (2 : Int32)) hx hb d_W_data_13 (by decide) ?_
  obtain ⟨a_14, hx_14, hG⟩ := zb hG
  have hr_14 := zrunV (p := p) (e := e) (below := below) (meth := meth) (As := [.ref adR, .int (2 : Int32)]) (rest := []) (st0 := [.int (2 : Int32), .ref adR, .ref adF]) (cells := 1) (slots := 6) X zz hP hD hS hA [0, 1, 5, 2, 3] (by decide) rfl (c_F_parse l dC dI cB cI cL H.size adT adT_bytes adR adF adF_parts N sT sR_2 sF (2 : Int32) _ hx_14) zy_F_parse zv_F_parse (hts (.methodLink R_W 142 y_F_parse) zin_W_142) hl rfl rfl d_W_data_14 (lv_room (Nat.le_of_ble_eq_true rfl)) rfl rfl ⟨Nat.le_trans (Nat.le_of_ble_eq_true rfl) hRf, Nat.le_trans (Nat.le_of_ble_eq_true rfl) hRl⟩ ⟨(Nat.le_trans (Nat.le_of_ble_eq_true rfl) hRc), (Nat.le_trans (Nat.le_of_ble_eq_true rfl) hRz)⟩ 3 4 rfl rfl
  refine zcalli (wr := (zwW adW adT adR adG adF adH adD adP ++ zwG adG adG_places cB cI cL sG)) hr_14 hP hD hS hA [0, 1, 5, 2, 3] [4, 6, 7] rfl rfl (by decide) (by decide) (fun r_14 u_14 H locs hw_14 hP hD hS => ?_)
  obtain ⟨sR_14, sF_14⟩ := u_14
  subst hw_14
  have hP : va_P (dC, dI) zcl (zwW adW adT adR adG adF adH adD adP ++ zwG adG adG_places cB cI cL sG ++ zwT adT adT_bytes cB cI cL sT ++ zwR adR adT cB cI cL sR_14 ++ zwF adF adF_parts cB cI cL sF_14) H := hP
  have hD : va_D A (zwW adW adT adR adG adF adH adD adP ++ zwG adG adG_places cB cI cL sG ++ zwT adT adT_bytes cB cI cL sT ++ zwR adR adT cB cI cL sR_14 ++ zwF adF adF_parts cB cI cL sF_14) := hD
  have hG : g_W_data_c14 N sT sG v2 v3 sR_14 sF_14 = some a := hG
  unfold g_W_data_c14 at hG
  refine lv_pop hx hb d_W_data_17 rfl ?_
  refine lv_iload_n hx hb d_W_data_18 rfl (lv_at hl 3 rfl) ?_
  refine lv_if_eq (tgt := 33) hx hb d_W_data_19 (by decide) (fun hc => ?_) (fun hc => ?_)
  · have hG := zt hG hc
    refine lv_aload_n hx hb d_W_data_33 rfl (lv_at hl 0 rfl) ?_
    refine va_get (D := (dC, dI)) (ci := 0) (v := .ref adF) (C := R_W) (T := F_W) (N := 7) hx hb hts zi_W hown zz.1 hP 0 rfl rfl 3 (by decide) (hts (.fieldLink R_W 35 "WireCodec" "loadedFrame" "LWireCodec$Frame;") zin_W_35) (fun _ h9 => h9) rfl d_W_data_34 ?_
    refine va_get (D := (dC, dI)) (ci := 4) (v := .ref adF_parts) (C := R_F) (T := F_F) (N := 7) hx hb hts zi_F hown zz.1 hP 6 rfl rfl 0 (by decide) (hts (.fieldLink R_W 169 "WireCodec$Frame" "parts" "[J") zin_W_169) (fun _ h9 => h9) rfl d_W_data_37 ?_
    refine lv_iconst (v := (5 : Int32)) hx hb d_W_data_40 (by decide) ?_
    obtain ⟨hin, hG⟩ := zgd hG
    refine va_lald hx hb zz.1 hP 7 2 rfl rfl hin d_W_data_41 ?_
    refine lv_lstore (lv' := [(4, .long ((zF_parts sF_14) (5 : Int32).toNatClampNeg)), (0, .ref adW), (1, .int v1), (2, .int v2), (3, .int v3)]) hx hb d_W_data_42 hl (by decide) rfl (fun ls hl => ?_)
    refine lv_iload_n hx hb d_W_data_44 rfl (lv_at hl 3 rfl) ?_
    refine lv_if_lt (tgt := 56) hx hb d_W_data_45 (by decide) (fun hc => ?_) (fun hc => ?_)
    · have hG := zt hG hc
      exact k_W_data_56 X hA zz htr hnh hAs hRc hRz N sT sR_14 sG sF_14 _ hG adW adT adT_bytes adR adG adG_places adF adF_parts _ _ (hP.sub [0, 3, 4, 5, 1, 2, 6, 7] rfl) (hD.sub [0, 3, 4, 5, 1, 2, 6, 7] (by decide) rfl) hS _ (lv_sub hl [] rfl)
    · have hG := zf hG hc
      refine lv_iload_n hx hb d_W_data_48 rfl (lv_at hl 3 rfl) ?_
      refine lv_i2l hx hb d_W_data_49 rfl ?_
      refine lv_lload hx hb d_W_data_50 (lv_at hl 0 rfl) ?_
      refine W.lcmp hx hb d_W_data_52 ?_
      refine lv_if_lt (tgt := 66) hx hb d_W_data_53 (by decide) (fun hc => ?_) (fun hc => ?_)
      · have hG := zt hG hc
        refine lv_aload_n hx hb d_W_data_66 rfl (lv_at hl 1 rfl) ?_
        refine va_get (D := (dC, dI)) (ci := 0) (v := .ref adT) (C := R_W) (T := F_W) (N := 7) hx hb hts zi_W hown zz.1 hP 0 rfl rfl 0 (by decide) (hts (.fieldLink R_W 12 "WireCodec" "tape" "LWireCodec$Tape;") zin_W_12) (fun _ h9 => h9) rfl d_W_data_67 ?_
        refine lv_iload_n hx hb d_W_data_70 rfl (lv_at hl 4 rfl) ?_
        refine lv_if_eq (tgt := 84) hx hb d_W_data_71 (by decide) (fun hc => ?_) (fun hc => ?_)
        · have hG := zt hG hc
          refine lv_aload_n hx hb d_W_data_84 rfl (lv_at hl 1 rfl) ?_
          refine va_get (D := (dC, dI)) (ci := 0) (v := .ref adF) (C := R_W) (T := F_W) (N := 7) hx hb hts zi_W hown zz.1 hP 0 rfl rfl 3 (by decide) (hts (.fieldLink R_W 35 "WireCodec" "loadedFrame" "LWireCodec$Frame;") zin_W_35) (fun _ h9 => h9) rfl d_W_data_85 ?_
          refine va_get (D := (dC, dI)) (ci := 4) (v := .int (zF_dataPlace sF_14)) (C := R_F) (T := F_F) (N := 7) hx hb hts zi_F hown zz.1 hP 6 rfl rfl 1 (by decide) (hts (.fieldLink R_W 181 "WireCodec$Frame" "dataPlace" "I") zin_W_181) (fun _ h9 => h9) rfl d_W_data_88 ?_
          exact k_W_data_91 X hA zz htr hnh hAs hRc hRz N sT sR_14 sG sF_14 v2 (zF_dataPlace sF_14) _ hG adW adT adT_bytes adR adG adG_places adF adF_parts _ _ (hP.sub [0, 3, 4, 5, 1, 2, 6, 7] rfl) (hD.sub [0, 3, 4, 5, 1, 2, 6, 7] (by decide) rfl) hS _ (lv_sub hl [3] rfl)
        · have hG := zf hG hc
          refine lv_aload_n hx hb d_W_data_74 rfl (lv_at hl 1 rfl) ?_
          refine va_get (D := (dC, dI)) (ci := 0) (v := .ref adF) (C := R_W) (T := F_W) (N := 7) hx hb hts zi_W hown zz.1 hP 0 rfl rfl 3 (by decide) (hts (.fieldLink R_W 35 "WireCodec" "loadedFrame" "LWireCodec$Frame;") zin_W_35) (fun _ h9 => h9) rfl d_W_data_75 ?_
          refine va_get (D := (dC, dI)) (ci := 4) (v := .int (zF_secretPlace sF_14)) (C := R_F) (T := F_F) (N := 7) hx hb hts zi_F hown zz.1 hP 6 rfl rfl 2 (by decide) (hts (.fieldLink R_W 178 "WireCodec$Frame" "secretPlace" "I") zin_W_178) (fun _ h9 => h9) rfl d_W_data_78 ?_
          refine lv_goto (tgt := 91) hx hb d_W_data_81 (by decide) ?_
          exact k_W_data_91 X hA zz htr hnh hAs hRc hRz N sT sR_14 sG sF_14 v2 (zF_secretPlace sF_14) _ hG adW adT adT_bytes adR adG adG_places adF adF_parts _ _ (hP.sub [0, 3, 4, 5, 1, 2, 6, 7] rfl) (hD.sub [0, 3, 4, 5, 1, 2, 6, 7] (by decide) rfl) hS _ (lv_sub hl [3] rfl)
      · have hG := zf hG hc
        exact k_W_data_56 X hA zz htr hnh hAs hRc hRz N sT sR_14 sG sF_14 _ hG adW adT adT_bytes adR adG adG_places adF adF_parts _ _ (hP.sub [0, 3, 4, 5, 1, 2, 6, 7] rfl) (hD.sub [0, 3, 4, 5, 1, 2, 6, 7] (by decide) rfl) hS _ (lv_sub hl [] rfl)
  · have hG := zf hG hc
    refine lv_aload_n hx hb d_W_data_22 rfl (lv_at hl 0 rfl) ?_
    refine va_get (D := (dC, dI)) (ci := 0) (v := .ref adF) (C := R_W) (T := F_W) (N := 7) hx hb hts zi_W hown zz.1 hP 0 rfl rfl 3 (by decide) (hts (.fieldLink R_W 35 "WireCodec" "loadedFrame" "LWireCodec$Frame;") zin_W_35) (fun _ h9 => h9) rfl d_W_data_23 ?_
    refine va_get (D := (dC, dI)) (ci := 4) (v := .int (zF_secretBytes sF_14)) (C := R_F) (T := F_F) (N := 7) hx hb hts zi_F hown zz.1 hP 6 rfl rfl 3 (by decide) (hts (.fieldLink R_W 173 "WireCodec$Frame" "secretBytes" "I") zin_W_173) (fun _ h9 => h9) rfl d_W_data_26 ?_
    refine lv_i2l hx hb d_W_data_29 rfl ?_
    refine lv_goto (tgt := 42) hx hb d_W_data_30 (by decide) ?_
    exact k_W_data_42 X hA zz htr hnh hAs hRc hRz N sT sR_14 sG sF_14 v2 v3 ((zF_secretBytes sF_14).toInt64) _ hG adW adT adT_bytes adR adG adG_places adF adF_parts _ _ (hP.sub [0, 3, 4, 5, 1, 2, 6, 7] rfl) (hD.sub [0, 3, 4, 5, 1, 2, 6, 7] (by decide) rfl) hS _ (lv_sub hl [0, 2, 3] rfl)
set_option maxRecDepth 100000 in
set_option maxHeartbeats 4000000 in
theorem c_W_data (l : Launch) (dC : Nat → ClassId) (dI : Nat → Nat → Nat) (cB cI cL : ClassId) (sz : Nat) (adW adT adT_bytes adR adG adG_places adF adF_parts adH adD adP : Nat) (N : Nat) (sT : zT) (sR : zR) (sG : zG) (sF : zF) (v1 : Int32) (v2 : Int32) (v3 : Int32) (a : (Int32 ⊕ Nat) × zR × zF) (hG : g_W_data N sT sR sG sF v1 v2 v3 = some a) (htr : l.stackTraces = false) : zMet l y_W_data (zw y_W_data b_W_data 6 (some .int)) ({ frames := 7, cells := 2, slots := 12, locals := 145 }) (va_Pc [.ref adW, .int v1, .int v2, .int v3] (zpre dC dI cB cI cL sz (zwW adW adT adR adG adF adH adD adP ++ zwT adT adT_bytes cB cI cL sT ++ zwR adR adT cB cI cL sR ++ zwG adG adG_places cB cI cL sG ++ zwF adF adF_parts cB cI cL sF))) (q_W_data dC dI cB cI cL (va_A (zwW adW adT adR adG adF adH adD adP ++ zwT adT adT_bytes cB cI cL sT ++ zwR adR adT cB cI cL sR ++ zwG adG adG_places cB cI cL sG ++ zwF adF adF_parts cB cI cL sF) sz) adW adT adT_bytes adR adG adG_places adF adF_parts adH adD adP sT sG a) 2 12 (va_A (zwW adW adT adR adG adF adH adD adP ++ zwT adT adT_bytes cB cI cL sT ++ zwR adR adT cB cI cL sR ++ zwG adG adG_places cB cI cL sG ++ zwF adF adF_parts cB cI cL sF) sz) := by
  refine zMet.ofW (cc := b_W_data) (maxL := 6) (ret := (some .int)) (by decide) rfl ?_
  intro p e s m args below meth c s₁ B hml hv
  obtain ⟨rfl, hsz, hP, zz, hD0⟩ := hv
  subst hsz
  have X := zx_of (F := 7) (L := 145) B hml (Nat.le_refl _) (Nat.le_refl _)
  have hD := hD0.self (sz := s.heap.size)
  have hA : ∀ q : Nat, s.heap.size ≤ q → va_A (zwW adW adT adR adG adF adH adD adP ++ zwT adT adT_bytes cB cI cL sT ++ zwR adR adT cB cI cL sR ++ zwG adG adG_places cB cI cL sG ++ zwF adF adF_parts cB cI cL sF) s.heap.size q := fun q h => Or.inr h
  have hl := lv_entry ([.ref adW, .int v1, .int v2, .int v3]) (n := 6) (Nat.le_of_ble_eq_true rfl)
  rw [lg_entry_eq]
  generalize (lg_sl ([.ref adW, .int v1, .int v2, .int v3]) ++ List.replicate (6 - (lg_sl ([.ref adW, .int v1, .int v2, .int v3])).length) Slot.unset).toArray = ls at hl ⊢
  have hnh := BodyLoose.noHandlers B (atoms_spec (ws := zw y_W_data b_W_data 6 (some .int)) B.pre _ List.mem_cons_self)
  have hAs := zstatics hP
  exact k_W_data_0 X hA zz htr hnh hAs (Nat.le_refl _) (Nat.le_refl _) N sT sR sG sF v1 v2 v3 a hG adW adT adT_bytes adR adG adG_places adF adF_parts _ _ hP hD va_S.rf ls hl
noncomputable def g_W_range_38 (N : Nat) (sT : zT) (sR : zR) (sG : zG) (sF : zF) : Option ((Int64 ⊕ Nat) × zR × zF) := some (.inr 3, sR, sF)
noncomputable def g_W_range_102 (N : Nat) (sT : zT) (sR : zR) (sG : zG) (sF : zF) (s0 : Int64) : Option ((Int64 ⊕ Nat) × zR × zF) := some (.inl s0, sR, sF)
noncomputable def g_W_range_c78 (N : Nat) (sT : zT) (sG : zG) (v3 : Int32) (sR_78 : zR) (sF_78 : zF) : Option ((Int64 ⊕ Nat) × zR × zF) := if v3 = (0 : Int32) then (g_W_range_102 N sT sR_78 sG sF_78 (zF_low sF_78)) else (g_W_range_102 N sT sR_78 sG sF_78 (zF_high sF_78))
noncomputable def g_W_range_c66 (N : Nat) (sT : zT) (sG : zG) (v2 : Int32) (v3 : Int32) (sF_14 : zF) (sR_66 : zR) : Option ((Int64 ⊕ Nat) × zR × zF) := (g_F_walkRanges N sT sR_66 sF_14 v2).bind (fun a => g_W_range_c78 N sT sG v3 a.1 a.2)
noncomputable def g_W_range_c14 (N : Nat) (sT : zT) (sG : zG) (v2 : Int32) (v3 : Int32) (sR_14 : zR) (sF_14 : zF) : Option ((Int64 ⊕ Nat) × zR × zF) := if v2 < (0 : Int32) then (g_W_range_38 N sT sR_14 sG sF_14) else (zg (vp_in (6 : Int32) 12) (if (lg_cmp v2.toInt64 ((zF_parts sF_14) (6 : Int32).toNatClampNeg)) < (0 : Int32) then ((g_R_start sR_14 (zF_rangesPlace sF_14) (zG_limit sG)).bind (fun a => g_W_range_c66 N sT sG v2 v3 sF_14 a)) else (g_W_range_38 N sT sR_14 sG sF_14)))
noncomputable def g_W_range_c2 (N : Nat) (sT : zT) (sG : zG) (sF : zF) (v2 : Int32) (v3 : Int32) (sR_2 : zR) : Option ((Int64 ⊕ Nat) × zR × zF) := (g_F_parse N sT sR_2 sF (2 : Int32)).bind (fun a => g_W_range_c14 N sT sG v2 v3 a.2.1 a.2.2)
noncomputable def g_W_range (N : Nat) (sT : zT) (sR : zR) (sG : zG) (sF : zF) (v1 : Int32) (v2 : Int32) (v3 : Int32) : Option ((Int64 ⊕ Nat) × zR × zF) := (g_W_startAtFrame sR sG v1).bind (fun a => zmx (a.1) (fun r9 => g_W_range_c2 N sT sG sF v2 v3 a.2) (fun k9 => some (.inr k9, a.2, sF)))
def q_W_range (dC : Nat → ClassId) (dI : Nat → Nat → Nat) (cB cI cL : ClassId) (A : Nat → Prop) (adW : Nat) (adT : Nat) (adT_bytes : Nat) (adR : Nat) (adG : Nat) (adG_places : Nat) (adF : Nat) (adF_parts : Nat) (adH : Nat) (adD : Nat) (adP : Nat) (sT : zT) (sG : zG) (a : (Int64 ⊕ Nat) × zR × zF) : Array Value → State → Outcome → State → Prop := zQx (α := Int64) (fun r => some (.long r)) (fun r (u : zR × zF) => (r, u.1, u.2) = a) (dC, dI) (fun u => (zwW adW adT adR adG adF adH adD adP ++ zwT adT adT_bytes cB cI cL sT ++ zwR adR adT cB cI cL u.1 ++ zwG adG adG_places cB cI cL sG ++ zwF adF adF_parts cB cI cL u.2)) A
set_option maxRecDepth 100000 in
set_option maxHeartbeats 4000000 in
theorem k_W_range_38 {p : Program} {l : Launch} {e : Env} {R : Room} {s : State} {m : MethodId} {args : Array Value} {below : List Frame} {meth : Method} {c : Code} {dC : Nat → ClassId} {dI : Nat → Nat → Nat} {cB cI cL : ClassId} {A : Nat → Prop} {adH adD adP : Nat} (X : zx p s m args meth c R R_W b_W_range (some .long) 4 7 145) (hA : ∀ q, s.heap.size ≤ q → A q) (zz : zk dC dI cB cI cL A s) (htr : l.stackTraces = false) (hnh : c.exceptionTable.isEmpty = true) (hAs : ∀ q, A q → ∀ cell, s.heap[q]? = some cell → cell.vm.isStatics = false) (hRc : 2 ≤ R.cells) (hRz : 12 ≤ R.slots)  (N : Nat) (sT : zT) (sR : zR) (sG : zG) (sF : zF) (a : (Int64 ⊕ Nat) × zR × zF) (hG : g_W_range_38 N sT sR sG sF = some a) (adW adT adT_bytes adR adG adG_places adF adF_parts : Nat) (H : Heap) (locs : List Loc) (hP : va_P (dC, dI) zcl (zwW adW adT adR adG adF adH adD adP ++ zwT adT adT_bytes cB cI cL sT ++ zwR adR adT cB cI cL sR ++ zwG adG adG_places cB cI cL sG ++ zwF adF adF_parts cB cI cL sF) H) (hD : va_D A (zwW adW adT adR adG adF adH adD adP ++ zwT adT adT_bytes cB cI cL sT ++ zwR adR adT cB cI cL sR ++ zwG adG adG_places cB cI cL sG ++ zwF adF adF_parts cB cI cL sF)) (hS : va_S A s.heap H locs) (ls : Array Slot) (hl : lv_has ls 4 []) : W p l e R s m args below meth c H locs 1 6 (zMQ below (q_W_range dC dI cB cI cL A adW adT adT_bytes adR adG adG_places adF adF_parts adH adD adP sT sG a) args s 2 12 A) (F0 m 38 ls []) := by
  obtain ⟨hx, hb, hr, hml, hown, hts, hlocks, hRf, hRl⟩ := id X
  unfold g_W_range_38 at hG
  exact zthrow htr X zz hnh hAs hA hS 3 (text := "the frame has no such range") zin_W_164 zini_3 (by decide +kernel) zat_W_168 zfit_3 hl d_W_range_38 d_W_range_41 d_W_range_42 d_W_range_44 d_W_range_47 (Nat.le_trans (Nat.le_of_ble_eq_true rfl) hRf) (Nat.le_trans (Nat.le_of_ble_eq_true rfl) hRl) hRc hRz (by decide) (by decide) (fun t9 q9 hz9 ho9 ht9 => ⟨(sR, sF), va_P.kept hP (zold hP ho9), hD, zFr hS hz9 ho9, Or.inr ⟨3, q9, rfl, Option.some.inj hG, ht9⟩⟩)
set_option maxRecDepth 100000 in
set_option maxHeartbeats 4000000 in
theorem k_W_range_102 {p : Program} {l : Launch} {e : Env} {R : Room} {s : State} {m : MethodId} {args : Array Value} {below : List Frame} {meth : Method} {c : Code} {dC : Nat → ClassId} {dI : Nat → Nat → Nat} {cB cI cL : ClassId} {A : Nat → Prop} {adH adD adP : Nat} (X : zx p s m args meth c R R_W b_W_range (some .long) 4 7 145) (hA : ∀ q, s.heap.size ≤ q → A q) (zz : zk dC dI cB cI cL A s) (htr : l.stackTraces = false) (hnh : c.exceptionTable.isEmpty = true) (hAs : ∀ q, A q → ∀ cell, s.heap[q]? = some cell → cell.vm.isStatics = false) (hRc : 2 ≤ R.cells) (hRz : 12 ≤ R.slots)  (N : Nat) (sT : zT) (sR : zR) (sG : zG) (sF : zF) (s0 : Int64) (a : (Int64 ⊕ Nat) × zR × zF) (hG : g_W_range_102 N sT sR sG sF s0 = some a) (adW adT adT_bytes adR adG adG_places adF adF_parts : Nat) (H : Heap) (locs : List Loc) (hP : va_P (dC, dI) zcl (zwW adW adT adR adG adF adH adD adP ++ zwT adT adT_bytes cB cI cL sT ++ zwR adR adT cB cI cL sR ++ zwG adG adG_places cB cI cL sG ++ zwF adF adF_parts cB cI cL sF) H) (hD : va_D A (zwW adW adT adR adG adF adH adD adP ++ zwT adT adT_bytes cB cI cL sT ++ zwR adR adT cB cI cL sR ++ zwG adG adG_places cB cI cL sG ++ zwF adF adF_parts cB cI cL sF)) (hS : va_S A s.heap H locs) (ls : Array Slot) (hl : lv_has ls 4 []) : W p l e R s m args below meth c H locs 1 6 (zMQ below (q_W_range dC dI cB cI cL A adW adT adT_bytes adR adG adG_places adF adF_parts adH adD adP sT sG a) args s 2 12 A) (F0 m 102 ls [.long s0]) := by
  obtain ⟨hx, hb, hr, hml, hown, hts, hlocks, hRf, hRl⟩ := id X
  unfold g_W_range_102 at hG
  refine W.widen (k := 2) (n := 12) (by decide) (by decide) ?_
  exact zxretl (u := (sR, sF)) (v := s0) X hlocks (Option.some.inj hG) hP hD hS d_W_range_102
set_option maxRecDepth 100000 in
set_option maxHeartbeats 4000000 in
theorem k_W_range_0 {p : Program} {l : Launch} {e : Env} {R : Room} {s : State} {m : MethodId} {args : Array Value} {below : List Frame} {meth : Method} {c : Code} {dC : Nat → ClassId} {dI : Nat → Nat → Nat} {cB cI cL : ClassId} {A : Nat → Prop} {adH adD adP : Nat} (X : zx p s m args meth c R R_W b_W_range (some .long) 4 7 145) (hA : ∀ q, s.heap.size ≤ q → A q) (zz : zk dC dI cB cI cL A s) (htr : l.stackTraces = false) (hnh : c.exceptionTable.isEmpty = true) (hAs : ∀ q, A q → ∀ cell, s.heap[q]? = some cell → cell.vm.isStatics = false) (hRc : 2 ≤ R.cells) (hRz : 12 ≤ R.slots)  (N : Nat) (sT : zT) (sR : zR) (sG : zG) (sF : zF) (v1 : Int32) (v2 : Int32) (v3 : Int32) (a : (Int64 ⊕ Nat) × zR × zF) (hG : g_W_range N sT sR sG sF v1 v2 v3 = some a) (adW adT adT_bytes adR adG adG_places adF adF_parts : Nat) (H : Heap) (locs : List Loc) (hP : va_P (dC, dI) zcl (zwW adW adT adR adG adF adH adD adP ++ zwT adT adT_bytes cB cI cL sT ++ zwR adR adT cB cI cL sR ++ zwG adG adG_places cB cI cL sG ++ zwF adF adF_parts cB cI cL sF) H) (hD : va_D A (zwW adW adT adR adG adF adH adD adP ++ zwT adT adT_bytes cB cI cL sT ++ zwR adR adT cB cI cL sR ++ zwG adG adG_places cB cI cL sG ++ zwF adF adF_parts cB cI cL sF)) (hS : va_S A s.heap H locs) (ls : Array Slot) (hl : lv_has ls 4 [(0, .ref adW), (1, .int v1), (2, .int v2), (3, .int v3)]) : W p l e R s m args below meth c H locs 0 0 (zMQ below (q_W_range dC dI cB cI cL A adW adT adT_bytes adR adG adG_places adF adF_parts adH adD adP sT sG a) args s 2 12 A) (F0 m 0 ls []) := by
  obtain ⟨hx, hb, hr, hml, hown, hts, hlocks, hRf, hRl⟩ := id X
  unfold g_W_range at hG
  refine lv_aload_n hx hb d_W_range_0 rfl (lv_at hl 0 rfl) ?_
  refine lv_iload_n hx hb d_W_range_1 rfl (lv_at hl 1 rfl) ?_
  obtain ⟨a_2, hx_2, hG⟩ := zb hG
  have hr_2 := zrunXV (p := p) (e := e) (below := below) (meth := meth) (As := [.int v1]) (rest := []) (st0 := [.int v1, .ref adW]) (cells := 0) (slots := 0) X zz hP hD hS hA [0, 3, 4, 5] (by decide) rfl (c_W_startAtFrame l dC dI cB cI cL H.size adW adR adG adG_places adT adF adH adD adP sR sG v1 _ hx_2 htr) zy_W_startAtFrame zv_W_startAtFrame (hts (.methodLink R_W 161 y_W_startAtFrame) zin_W_161) hl rfl rfl d_W_range_2 (lv_room (Nat.le_of_ble_eq_true rfl)) rfl rfl ⟨Nat.le_trans (Nat.le_of_ble_eq_true rfl) hRf, Nat.le_trans (Nat.le_of_ble_eq_true rfl) hRl⟩ ⟨(Nat.le_trans (Nat.le_of_ble_eq_true rfl) hRc), (Nat.le_trans (Nat.le_of_ble_eq_true rfl) hRz)⟩ 0 0 rfl rfl
  refine zcallX (wr := (zwT adT adT_bytes cB cI cL sT ++ zwF adF adF_parts cB cI cL sF)) hr_2 hP hD hS hA [0, 3, 4, 5] [1, 2, 6, 7] rfl rfl (by decide) (by decide) hnh hlocks (by decide) (by decide) (fun k_2 u_2 t9 q9 hw_2 hP hD hF9 ht9 => ?_) (fun r_2 u_2 H locs hw_2 hP hD hS => ?_)
  · obtain ⟨sR_2, rfl⟩ : ∃ z, z = u_2 := ⟨_, rfl⟩
    subst hw_2
    have hP : va_P (dC, dI) zcl (zwT adT adT_bytes cB cI cL sT ++ zwF adF adF_parts cB cI cL sF ++ zwW adW adT adR adG adF adH adD adP ++ zwR adR adT cB cI cL sR_2 ++ zwG adG adG_places cB cI cL sG) t9.heap := hP
    have hD : va_D A (zwT adT adT_bytes cB cI cL sT ++ zwF adF adF_parts cB cI cL sF ++ zwW adW adT adR adG adF adH adD adP ++ zwR adR adT cB cI cL sR_2 ++ zwG adG adG_places cB cI cL sG) := hD
    exact ⟨(sR_2, sF), (hP.sub [4, 0, 1, 5, 6, 7, 2, 3] rfl), (hD.sub [4, 0, 1, 5, 6, 7, 2, 3] (by decide) rfl), hF9, Or.inr ⟨k_2, q9, rfl, Option.some.inj hG, ht9⟩⟩
  obtain ⟨sR_2, rfl⟩ : ∃ z, z = u_2 := ⟨_, rfl⟩
  subst hw_2
  have hP : va_P (dC, dI) zcl (zwT adT adT_bytes cB cI cL sT ++ zwF adF adF_parts cB cI cL sF ++ zwW adW adT adR adG adF adH adD adP ++ zwR adR adT cB cI cL sR_2 ++ zwG adG adG_places cB cI cL sG) H := hP
  have hD : va_D A (zwT adT adT_bytes cB cI cL sT ++ zwF adF adF_parts cB cI cL sF ++ zwW adW adT adR adG adF adH adD adP ++ zwR adR adT cB cI cL sR_2 ++ zwG adG adG_places cB cI cL sG) := hD
  have hG : g_W_range_c2 N sT sG sF v2 v3 sR_2 = some a := hG
  unfold g_W_range_c2 at hG
  refine lv_aload_n hx hb d_W_range_5 rfl (lv_at hl 0 rfl) ?_
  refine va_get (D := (dC, dI)) (ci := 0) (v := .ref adF) (C := R_W) (T := F_W) (N := 7) hx hb hts zi_W hown zz.1 hP 4 rfl rfl 3 (by decide) (hts (.fieldLink R_W 35 "WireCodec" "loadedFrame" "LWireCodec$Frame;") zin_W_35) (fun _ h9 => h9) rfl d_W_range_6 ?_
  refine lv_aload_n hx hb d_W_range_9 rfl (lv_at hl 0 rfl) ?_
  refine va_get (D := (dC, dI)) (ci := 0) (v := .ref adR) (C := R_W) (T := F_W) (N := 7) hx hb hts zi_W hown zz.1 hP 4 rfl rfl 1 (by decide) (hts (.fieldLink R_W 21 "WireCodec" "reader" "LWireCodec$Reader;") zin_W_21) (fun _ h9 => h9) rfl d_W_range_10 ?_
  refine lv_iconst (v := (2 : Int32)) hx hb d_W_range_13 (by decide) ?_
  obtain ⟨a_14, hx_14, hG⟩ := zb hG
  have hr_14 := zrunV (p := p) (e := e) (below := below) (meth := meth) (As := [.ref adR, .int (2 : Int32)]) (rest := []) (st0 := [.int (2 : Int32), .ref adR, .ref adF]) (cells := 1) (slots := 6) X zz hP hD hS hA [0, 1, 5, 2, 3] (by decide) rfl (c_F_parse l dC dI cB cI cL H.size adT adT_bytes adR adF adF_parts N sT sR_2 sF (2 : Int32) _ hx_14) zy_F_parse zv_F_parse (hts (.methodLink R_W 142 y_F_parse) zin_W_142) hl rfl rfl d_W_range_14 (lv_room (Nat.le_of_ble_eq_true rfl)) rfl rfl ⟨Nat.le_trans (Nat.le_of_ble_eq_true rfl) hRf, Nat.le_trans (Nat.le_of_ble_eq_true rfl) hRl⟩ ⟨(Nat.le_trans (Nat.le_of_ble_eq_true rfl) hRc), (Nat.le_trans (Nat.le_of_ble_eq_true rfl) hRz)⟩ 3 4 rfl rfl
  refine zcalli (wr := (zwW adW adT adR adG adF adH adD adP ++ zwG adG adG_places cB cI cL sG)) hr_14 hP hD hS hA [0, 1, 5, 2, 3] [4, 6, 7] rfl rfl (by decide) (by decide) (fun r_14 u_14 H locs hw_14 hP hD hS => ?_)
  obtain ⟨sR_14, sF_14⟩ := u_14
  subst hw_14
  have hP : va_P (dC, dI) zcl (zwW adW adT adR adG adF adH adD adP ++ zwG adG adG_places cB cI cL sG ++ zwT adT adT_bytes cB cI cL sT ++ zwR adR adT cB cI cL sR_14 ++ zwF adF adF_parts cB cI cL sF_14) H := hP
  have hD : va_D A (zwW adW adT adR adG adF adH adD adP ++ zwG adG adG_places cB cI cL sG ++ zwT adT adT_bytes cB cI cL sT ++ zwR adR adT cB cI cL sR_14 ++ zwF adF adF_parts cB cI cL sF_14) := hD
  have hG : g_W_range_c14 N sT sG v2 v3 sR_14 sF_14 = some a := hG
  unfold g_W_range_c14 at hG
  refine lv_pop hx hb d_W_range_17 rfl ?_
  refine lv_iload_n hx hb d_W_range_18 rfl (lv_at hl 2 rfl) ?_
  refine lv_if_lt (tgt := 38) hx hb d_W_range_19 (by decide) (fun hc => ?_) (fun hc => ?_)
  · have hG := zt hG hc
    exact k_W_range_38 X hA zz htr hnh hAs hRc hRz N sT sR_14 sG sF_14 _ hG adW adT adT_bytes adR adG adG_places adF adF_parts _ _ (hP.sub [0, 3, 4, 5, 1, 2, 6, 7] rfl) (hD.sub [0, 3, 4, 5, 1, 2, 6, 7] (by decide) rfl) hS _ (lv_sub hl [] rfl)
  · have hG := zf hG hc
    refine lv_iload_n hx hb d_W_range_22 rfl (lv_at hl 2 rfl) ?_
    refine lv_i2l hx hb d_W_range_23 rfl ?_
    refine lv_aload_n hx hb d_W_range_24 rfl (lv_at hl 0 rfl) ?_
    refine va_get (D := (dC, dI)) (ci := 0) (v := .ref adF) (C := R_W) (T := F_W) (N := 7) hx hb hts zi_W hown zz.1 hP 0 rfl rfl 3 (by decide) (hts (.fieldLink R_W 35 "WireCodec" "loadedFrame" "LWireCodec$Frame;") zin_W_35) (fun _ h9 => h9) rfl d_W_range_25 ?_
    refine va_get (D := (dC, dI)) (ci := 4) (v := .ref adF_parts) (C := R_F) (T := F_F) (N := 7) hx hb hts zi_F hown zz.1 hP 6 rfl rfl 0 (by decide) (hts (.fieldLink R_W 169 "WireCodec$Frame" "parts" "[J") zin_W_169) (fun _ h9 => h9) rfl d_W_range_28 ?_
    refine lv_bipush (v := (6 : Int32)) hx hb d_W_range_31 (by decide) ?_
    obtain ⟨hin, hG⟩ := zgd hG
    refine va_lald hx hb zz.1 hP 7 2 rfl rfl hin d_W_range_33 ?_
    refine W.lcmp hx hb d_W_range_34 ?_
    refine lv_if_lt (tgt := 48) hx hb d_W_range_35 (by decide) (fun hc => ?_) (fun hc => ?_)
    · have hG := zt hG hc
      refine lv_aload_n hx hb d_W_range_48 rfl (lv_at hl 0 rfl) ?_
      refine va_get (D := (dC, dI)) (ci := 0) (v := .ref adR) (C := R_W) (T := F_W) (N := 7) hx hb hts zi_W hown zz.1 hP 0 rfl rfl 1 (by decide) (hts (.fieldLink R_W 21 "WireCodec" "reader" "LWireCodec$Reader;") zin_W_21) (fun _ h9 => h9) rfl d_W_range_49 ?_
      refine lv_aload_n hx hb d_W_range_52 rfl (lv_at hl 0 rfl) ?_
      refine va_get (D := (dC, dI)) (ci := 0) (v := .ref adF) (C := R_W) (T := F_W) (N := 7) hx hb hts zi_W hown zz.1 hP 0 rfl rfl 3 (by decide) (hts (.fieldLink R_W 35 "WireCodec" "loadedFrame" "LWireCodec$Frame;") zin_W_35) (fun _ h9 => h9) rfl d_W_range_53 ?_
      refine va_get (D := (dC, dI)) (ci := 4) (v := .int (zF_rangesPlace sF_14)) (C := R_F) (T := F_F) (N := 7) hx hb hts zi_F hown zz.1 hP 6 rfl rfl 4 (by decide) (hts (.fieldLink R_W 186 "WireCodec$Frame" "rangesPlace" "I") zin_W_186) (fun _ h9 => h9) rfl d_W_range_56 ?_
      refine lv_aload_n hx hb d_W_range_59 rfl (lv_at hl 0 rfl) ?_
      refine va_get (D := (dC, dI)) (ci := 0) (v := .ref adG) (C := R_W) (T := F_W) (N := 7) hx hb hts zi_W hown zz.1 hP 0 rfl rfl 2 (by decide) (hts (.fieldLink R_W 28 "WireCodec" "reading" "LWireCodec$Reading;") zin_W_28) (fun _ h9 => h9) rfl d_W_range_60 ?_
      refine va_get (D := (dC, dI)) (ci := 3) (v := .int (zG_limit sG)) (C := R_G) (T := F_G) (N := 7) hx hb hts zi_G hown zz.1 hP 1 rfl rfl 3 (by decide) (hts (.fieldLink R_W 132 "WireCodec$Reading" "limit" "I") zin_W_132) (fun _ h9 => h9) rfl d_W_range_63 ?_
      obtain ⟨a_66, hx_66, hG⟩ := zb hG
      have hr_66 := zrunV (p := p) (e := e) (below := below) (meth := meth) (As := [.int (zF_rangesPlace sF_14), .int (zG_limit sG)]) (rest := []) (st0 := [.int (zG_limit sG), .int (zF_rangesPlace sF_14), .ref adR]) (cells := 1) (slots := 6) X zz hP hD hS hA [5] (by decide) rfl (c_R_start l dC dI cB cI cL H.size adR adT sR_14 (zF_rangesPlace sF_14) (zG_limit sG) _ hx_66) zy_R_start zv_R_start (hts (.methodLink R_W 114 y_R_start) zin_W_114) hl rfl rfl d_W_range_66 (lv_room (Nat.le_of_ble_eq_true rfl)) rfl rfl ⟨Nat.le_trans (Nat.le_of_ble_eq_true rfl) hRf, Nat.le_trans (Nat.le_of_ble_eq_true rfl) hRl⟩ ⟨(Nat.le_trans (Nat.le_of_ble_eq_true rfl) hRc), (Nat.le_trans (Nat.le_of_ble_eq_true rfl) hRz)⟩ 0 2 rfl rfl
      refine zcallv (wr := (zwW adW adT adR adG adF adH adD adP ++ zwG adG adG_places cB cI cL sG ++ zwT adT adT_bytes cB cI cL sT ++ zwF adF adF_parts cB cI cL sF_14)) hr_66 hP hD hS hA [5] [0, 1, 2, 3, 4, 6, 7] rfl rfl (by decide) (by decide) (fun u_66 H locs hw_66 hP hD hS => ?_)
      obtain ⟨sR_66, rfl⟩ : ∃ z, z = u_66 := ⟨_, rfl⟩
      subst hw_66
      have hP : va_P (dC, dI) zcl (zwW adW adT adR adG adF adH adD adP ++ zwG adG adG_places cB cI cL sG ++ zwT adT adT_bytes cB cI cL sT ++ zwF adF adF_parts cB cI cL sF_14 ++ zwR adR adT cB cI cL sR_66) H := hP
      have hD : va_D A (zwW adW adT adR adG adF adH adD adP ++ zwG adG adG_places cB cI cL sG ++ zwT adT adT_bytes cB cI cL sT ++ zwF adF adF_parts cB cI cL sF_14 ++ zwR adR adT cB cI cL sR_66) := hD
      have hG : g_W_range_c66 N sT sG v2 v3 sF_14 sR_66 = some a := hG
      unfold g_W_range_c66 at hG
      refine lv_aload_n hx hb d_W_range_69 rfl (lv_at hl 0 rfl) ?_
      refine va_get (D := (dC, dI)) (ci := 0) (v := .ref adF) (C := R_W) (T := F_W) (N := 7) hx hb hts zi_W hown zz.1 hP 0 rfl rfl 3 (by decide) (hts (.fieldLink R_W 35 "WireCodec" "loadedFrame" "LWireCodec$Frame;") zin_W_35) (fun _ h9 => h9) rfl d_W_range_70 ?_
      refine lv_aload_n hx hb d_W_range_73 rfl (lv_at hl 0 rfl) ?_
      refine va_get (D := (dC, dI)) (ci := 0) (v := .ref adR) (C := R_W) (T := F_W) (N := 7) hx hb hts zi_W hown zz.1 hP 0 rfl rfl 1 (by decide) (hts (.fieldLink R_W 21 "WireCodec" "reader" "LWireCodec$Reader;") zin_W_21) (fun _ h9 => h9) rfl d_W_range_74 ?_
      refine lv_iload_n hx hb d_W_range_77 rfl (lv_at hl 2 rfl) ?_
      obtain ⟨a_78, hx_78, hG⟩ := zb hG
      have hr_78 := zrunV (p := p) (e := e) (below := below) (meth := meth) (As := [.ref adR, .int v2]) (rest := []) (st0 := [.int v2, .ref adR, .ref adF]) (cells := 1) (slots := 6) X zz hP hD hS hA [3, 4, 7, 5, 6] (by decide) rfl (c_F_walkRanges l dC dI cB cI cL H.size adT adT_bytes adR adF adF_parts N sT sR_66 sF_14 v2 _ hx_78) zy_F_walkRanges zv_F_walkRanges (hts (.methodLink R_W 189 y_F_walkRanges) zin_W_189) hl rfl rfl d_W_range_78 (lv_room (Nat.le_of_ble_eq_true rfl)) rfl rfl ⟨Nat.le_trans (Nat.le_of_ble_eq_true rfl) hRf, Nat.le_trans (Nat.le_of_ble_eq_true rfl) hRl⟩ ⟨(Nat.le_trans (Nat.le_of_ble_eq_true rfl) hRc), (Nat.le_trans (Nat.le_of_ble_eq_true rfl) hRz)⟩ 3 4 rfl rfl
      refine zcallv (wr := (zwW adW adT adR adG adF adH adD adP ++ zwG adG adG_places cB cI cL sG)) hr_78 hP hD hS hA [3, 4, 7, 5, 6] [0, 1, 2] rfl rfl (by decide) (by decide) (fun u_78 H locs hw_78 hP hD hS => ?_)
      obtain ⟨sR_78, sF_78⟩ := u_78
      subst hw_78
      have hP : va_P (dC, dI) zcl (zwW adW adT adR adG adF adH adD adP ++ zwG adG adG_places cB cI cL sG ++ zwT adT adT_bytes cB cI cL sT ++ zwR adR adT cB cI cL sR_78 ++ zwF adF adF_parts cB cI cL sF_78) H := hP
      have hD : va_D A (zwW adW adT adR adG adF adH adD adP ++ zwG adG adG_places cB cI cL sG ++ zwT adT adT_bytes cB cI cL sT ++ zwR adR adT cB cI cL sR_78 ++ zwF adF adF_parts cB cI cL sF_78) := hD
      have hG : g_W_range_c78 N sT sG v3 sR_78 sF_78 = some a := hG
      unfold g_W_range_c78 at hG
      refine lv_iload_n hx hb d_W_range_81 rfl (lv_at hl 3 rfl) ?_
      refine lv_if_eq (tgt := 95) hx hb d_W_range_82 (by decide) (fun hc => ?_) (fun hc => ?_)
      · have hG := zt hG hc
        refine lv_aload_n hx hb d_W_range_95 rfl (lv_at hl 0 rfl) ?_
        refine va_get (D := (dC, dI)) (ci := 0) (v := .ref adF) (C := R_W) (T := F_W) (N := 7) hx hb hts zi_W hown zz.1 hP 0 rfl rfl 3 (by decide) (hts (.fieldLink R_W 35 "WireCodec" "loadedFrame" "LWireCodec$Frame;") zin_W_35) (fun _ h9 => h9) rfl d_W_range_96 ?_
        refine va_get (D := (dC, dI)) (ci := 4) (v := .long (zF_low sF_78)) (C := R_F) (T := F_F) (N := 7) hx hb hts zi_F hown zz.1 hP 6 rfl rfl 5 (by decide) (hts (.fieldLink R_W 197 "WireCodec$Frame" "low" "J") zin_W_197) (fun _ h9 => h9) rfl d_W_range_99 ?_
        exact k_W_range_102 X hA zz htr hnh hAs hRc hRz N sT sR_78 sG sF_78 (zF_low sF_78) _ hG adW adT adT_bytes adR adG adG_places adF adF_parts _ _ (hP.sub [0, 3, 4, 5, 1, 2, 6, 7] rfl) (hD.sub [0, 3, 4, 5, 1, 2, 6, 7] (by decide) rfl) hS _ (lv_sub hl [] rfl)
      · have hG := zf hG hc
        refine lv_aload_n hx hb d_W_range_85 rfl (lv_at hl 0 rfl) ?_
        refine va_get (D := (dC, dI)) (ci := 0) (v := .ref adF) (C := R_W) (T := F_W) (N := 7) hx hb hts zi_W hown zz.1 hP 0 rfl rfl 3 (by decide) (hts (.fieldLink R_W 35 "WireCodec" "loadedFrame" "LWireCodec$Frame;") zin_W_35) (fun _ h9 => h9) rfl d_W_range_86 ?_
        refine va_get (D := (dC, dI)) (ci := 4) (v := .long (zF_high sF_78)) (C := R_F) (T := F_F) (N := 7) hx hb hts zi_F hown zz.1 hP 6 rfl rfl 6 (by decide) (hts (.fieldLink R_W 193 "WireCodec$Frame" "high" "J") zin_W_193) (fun _ h9 => h9) rfl d_W_range_89 ?_
        refine lv_goto (tgt := 102) hx hb d_W_range_92 (by decide) ?_
        exact k_W_range_102 X hA zz htr hnh hAs hRc hRz N sT sR_78 sG sF_78 (zF_high sF_78) _ hG adW adT adT_bytes adR adG adG_places adF adF_parts _ _ (hP.sub [0, 3, 4, 5, 1, 2, 6, 7] rfl) (hD.sub [0, 3, 4, 5, 1, 2, 6, 7] (by decide) rfl) hS _ (lv_sub hl [] rfl)
    · have hG := zf hG hc
      exact k_W_range_38 X hA zz htr hnh hAs hRc hRz N sT sR_14 sG sF_14 _ hG adW adT adT_bytes adR adG adG_places adF adF_parts _ _ (hP.sub [0, 3, 4, 5, 1, 2, 6, 7] rfl) (hD.sub [0, 3, 4, 5, 1, 2, 6, 7] (by decide) rfl) hS _ (lv_sub hl [] rfl)
set_option maxRecDepth 100000 in
set_option maxHeartbeats 4000000 in
theorem c_W_range (l : Launch) (dC : Nat → ClassId) (dI : Nat → Nat → Nat) (cB cI cL : ClassId) (sz : Nat) (adW adT adT_bytes adR adG adG_places adF adF_parts adH adD adP : Nat) (N : Nat) (sT : zT) (sR : zR) (sG : zG) (sF : zF) (v1 : Int32) (v2 : Int32) (v3 : Int32) (a : (Int64 ⊕ Nat) × zR × zF) (hG : g_W_range N sT sR sG sF v1 v2 v3 = some a) (htr : l.stackTraces = false) : zMet l y_W_range (zw y_W_range b_W_range 4 (some .long)) ({ frames := 7, cells := 2, slots := 12, locals := 145 }) (va_Pc [.ref adW, .int v1, .int v2, .int v3] (zpre dC dI cB cI cL sz (zwW adW adT adR adG adF adH adD adP ++ zwT adT adT_bytes cB cI cL sT ++ zwR adR adT cB cI cL sR ++ zwG adG adG_places cB cI cL sG ++ zwF adF adF_parts cB cI cL sF))) (q_W_range dC dI cB cI cL (va_A (zwW adW adT adR adG adF adH adD adP ++ zwT adT adT_bytes cB cI cL sT ++ zwR adR adT cB cI cL sR ++ zwG adG adG_places cB cI cL sG ++ zwF adF adF_parts cB cI cL sF) sz) adW adT adT_bytes adR adG adG_places adF adF_parts adH adD adP sT sG a) 2 12 (va_A (zwW adW adT adR adG adF adH adD adP ++ zwT adT adT_bytes cB cI cL sT ++ zwR adR adT cB cI cL sR ++ zwG adG adG_places cB cI cL sG ++ zwF adF adF_parts cB cI cL sF) sz) := by
  refine zMet.ofW (cc := b_W_range) (maxL := 4) (ret := (some .long)) (by decide) rfl ?_
  intro p e s m args below meth c s₁ B hml hv
  obtain ⟨rfl, hsz, hP, zz, hD0⟩ := hv
  subst hsz
  have X := zx_of (F := 7) (L := 145) B hml (Nat.le_refl _) (Nat.le_refl _)
  have hD := hD0.self (sz := s.heap.size)
  have hA : ∀ q : Nat, s.heap.size ≤ q → va_A (zwW adW adT adR adG adF adH adD adP ++ zwT adT adT_bytes cB cI cL sT ++ zwR adR adT cB cI cL sR ++ zwG adG adG_places cB cI cL sG ++ zwF adF adF_parts cB cI cL sF) s.heap.size q := fun q h => Or.inr h
  have hl := lv_entry ([.ref adW, .int v1, .int v2, .int v3]) (n := 4) (Nat.le_of_ble_eq_true rfl)
  rw [lg_entry_eq]
  generalize (lg_sl ([.ref adW, .int v1, .int v2, .int v3]) ++ List.replicate (4 - (lg_sl ([.ref adW, .int v1, .int v2, .int v3])).length) Slot.unset).toArray = ls at hl ⊢
  have hnh := BodyLoose.noHandlers B (atoms_spec (ws := zw y_W_range b_W_range 4 (some .long)) B.pre _ List.mem_cons_self)
  have hAs := zstatics hP
  exact k_W_range_0 X hA zz htr hnh hAs (Nat.le_refl _) (Nat.le_refl _) N sT sR sG sF v1 v2 v3 a hG adW adT adT_bytes adR adG adG_places adF adF_parts _ _ hP hD va_S.rf ls hl
noncomputable def g_W_head_c72 (sR_48 : zR) (sH_48 : zH) (sG_72 : zG) : Option (((Int32 ⊕ Nat) × zR × zG × zH) × Nat × Nat) := zg (vp_in (4 : Int32) 12) (some ((.inl ((zH_parts sH_48) (4 : Int32).toNatClampNeg), sR_48, sG_72, sH_48), 0, 0))
noncomputable def g_W_head_c62 (sR_48 : zR) (sH_48 : zH) (sG_62 : zG) : Option (((Int32 ⊕ Nat) × zR × zG × zH) × Nat × Nat) := some ((.inl (-1 : Int32), sR_48, sG_62, sH_48), 0, 0)
noncomputable def g_W_head_c48 (v1 : Int32) (sG_21 : zG) (sR_48 : zR) (sH_48 : zH) (r_48 : Int32) : Option (((Int32 ⊕ Nat) × zR × zG × zH) × Nat × Nat) := if r_48 = (0 : Int32) then (zcbd (g_G_keepPacket sG_21 v1) (fun a => g_W_head_c72 sR_48 sH_48 a)) else ((g_G_fail sG_21 r_48 v1).bind (fun a => g_W_head_c62 sR_48 sH_48 a))
noncomputable def g_W_head_c36 (N : Nat) (sT : zT) (sH : zH) (v1 : Int32) (v2 : Int32) (sG_21 : zG) (sR_36 : zR) : Option (((Int32 ⊕ Nat) × zR × zG × zH) × Nat × Nat) := (g_H_parse N sT sR_36 sH v2).bind (fun a => g_W_head_c48 v1 sG_21 a.2.1 a.2.2 a.1)
noncomputable def g_W_head_c21 (N : Nat) (sT : zT) (sR : zR) (sH : zH) (v1 : Int32) (v2 : Int32) (sG_21 : zG) : Option (((Int32 ⊕ Nat) × zR × zG × zH) × Nat × Nat) := (g_R_start sR v1 (zG_limit sG_21)).bind (fun a => g_W_head_c36 N sT sH v1 v2 sG_21 a)
noncomputable def g_W_head_c6 (N : Nat) (sT : zT) (sR : zR) (sG : zG) (sH : zH) (v1 : Int32) (v2 : Int32) : Option (((Int32 ⊕ Nat) × zR × zG × zH) × Nat × Nat) := (g_G_restart sG (zT_length sT) v2).bind (fun a => g_W_head_c21 N sT sR sH v1 v2 a)
noncomputable def g_W_head_c2 (N : Nat) (sT : zT) (sR : zR) (sG : zG) (sH : zH) (v1 : Int32) (v2 : Int32) : Option (((Int32 ⊕ Nat) × zR × zG × zH) × Nat × Nat) := (g_W_requireNames v2).bind (fun a => zca 1 6 (zmx (a) (fun r9 => g_W_head_c6 N sT sR sG sH v1 v2) (fun k9 => some ((.inr k9, sR, sG, sH), 0, 0))))
noncomputable def g_W_head (N : Nat) (sT : zT) (sR : zR) (sG : zG) (sH : zH) (v1 : Int32) (v2 : Int32) : Option (((Int32 ⊕ Nat) × zR × zG × zH) × Nat × Nat) := (g_W_requirePlace sT v1).bind (fun a => zca 1 6 (zmx (a) (fun r9 => g_W_head_c2 N sT sR sG sH v1 v2) (fun k9 => some ((.inr k9, sR, sG, sH), 0, 0))))
def q_W_head (dC : Nat → ClassId) (dI : Nat → Nat → Nat) (cB cI cL : ClassId) (A : Nat → Prop) (adW : Nat) (adT : Nat) (adT_bytes : Nat) (adR : Nat) (adG : Nat) (adH : Nat) (adH_parts : Nat) (adF : Nat) (adD : Nat) (adP : Nat) (sT : zT) (a : (Int32 ⊕ Nat) × zR × zG × zH) : Array Value → State → Outcome → State → Prop := zQx (α := Int32) (fun r => some (.int r)) (fun r (u : zR × zG × zH × Nat) => (r, u.1, u.2.1, u.2.2.1) = a) (dC, dI) (fun u => (zwW adW adT adR adG adF adH adD adP ++ zwT adT adT_bytes cB cI cL sT ++ zwR adR adT cB cI cL u.1 ++ zwG adG u.2.2.2 cB cI cL u.2.1 ++ zwH adH adH_parts cB cI cL u.2.2.1)) A
set_option maxRecDepth 100000 in
set_option maxHeartbeats 4000000 in
theorem k_W_head_0 {p : Program} {l : Launch} {e : Env} {R : Room} {s : State} {m : MethodId} {args : Array Value} {below : List Frame} {meth : Method} {c : Code} {dC : Nat → ClassId} {dI : Nat → Nat → Nat} {cB cI cL : ClassId} {A : Nat → Prop} {adF adD adP : Nat} (X : zx p s m args meth c R R_W b_W_head (some .int) 4 7 142) (hA : ∀ q, s.heap.size ≤ q → A q) (zz : zk dC dI cB cI cL A s) (htr : l.stackTraces = false) (hnh : c.exceptionTable.isEmpty = true) (hAs : ∀ q, A q → ∀ cell, s.heap[q]? = some cell → cell.vm.isStatics = false)  (N : Nat) (sT : zT) (sR : zR) (sG : zG) (sH : zH) (v1 : Int32) (v2 : Int32) (a : (Int32 ⊕ Nat) × zR × zG × zH) (c9 z9 cells slots tc tz : Nat) (hG : g_W_head N sT sR sG sH v1 v2 = some (a, c9, z9)) (kc : cells + c9 = tc) (kz : slots + z9 = tz) (hRc : tc ≤ R.cells) (hRz : tz ≤ R.slots) (adW adT adT_bytes adR adG adG_places adH adH_parts : Nat) (H : Heap) (locs : List Loc) (hP : va_P (dC, dI) zcl (zwW adW adT adR adG adF adH adD adP ++ zwT adT adT_bytes cB cI cL sT ++ zwR adR adT cB cI cL sR ++ zwG adG adG_places cB cI cL sG ++ zwH adH adH_parts cB cI cL sH) H) (hD : va_D A (zwW adW adT adR adG adF adH adD adP ++ zwT adT adT_bytes cB cI cL sT ++ zwR adR adT cB cI cL sR ++ zwG adG adG_places cB cI cL sG ++ zwH adH adH_parts cB cI cL sH)) (hS : va_S A s.heap H locs) (ls : Array Slot) (hl : lv_has ls 4 [(0, .ref adW), (1, .int v1), (2, .int v2)]) : W p l e R s m args below meth c H locs cells slots (zMQ below (q_W_head dC dI cB cI cL A adW adT adT_bytes adR adG adH adH_parts adF adD adP sT a) args s tc tz A) (F0 m 0 ls []) := by
  obtain ⟨hx, hb, hr, hml, hown, hts, hlocks, hRf, hRl⟩ := id X
  unfold g_W_head at hG
  refine lv_aload_n hx hb d_W_head_0 rfl (lv_at hl 0 rfl) ?_
  refine lv_iload_n hx hb d_W_head_1 rfl (lv_at hl 1 rfl) ?_
  obtain ⟨a_2, hx_2, hG⟩ := zb hG
  obtain ⟨c9, z9, hG, kc, kz⟩ := zcae hG kc kz
  have hr_2 := zrunXV (p := p) (e := e) (below := below) (meth := meth) (As := [.int v1]) (rest := []) (st0 := [.int v1, .ref adW]) (cells := cells) (slots := slots) X zz hP hD hS hA [0, 1, 2] (by decide) rfl (c_W_requirePlace l dC dI cB cI cL H.size adW adT adT_bytes adR adG adF adH adD adP sT v1 _ hx_2 htr) zy_W_requirePlace zv_W_requirePlace (hts (.methodLink R_W 127 y_W_requirePlace) zin_W_127) hl rfl rfl d_W_head_2 (lv_room (Nat.le_of_ble_eq_true rfl)) rfl rfl ⟨Nat.le_trans (Nat.le_of_ble_eq_true rfl) hRf, Nat.le_trans (Nat.le_of_ble_eq_true rfl) hRl⟩ ⟨zle kc hRc, zle kz hRz⟩ 0 0 rfl rfl
  refine zcallX (wr := (zwR adR adT cB cI cL sR ++ zwG adG adG_places cB cI cL sG ++ zwH adH adH_parts cB cI cL sH)) hr_2 hP hD hS hA [0, 1, 2] [3, 4, 5, 6, 7] rfl rfl (by decide) (by decide) hnh hlocks (Nat.le.intro kc) (Nat.le.intro kz) (fun k_2 u_2 t9 q9 hw_2 hP hD hF9 ht9 => ?_) (fun r_2 u_2 H locs hw_2 hP hD hS => ?_)
  · subst hw_2
    have hP : va_P (dC, dI) zcl (zwR adR adT cB cI cL sR ++ zwG adG adG_places cB cI cL sG ++ zwH adH adH_parts cB cI cL sH ++ zwW adW adT adR adG adF adH adD adP ++ zwT adT adT_bytes cB cI cL sT) t9.heap := hP
    have hD : va_D A (zwR adR adT cB cI cL sR ++ zwG adG adG_places cB cI cL sG ++ zwH adH adH_parts cB cI cL sH ++ zwW adW adT adR adG adF adH adD adP ++ zwT adT adT_bytes cB cI cL sT) := hD
    obtain ⟨hG, e91, e92⟩ := zc0 (show some _ = some _ from hG)
    exact ⟨(sR, sG, sH, adG_places), (hP.sub [5, 6, 7, 0, 1, 2, 3, 4] rfl), (hD.sub [5, 6, 7, 0, 1, 2, 3, 4] (by decide) rfl), hF9, Or.inr ⟨k_2, q9, rfl, hG, ht9⟩⟩
  subst hw_2
  have hP : va_P (dC, dI) zcl (zwR adR adT cB cI cL sR ++ zwG adG adG_places cB cI cL sG ++ zwH adH adH_parts cB cI cL sH ++ zwW adW adT adR adG adF adH adD adP ++ zwT adT adT_bytes cB cI cL sT) H := hP
  have hD : va_D A (zwR adR adT cB cI cL sR ++ zwG adG adG_places cB cI cL sG ++ zwH adH adH_parts cB cI cL sH ++ zwW adW adT adR adG adF adH adD adP ++ zwT adT adT_bytes cB cI cL sT) := hD
  have hG : g_W_head_c2 N sT sR sG sH v1 v2 = some (a, c9, z9) := hG
  unfold g_W_head_c2 at hG
  generalize cells + 1 = cells at kc ⊢
  generalize slots + 6 = slots at kz ⊢
  refine lv_iload_n hx hb d_W_head_5 rfl (lv_at hl 2 rfl) ?_
  obtain ⟨a_6, hx_6, hG⟩ := zb hG
  obtain ⟨c9, z9, hG, kc, kz⟩ := zcae hG kc kz
  have hr_6 := zrunXS (p := p) (e := e) (below := below) (meth := meth) (As := [.int v2]) (rest := []) (st0 := [.int v2]) (cells := cells) (slots := slots) X zz hP hD hS hA [] (by decide) rfl (c_W_requireNames l dC dI cB cI cL H.size v2 _ hx_6 htr) zy_W_requireNames zv_W_requireNames (hts (.methodLink R_W 238 y_W_requireNames) zin_W_238) hl rfl rfl d_W_head_6 (lv_room (Nat.le_of_ble_eq_true rfl)) rfl rfl ⟨Nat.le_trans (Nat.le_of_ble_eq_true rfl) hRf, Nat.le_trans (Nat.le_of_ble_eq_true rfl) hRl⟩ ⟨zle kc hRc, zle kz hRz⟩
  refine zcallX (wr := (zwR adR adT cB cI cL sR ++ zwG adG adG_places cB cI cL sG ++ zwH adH adH_parts cB cI cL sH ++ zwW adW adT adR adG adF adH adD adP ++ zwT adT adT_bytes cB cI cL sT)) hr_6 hP hD hS hA [] [0, 1, 2, 3, 4, 5, 6, 7] rfl rfl (by decide) (by decide) hnh hlocks (Nat.le.intro kc) (Nat.le.intro kz) (fun k_6 u_6 t9 q9 hw_6 hP hD hF9 ht9 => ?_) (fun r_6 u_6 H locs hw_6 hP hD hS => ?_)
  · subst hw_6
    have hP : va_P (dC, dI) zcl (zwR adR adT cB cI cL sR ++ zwG adG adG_places cB cI cL sG ++ zwH adH adH_parts cB cI cL sH ++ zwW adW adT adR adG adF adH adD adP ++ zwT adT adT_bytes cB cI cL sT) t9.heap := hP
    have hD : va_D A (zwR adR adT cB cI cL sR ++ zwG adG adG_places cB cI cL sG ++ zwH adH adH_parts cB cI cL sH ++ zwW adW adT adR adG adF adH adD adP ++ zwT adT adT_bytes cB cI cL sT) := hD
    obtain ⟨hG, e91, e92⟩ := zc0 (show some _ = some _ from hG)
    exact ⟨(sR, sG, sH, adG_places), (hP.sub [5, 6, 7, 0, 1, 2, 3, 4] rfl), (hD.sub [5, 6, 7, 0, 1, 2, 3, 4] (by decide) rfl), hF9, Or.inr ⟨k_6, q9, rfl, hG, ht9⟩⟩
  subst hw_6
  have hP : va_P (dC, dI) zcl (zwR adR adT cB cI cL sR ++ zwG adG adG_places cB cI cL sG ++ zwH adH adH_parts cB cI cL sH ++ zwW adW adT adR adG adF adH adD adP ++ zwT adT adT_bytes cB cI cL sT) H := hP
  have hD : va_D A (zwR adR adT cB cI cL sR ++ zwG adG adG_places cB cI cL sG ++ zwH adH adH_parts cB cI cL sH ++ zwW adW adT adR adG adF adH adD adP ++ zwT adT adT_bytes cB cI cL sT) := hD
  have hG : g_W_head_c6 N sT sR sG sH v1 v2 = some (a, c9, z9) := hG
  unfold g_W_head_c6 at hG
  generalize cells + 1 = cells at kc ⊢
  generalize slots + 6 = slots at kz ⊢
  refine lv_aload_n hx hb d_W_head_9 rfl (lv_at hl 0 rfl) ?_
  refine va_get (D := (dC, dI)) (ci := 0) (v := .ref adG) (C := R_W) (T := F_W) (N := 7) hx hb hts zi_W hown zz.1 hP 5 rfl rfl 2 (by decide) (hts (.fieldLink R_W 28 "WireCodec" "reading" "LWireCodec$Reading;") zin_W_28) (fun _ h9 => h9) rfl d_W_head_10 ?_
  refine lv_aload_n hx hb d_W_head_13 rfl (lv_at hl 0 rfl) ?_
  refine va_get (D := (dC, dI)) (ci := 0) (v := .ref adT) (C := R_W) (T := F_W) (N := 7) hx hb hts zi_W hown zz.1 hP 5 rfl rfl 0 (by decide) (hts (.fieldLink R_W 12 "WireCodec" "tape" "LWireCodec$Tape;") zin_W_12) (fun _ h9 => h9) rfl d_W_head_14 ?_
  refine va_get (D := (dC, dI)) (ci := 1) (v := .int (zT_length sT)) (C := R_T) (T := F_T) (N := 3) hx hb hts zi_T hown zz.1 hP 6 rfl rfl 2 (by decide) (hts (.fieldLink R_W 95 "WireCodec$Tape" "length" "I") zin_W_95) (fun _ h9 => h9) rfl d_W_head_17 ?_
  refine lv_iload_n hx hb d_W_head_20 rfl (lv_at hl 2 rfl) ?_
  obtain ⟨a_21, hx_21, hG⟩ := zb hG
  have hr_21 := zrunV (p := p) (e := e) (below := below) (meth := meth) (As := [.int (zT_length sT), .int v2]) (rest := []) (st0 := [.int v2, .int (zT_length sT), .ref adG]) (cells := cells) (slots := slots) X zz hP hD hS hA [1, 2] (by decide) rfl (c_G_restart l dC dI cB cI cL H.size adG adG_places sG (zT_length sT) v2 _ hx_21) zy_G_restart zv_G_restart (hts (.methodLink R_W 99 y_G_restart) zin_W_99) hl rfl rfl d_W_head_21 (lv_room (Nat.le_of_ble_eq_true rfl)) rfl rfl ⟨Nat.le_trans (Nat.le_of_ble_eq_true rfl) hRf, Nat.le_trans (Nat.le_of_ble_eq_true rfl) hRl⟩ ⟨zle kc hRc, zle kz hRz⟩ 0 3 rfl rfl
  refine zcallv (wr := (zwR adR adT cB cI cL sR ++ zwH adH adH_parts cB cI cL sH ++ zwW adW adT adR adG adF adH adD adP ++ zwT adT adT_bytes cB cI cL sT)) hr_21 hP hD hS hA [1, 2] [0, 3, 4, 5, 6, 7] rfl rfl (by decide) (by decide) (fun u_21 H locs hw_21 hP hD hS => ?_)
  obtain ⟨sG_21, rfl⟩ : ∃ z, z = u_21 := ⟨_, rfl⟩
  subst hw_21
  have hP : va_P (dC, dI) zcl (zwR adR adT cB cI cL sR ++ zwH adH adH_parts cB cI cL sH ++ zwW adW adT adR adG adF adH adD adP ++ zwT adT adT_bytes cB cI cL sT ++ zwG adG adG_places cB cI cL sG_21) H := hP
  have hD : va_D A (zwR adR adT cB cI cL sR ++ zwH adH adH_parts cB cI cL sH ++ zwW adW adT adR adG adF adH adD adP ++ zwT adT adT_bytes cB cI cL sT ++ zwG adG adG_places cB cI cL sG_21) := hD
  have hG : g_W_head_c21 N sT sR sH v1 v2 sG_21 = some (a, c9, z9) := hG
  unfold g_W_head_c21 at hG
  refine lv_aload_n hx hb d_W_head_24 rfl (lv_at hl 0 rfl) ?_
  refine va_get (D := (dC, dI)) (ci := 0) (v := .ref adR) (C := R_W) (T := F_W) (N := 7) hx hb hts zi_W hown zz.1 hP 3 rfl rfl 1 (by decide) (hts (.fieldLink R_W 21 "WireCodec" "reader" "LWireCodec$Reader;") zin_W_21) (fun _ h9 => h9) rfl d_W_head_25 ?_
  refine lv_iload_n hx hb d_W_head_28 rfl (lv_at hl 1 rfl) ?_
  refine lv_aload_n hx hb d_W_head_29 rfl (lv_at hl 0 rfl) ?_
  refine va_get (D := (dC, dI)) (ci := 0) (v := .ref adG) (C := R_W) (T := F_W) (N := 7) hx hb hts zi_W hown zz.1 hP 3 rfl rfl 2 (by decide) (hts (.fieldLink R_W 28 "WireCodec" "reading" "LWireCodec$Reading;") zin_W_28) (fun _ h9 => h9) rfl d_W_head_30 ?_
  refine va_get (D := (dC, dI)) (ci := 3) (v := .int (zG_limit sG_21)) (C := R_G) (T := F_G) (N := 7) hx hb hts zi_G hown zz.1 hP 6 rfl rfl 3 (by decide) (hts (.fieldLink R_W 132 "WireCodec$Reading" "limit" "I") zin_W_132) (fun _ h9 => h9) rfl d_W_head_33 ?_
  obtain ⟨a_36, hx_36, hG⟩ := zb hG
  have hr_36 := zrunV (p := p) (e := e) (below := below) (meth := meth) (As := [.int v1, .int (zG_limit sG_21)]) (rest := []) (st0 := [.int (zG_limit sG_21), .int v1, .ref adR]) (cells := cells) (slots := slots) X zz hP hD hS hA [0] (by decide) rfl (c_R_start l dC dI cB cI cL H.size adR adT sR v1 (zG_limit sG_21) _ hx_36) zy_R_start zv_R_start (hts (.methodLink R_W 114 y_R_start) zin_W_114) hl rfl rfl d_W_head_36 (lv_room (Nat.le_of_ble_eq_true rfl)) rfl rfl ⟨Nat.le_trans (Nat.le_of_ble_eq_true rfl) hRf, Nat.le_trans (Nat.le_of_ble_eq_true rfl) hRl⟩ ⟨zle kc hRc, zle kz hRz⟩ 0 2 rfl rfl
  refine zcallv (wr := (zwH adH adH_parts cB cI cL sH ++ zwW adW adT adR adG adF adH adD adP ++ zwT adT adT_bytes cB cI cL sT ++ zwG adG adG_places cB cI cL sG_21)) hr_36 hP hD hS hA [0] [1, 2, 3, 4, 5, 6, 7] rfl rfl (by decide) (by decide) (fun u_36 H locs hw_36 hP hD hS => ?_)
  obtain ⟨sR_36, rfl⟩ : ∃ z, z = u_36 := ⟨_, rfl⟩
  subst hw_36
  have hP : va_P (dC, dI) zcl (zwH adH adH_parts cB cI cL sH ++ zwW adW adT adR adG adF adH adD adP ++ zwT adT adT_bytes cB cI cL sT ++ zwG adG adG_places cB cI cL sG_21 ++ zwR adR adT cB cI cL sR_36) H := hP
  have hD : va_D A (zwH adH adH_parts cB cI cL sH ++ zwW adW adT adR adG adF adH adD adP ++ zwT adT adT_bytes cB cI cL sT ++ zwG adG adG_places cB cI cL sG_21 ++ zwR adR adT cB cI cL sR_36) := hD
  have hG : g_W_head_c36 N sT sH v1 v2 sG_21 sR_36 = some (a, c9, z9) := hG
  unfold g_W_head_c36 at hG
  refine lv_aload_n hx hb d_W_head_39 rfl (lv_at hl 0 rfl) ?_
  refine va_get (D := (dC, dI)) (ci := 0) (v := .ref adH) (C := R_W) (T := F_W) (N := 7) hx hb hts zi_W hown zz.1 hP 2 rfl rfl 4 (by decide) (hts (.fieldLink R_W 42 "WireCodec" "loadedHeader" "LWireCodec$Header;") zin_W_42) (fun _ h9 => h9) rfl d_W_head_40 ?_
  refine lv_aload_n hx hb d_W_head_43 rfl (lv_at hl 0 rfl) ?_
  refine va_get (D := (dC, dI)) (ci := 0) (v := .ref adR) (C := R_W) (T := F_W) (N := 7) hx hb hts zi_W hown zz.1 hP 2 rfl rfl 1 (by decide) (hts (.fieldLink R_W 21 "WireCodec" "reader" "LWireCodec$Reader;") zin_W_21) (fun _ h9 => h9) rfl d_W_head_44 ?_
  refine lv_iload_n hx hb d_W_head_47 rfl (lv_at hl 2 rfl) ?_
  obtain ⟨a_48, hx_48, hG⟩ := zb hG
  have hr_48 := zrunV (p := p) (e := e) (below := below) (meth := meth) (As := [.ref adR, .int v2]) (rest := []) (st0 := [.int v2, .ref adR, .ref adH]) (cells := cells) (slots := slots) X zz hP hD hS hA [3, 4, 7, 0, 1] (by decide) rfl (c_H_parse l dC dI cB cI cL H.size adT adT_bytes adR adH adH_parts N sT sR_36 sH v2 _ hx_48) zy_H_parse zv_H_parse (hts (.methodLink R_W 241 y_H_parse) zin_W_241) hl rfl rfl d_W_head_48 (lv_room (Nat.le_of_ble_eq_true rfl)) rfl rfl ⟨Nat.le_trans (Nat.le_of_ble_eq_true rfl) hRf, Nat.le_trans (Nat.le_of_ble_eq_true rfl) hRl⟩ ⟨zle kc hRc, zle kz hRz⟩ 3 5 rfl rfl
  refine zcalli (wr := (zwW adW adT adR adG adF adH adD adP ++ zwG adG adG_places cB cI cL sG_21)) hr_48 hP hD hS hA [3, 4, 7, 0, 1] [2, 5, 6] rfl rfl (by decide) (by decide) (fun r_48 u_48 H locs hw_48 hP hD hS => ?_)
  obtain ⟨sR_48, sH_48⟩ := u_48
  subst hw_48
  have hP : va_P (dC, dI) zcl (zwW adW adT adR adG adF adH adD adP ++ zwG adG adG_places cB cI cL sG_21 ++ zwT adT adT_bytes cB cI cL sT ++ zwR adR adT cB cI cL sR_48 ++ zwH adH adH_parts cB cI cL sH_48) H := hP
  have hD : va_D A (zwW adW adT adR adG adF adH adD adP ++ zwG adG adG_places cB cI cL sG_21 ++ zwT adT adT_bytes cB cI cL sT ++ zwR adR adT cB cI cL sR_48 ++ zwH adH adH_parts cB cI cL sH_48) := hD
  have hG : g_W_head_c48 v1 sG_21 sR_48 sH_48 r_48 = some (a, c9, z9) := hG
  unfold g_W_head_c48 at hG
  refine lv_istore_n (lv' := [(3, .int r_48), (0, .ref adW), (1, .int v1), (2, .int v2)]) hx hb d_W_head_51 rfl hl (by decide) rfl (fun ls hl => ?_)
  refine lv_iload_n hx hb d_W_head_52 rfl (lv_at hl 0 rfl) ?_
  refine lv_if_eq (tgt := 67) hx hb d_W_head_53 (by decide) (fun hc => ?_) (fun hc => ?_)
  · have hG := zt hG hc
    refine lv_aload_n hx hb d_W_head_67 rfl (lv_at hl 1 rfl) ?_
    refine va_get (D := (dC, dI)) (ci := 0) (v := .ref adG) (C := R_W) (T := F_W) (N := 7) hx hb hts zi_W hown zz.1 hP 0 rfl rfl 2 (by decide) (hts (.fieldLink R_W 28 "WireCodec" "reading" "LWireCodec$Reading;") zin_W_28) (fun _ h9 => h9) rfl d_W_head_68 ?_
    refine lv_iload_n hx hb d_W_head_71 rfl (lv_at hl 2 rfl) ?_
    obtain ⟨a_72, c_72, z_72, c9, z9, hx_72, hG, kc, kz⟩ := zcbde hG kc kz
    have hr_72 := zrunV (p := p) (e := e) (below := below) (meth := meth) (As := [.int v1]) (rest := []) (st0 := [.int v1, .ref adG]) (cells := cells) (slots := slots) X zz hP hD hS hA [1, 2] (by decide) rfl (c_G_keepPacket l dC dI cB cI cL H.size adG adG_places sG_21 v1 _ _ _ hx_72) zy_G_keepPacket zv_G_keepPacket (hts (.methodLink R_W 242 y_G_keepPacket) zin_W_242) hl rfl rfl d_W_head_72 (lv_room (Nat.le_of_ble_eq_true rfl)) rfl rfl ⟨Nat.le_trans (Nat.le_of_ble_eq_true rfl) hRf, Nat.le_trans (Nat.le_of_ble_eq_true rfl) hRl⟩ ⟨zle kc hRc, zle kz hRz⟩ 0 3 rfl rfl
    refine zcallv (wr := (zwW adW adT adR adG adF adH adD adP ++ zwT adT adT_bytes cB cI cL sT ++ zwR adR adT cB cI cL sR_48 ++ zwH adH adH_parts cB cI cL sH_48)) hr_72 hP hD hS hA [1, 2] [0, 3, 4, 5, 6, 7] rfl rfl (by decide) (by decide) (fun u_72 H locs hw_72 hP hD hS => ?_)
    obtain ⟨sG_72, qG_places_72⟩ := u_72
    subst hw_72
    have hP : va_P (dC, dI) zcl (zwW adW adT adR adG adF adH adD adP ++ zwT adT adT_bytes cB cI cL sT ++ zwR adR adT cB cI cL sR_48 ++ zwH adH adH_parts cB cI cL sH_48 ++ zwG adG qG_places_72 cB cI cL sG_72) H := hP
    have hD : va_D A (zwW adW adT adR adG adF adH adD adP ++ zwT adT adT_bytes cB cI cL sT ++ zwR adR adT cB cI cL sR_48 ++ zwH adH adH_parts cB cI cL sH_48 ++ zwG adG qG_places_72 cB cI cL sG_72) := hD
    have hG : g_W_head_c72 sR_48 sH_48 sG_72 = some (a, c9, z9) := hG
    unfold g_W_head_c72 at hG
    generalize cells + c_72 = cells at kc ⊢
    generalize slots + z_72 = slots at kz ⊢
    refine lv_aload_n hx hb d_W_head_75 rfl (lv_at hl 1 rfl) ?_
    refine va_get (D := (dC, dI)) (ci := 0) (v := .ref adH) (C := R_W) (T := F_W) (N := 7) hx hb hts zi_W hown zz.1 hP 0 rfl rfl 4 (by decide) (hts (.fieldLink R_W 42 "WireCodec" "loadedHeader" "LWireCodec$Header;") zin_W_42) (fun _ h9 => h9) rfl d_W_head_76 ?_
    refine va_get (D := (dC, dI)) (ci := 5) (v := .ref adH_parts) (C := R_H) (T := F_H) (N := 1) hx hb hts zi_H hown zz.1 hP 4 rfl rfl 0 (by decide) (hts (.fieldLink R_W 245 "WireCodec$Header" "parts" "[I") zin_W_245) (fun _ h9 => h9) rfl d_W_head_79 ?_
    refine lv_iconst (v := (4 : Int32)) hx hb d_W_head_82 (by decide) ?_
    obtain ⟨hin, hG⟩ := zgd hG
    refine va_iald hx hb zz.1 hP 5 1 rfl rfl hin d_W_head_83 ?_
    obtain ⟨hG, e91, e92⟩ := zc0 hG
    refine W.widen (k := tc) (n := tz) (Nat.le.intro kc) (Nat.le.intro kz) ?_
    exact zxreti (u := (sR_48, sG_72, sH_48, qG_places_72)) (v := (zH_parts sH_48) (4 : Int32).toNatClampNeg) X hlocks (hG) (hP.sub [0, 1, 2, 3, 6, 7, 4, 5] rfl) (hD.sub [0, 1, 2, 3, 6, 7, 4, 5] (by decide) rfl) hS d_W_head_84
  · have hG := zf hG hc
    refine lv_aload_n hx hb d_W_head_56 rfl (lv_at hl 1 rfl) ?_
    refine va_get (D := (dC, dI)) (ci := 0) (v := .ref adG) (C := R_W) (T := F_W) (N := 7) hx hb hts zi_W hown zz.1 hP 0 rfl rfl 2 (by decide) (hts (.fieldLink R_W 28 "WireCodec" "reading" "LWireCodec$Reading;") zin_W_28) (fun _ h9 => h9) rfl d_W_head_57 ?_
    refine lv_iload_n hx hb d_W_head_60 rfl (lv_at hl 0 rfl) ?_
    refine lv_iload_n hx hb d_W_head_61 rfl (lv_at hl 2 rfl) ?_
    obtain ⟨a_62, hx_62, hG⟩ := zb hG
    have hr_62 := zrunV (p := p) (e := e) (below := below) (meth := meth) (As := [.int r_48, .int v1]) (rest := []) (st0 := [.int v1, .int r_48, .ref adG]) (cells := cells) (slots := slots) X zz hP hD hS hA [1, 2] (by decide) rfl (c_G_fail l dC dI cB cI cL H.size adG adG_places sG_21 r_48 v1 _ hx_62) zy_G_fail zv_G_fail (hts (.methodLink R_W 146 y_G_fail) zin_W_146) hl rfl rfl d_W_head_62 (lv_room (Nat.le_of_ble_eq_true rfl)) rfl rfl ⟨Nat.le_trans (Nat.le_of_ble_eq_true rfl) hRf, Nat.le_trans (Nat.le_of_ble_eq_true rfl) hRl⟩ ⟨zle kc hRc, zle kz hRz⟩ 0 3 rfl rfl
    refine zcallv (wr := (zwW adW adT adR adG adF adH adD adP ++ zwT adT adT_bytes cB cI cL sT ++ zwR adR adT cB cI cL sR_48 ++ zwH adH adH_parts cB cI cL sH_48)) hr_62 hP hD hS hA [1, 2] [0, 3, 4, 5, 6, 7] rfl rfl (by decide) (by decide) (fun u_62 H locs hw_62 hP hD hS => ?_)
    obtain ⟨sG_62, rfl⟩ : ∃ z, z = u_62 := ⟨_, rfl⟩
    subst hw_62
    have hP : va_P (dC, dI) zcl (zwW adW adT adR adG adF adH adD adP ++ zwT adT adT_bytes cB cI cL sT ++ zwR adR adT cB cI cL sR_48 ++ zwH adH adH_parts cB cI cL sH_48 ++ zwG adG adG_places cB cI cL sG_62) H := hP
    have hD : va_D A (zwW adW adT adR adG adF adH adD adP ++ zwT adT adT_bytes cB cI cL sT ++ zwR adR adT cB cI cL sR_48 ++ zwH adH adH_parts cB cI cL sH_48 ++ zwG adG adG_places cB cI cL sG_62) := hD
    have hG : g_W_head_c62 sR_48 sH_48 sG_62 = some (a, c9, z9) := hG
    unfold g_W_head_c62 at hG
    refine lv_iconst (v := (-1 : Int32)) hx hb d_W_head_65 (by decide) ?_
    obtain ⟨hG, e91, e92⟩ := zc0 hG
    refine W.widen (k := tc) (n := tz) (Nat.le.intro kc) (Nat.le.intro kz) ?_
    exact zxreti (u := (sR_48, sG_62, sH_48, adG_places)) (v := (-1 : Int32)) X hlocks (hG) (hP.sub [0, 1, 2, 3, 6, 7, 4, 5] rfl) (hD.sub [0, 1, 2, 3, 6, 7, 4, 5] (by decide) rfl) hS d_W_head_66
set_option maxRecDepth 100000 in
set_option maxHeartbeats 4000000 in
theorem c_W_head (l : Launch) (dC : Nat → ClassId) (dI : Nat → Nat → Nat) (cB cI cL : ClassId) (sz : Nat) (adW adT adT_bytes adR adG adG_places adH adH_parts adF adD adP : Nat) (N : Nat) (sT : zT) (sR : zR) (sG : zG) (sH : zH) (v1 : Int32) (v2 : Int32) (a : (Int32 ⊕ Nat) × zR × zG × zH) (c9 z9 : Nat) (hG : g_W_head N sT sR sG sH v1 v2 = some (a, c9, z9)) (htr : l.stackTraces = false) : zMet l y_W_head (zw y_W_head b_W_head 4 (some .int)) ({ frames := 7, cells := c9, slots := z9, locals := 142 }) (va_Pc [.ref adW, .int v1, .int v2] (zpre dC dI cB cI cL sz (zwW adW adT adR adG adF adH adD adP ++ zwT adT adT_bytes cB cI cL sT ++ zwR adR adT cB cI cL sR ++ zwG adG adG_places cB cI cL sG ++ zwH adH adH_parts cB cI cL sH))) (q_W_head dC dI cB cI cL (va_A (zwW adW adT adR adG adF adH adD adP ++ zwT adT adT_bytes cB cI cL sT ++ zwR adR adT cB cI cL sR ++ zwG adG adG_places cB cI cL sG ++ zwH adH adH_parts cB cI cL sH) sz) adW adT adT_bytes adR adG adH adH_parts adF adD adP sT a) c9 z9 (va_A (zwW adW adT adR adG adF adH adD adP ++ zwT adT adT_bytes cB cI cL sT ++ zwR adR adT cB cI cL sR ++ zwG adG adG_places cB cI cL sG ++ zwH adH adH_parts cB cI cL sH) sz) := by
  refine zMet.ofW (cc := b_W_head) (maxL := 4) (ret := (some .int)) (by decide) rfl ?_
  intro p e s m args below meth c s₁ B hml hv
  obtain ⟨rfl, hsz, hP, zz, hD0⟩ := hv
  subst hsz
  have X := zx_of (F := 7) (L := 142) B hml (Nat.le_refl _) (Nat.le_refl _)
  have hD := hD0.self (sz := s.heap.size)
  have hA : ∀ q : Nat, s.heap.size ≤ q → va_A (zwW adW adT adR adG adF adH adD adP ++ zwT adT adT_bytes cB cI cL sT ++ zwR adR adT cB cI cL sR ++ zwG adG adG_places cB cI cL sG ++ zwH adH adH_parts cB cI cL sH) s.heap.size q := fun q h => Or.inr h
  have hl := lv_entry ([.ref adW, .int v1, .int v2]) (n := 4) (Nat.le_of_ble_eq_true rfl)
  rw [lg_entry_eq]
  generalize (lg_sl ([.ref adW, .int v1, .int v2]) ++ List.replicate (4 - (lg_sl ([.ref adW, .int v1, .int v2])).length) Slot.unset).toArray = ls at hl ⊢
  have hnh := BodyLoose.noHandlers B (atoms_spec (ws := zw y_W_head b_W_head 4 (some .int)) B.pre _ List.mem_cons_self)
  have hAs := zstatics hP
  exact k_W_head_0 X hA zz htr hnh hAs N sT sR sG sH v1 v2 a c9 z9 0 0 c9 z9 hG (Nat.zero_add _) (Nat.zero_add _) (Nat.le_refl _) (Nat.le_refl _) adW adT adT_bytes adR adG adG_places adH adH_parts _ _ hP hD va_S.rf ls hl
noncomputable def g_W_datagram_185 (N : Nat) (sT : zT) (sR : zR) (sG : zG) (sH : zH) : Option (((Int32 ⊕ Nat) × zR × zG × zH) × Nat × Nat) := some ((.inl (zG_packetCount sG), sR, sG, sH), 0, 0)
noncomputable def g_W_datagram_c166 (kr : zT → zR → zG → zH → Int32 → Int32 → Int32 → Int32 → Int32 → Option (((Int32 ⊕ Nat) × zR × zG × zH) × Nat × Nat)) (sT : zT) (sR : zR) (sH : zH) (v2 : Int32) (v4 : Int32) (v5 : Int32) (v6 : Int32) (sG_166 : zG) : Option (((Int32 ⊕ Nat) × zR × zG × zH) × Nat × Nat) := zg (vp_in (5 : Int32) 12) (kr sT sR sG_166 sH v2 ((zH_parts sH) (5 : Int32).toNatClampNeg) v4 v5 (v6 + 1))
noncomputable def g_W_datagram_c155 (N : Nat) (sT : zT) (sR : zR) (sH : zH) (sG_155 : zG) : Option (((Int32 ⊕ Nat) × zR × zG × zH) × Nat × Nat) := g_W_datagram_185 N sT sR sG_155 sH
noncomputable def g_W_datagram_143 (N : Nat) (kr : zT → zR → zG → zH → Int32 → Int32 → Int32 → Int32 → Int32 → Option (((Int32 ⊕ Nat) × zR × zG × zH) × Nat × Nat)) (sT : zT) (sR : zR) (sG : zG) (sH : zH) (v2 : Int32) (v3 : Int32) (v4 : Int32) (v5 : Int32) (v6 : Int32) (v7 : Int32) : Option (((Int32 ⊕ Nat) × zR × zG × zH) × Nat × Nat) := if v7 = (0 : Int32) then (zcbd (g_G_keepPacket sG v3) (fun a => g_W_datagram_c166 kr sT sR sH v2 v4 v5 v6 a)) else ((g_G_fail sG v7 v3).bind (fun a => g_W_datagram_c155 N sT sR sH a))
noncomputable def g_W_datagram_c133 (N : Nat) (kr : zT → zR → zG → zH → Int32 → Int32 → Int32 → Int32 → Int32 → Option (((Int32 ⊕ Nat) × zR × zG × zH) × Nat × Nat)) (sT : zT) (sR : zR) (sG : zG) (sH : zH) (v2 : Int32) (v3 : Int32) (v4 : Int32) (v5 : Int32) (v6 : Int32) (v7 : Int32) (r_133 : Int32) : Option (((Int32 ⊕ Nat) × zR × zG × zH) × Nat × Nat) := if r_133 = (0 : Int32) then (g_W_datagram_143 N kr sT sR sG sH v2 v3 v4 v5 v6 (6 : Int32)) else (g_W_datagram_143 N kr sT sR sG sH v2 v3 v4 v5 v6 v7)
noncomputable def g_W_datagram_116 (N : Nat) (kr : zT → zR → zG → zH → Int32 → Int32 → Int32 → Int32 → Int32 → Option (((Int32 ⊕ Nat) × zR × zG × zH) × Nat × Nat)) (sT : zT) (sR : zR) (sG : zG) (sH : zH) (v2 : Int32) (v3 : Int32) (v4 : Int32) (v5 : Int32) (v6 : Int32) (v7 : Int32) : Option (((Int32 ⊕ Nat) × zR × zG × zH) × Nat × Nat) := if v7 = (0 : Int32) then ((g_H_goesTo N sT sH v4 v5).bind (fun a => g_W_datagram_c133 N kr sT sR sG sH v2 v3 v4 v5 v6 v7 a)) else (g_W_datagram_143 N kr sT sR sG sH v2 v3 v4 v5 v6 v7)
noncomputable def g_W_datagram_c77 (N : Nat) (kr : zT → zR → zG → zH → Int32 → Int32 → Int32 → Int32 → Int32 → Option (((Int32 ⊕ Nat) × zR × zG × zH) × Nat × Nat)) (sT : zT) (sG : zG) (v2 : Int32) (v3 : Int32) (v4 : Int32) (v5 : Int32) (v6 : Int32) (sR_77 : zR) (sH_77 : zH) (r_77 : Int32) : Option (((Int32 ⊕ Nat) × zR × zG × zH) × Nat × Nat) := if r_77 = (0 : Int32) then (if v6 = (0 : Int32) then (zg (vp_in (6 : Int32) 12) (zg (vp_in (7 : Int32) 12) (g_W_datagram_116 N kr sT sR_77 sG sH_77 v2 v3 ((zH_parts sH_77) (6 : Int32).toNatClampNeg) ((zH_parts sH_77) (7 : Int32).toNatClampNeg) v6 r_77))) else (g_W_datagram_116 N kr sT sR_77 sG sH_77 v2 v3 v4 v5 v6 r_77)) else (g_W_datagram_116 N kr sT sR_77 sG sH_77 v2 v3 v4 v5 v6 r_77)
noncomputable def g_W_datagram_c65 (N : Nat) (kr : zT → zR → zG → zH → Int32 → Int32 → Int32 → Int32 → Int32 → Option (((Int32 ⊕ Nat) × zR × zG × zH) × Nat × Nat)) (sT : zT) (sG : zG) (sH : zH) (v2 : Int32) (v3 : Int32) (v4 : Int32) (v5 : Int32) (v6 : Int32) (sR_65 : zR) : Option (((Int32 ⊕ Nat) × zR × zG × zH) × Nat × Nat) := (g_H_parse N sT sR_65 sH v2).bind (fun a => g_W_datagram_c77 N kr sT sG v2 v3 v4 v5 v6 a.2.1 a.2.2 a.1)
noncomputable def g_W_datagram_35_b (N : Nat) (kr : zT → zR → zG → zH → Int32 → Int32 → Int32 → Int32 → Int32 → Option (((Int32 ⊕ Nat) × zR × zG × zH) × Nat × Nat)) (sT : zT) (sR : zR) (sG : zG) (sH : zH) (v2 : Int32) (v3 : Int32) (v4 : Int32) (v5 : Int32) (v6 : Int32) : Option (((Int32 ⊕ Nat) × zR × zG × zH) × Nat × Nat) := if (65536 : Int32) ≤ v6 then (g_W_datagram_185 N sT sR sG sH) else (if (zG_limit sG) ≤ v3 then (g_W_datagram_185 N sT sR sG sH) else ((g_R_start sR v3 (zG_limit sG)).bind (fun a => g_W_datagram_c65 N kr sT sG sH v2 v3 v4 v5 v6 a)))
noncomputable def g_W_datagram_35 (N : Nat) : Nat → zT → zR → zG → zH → Int32 → Int32 → Int32 → Int32 → Int32 → Option (((Int32 ⊕ Nat) × zR × zG × zH) × Nat × Nat)
  | 0 => fun _ _ _ _ _ _ _ _ _ => none
  | k + 1 => fun sT sR sG sH v2 v3 v4 v5 v6 => g_W_datagram_35_b N (g_W_datagram_35 N k) sT sR sG sH v2 v3 v4 v5 v6
noncomputable def g_W_datagram_c21 (N : Nat) (sT : zT) (sR : zR) (sH : zH) (v1 : Int32) (v2 : Int32) (sG_21 : zG) : Option (((Int32 ⊕ Nat) × zR × zG × zH) × Nat × Nat) := g_W_datagram_35 N N sT sR sG_21 sH v2 v1 (0 : Int32) (0 : Int32) (0 : Int32)
noncomputable def g_W_datagram_c6 (N : Nat) (sT : zT) (sR : zR) (sG : zG) (sH : zH) (v1 : Int32) (v2 : Int32) : Option (((Int32 ⊕ Nat) × zR × zG × zH) × Nat × Nat) := (g_G_restart sG (zT_length sT) v2).bind (fun a => g_W_datagram_c21 N sT sR sH v1 v2 a)
noncomputable def g_W_datagram_c2 (N : Nat) (sT : zT) (sR : zR) (sG : zG) (sH : zH) (v1 : Int32) (v2 : Int32) : Option (((Int32 ⊕ Nat) × zR × zG × zH) × Nat × Nat) := (g_W_requireNames v2).bind (fun a => zca 1 6 (zmx (a) (fun r9 => g_W_datagram_c6 N sT sR sG sH v1 v2) (fun k9 => some ((.inr k9, sR, sG, sH), 0, 0))))
noncomputable def g_W_datagram (N : Nat) (sT : zT) (sR : zR) (sG : zG) (sH : zH) (v1 : Int32) (v2 : Int32) : Option (((Int32 ⊕ Nat) × zR × zG × zH) × Nat × Nat) := (g_W_requirePlace sT v1).bind (fun a => zca 1 6 (zmx (a) (fun r9 => g_W_datagram_c2 N sT sR sG sH v1 v2) (fun k9 => some ((.inr k9, sR, sG, sH), 0, 0))))
def q_W_datagram (dC : Nat → ClassId) (dI : Nat → Nat → Nat) (cB cI cL : ClassId) (A : Nat → Prop) (adW : Nat) (adT : Nat) (adT_bytes : Nat) (adR : Nat) (adG : Nat) (adH : Nat) (adH_parts : Nat) (adF : Nat) (adD : Nat) (adP : Nat) (sT : zT) (a : (Int32 ⊕ Nat) × zR × zG × zH) : Array Value → State → Outcome → State → Prop := zQx (α := Int32) (fun r => some (.int r)) (fun r (u : zR × zG × zH × Nat) => (r, u.1, u.2.1, u.2.2.1) = a) (dC, dI) (fun u => (zwW adW adT adR adG adF adH adD adP ++ zwT adT adT_bytes cB cI cL sT ++ zwR adR adT cB cI cL u.1 ++ zwG adG u.2.2.2 cB cI cL u.2.1 ++ zwH adH adH_parts cB cI cL u.2.2.1)) A
set_option maxRecDepth 100000 in
set_option maxHeartbeats 4000000 in
theorem k_W_datagram_185 {p : Program} {l : Launch} {e : Env} {R : Room} {s : State} {m : MethodId} {args : Array Value} {below : List Frame} {meth : Method} {c : Code} {dC : Nat → ClassId} {dI : Nat → Nat → Nat} {cB cI cL : ClassId} {A : Nat → Prop} {adF adD adP : Nat} (X : zx p s m args meth c R R_W b_W_datagram (some .int) 8 7 142) (hA : ∀ q, s.heap.size ≤ q → A q) (zz : zk dC dI cB cI cL A s) (htr : l.stackTraces = false) (hnh : c.exceptionTable.isEmpty = true) (hAs : ∀ q, A q → ∀ cell, s.heap[q]? = some cell → cell.vm.isStatics = false)  (N : Nat) (sT : zT) (sR : zR) (sG : zG) (sH : zH) (a : (Int32 ⊕ Nat) × zR × zG × zH) (c9 z9 cells slots tc tz : Nat) (hG : g_W_datagram_185 N sT sR sG sH = some (a, c9, z9)) (kc : cells + c9 = tc) (kz : slots + z9 = tz) (hRc : tc ≤ R.cells) (hRz : tz ≤ R.slots) (adW adT adT_bytes adR adG adG_places adH adH_parts : Nat) (H : Heap) (locs : List Loc) (hP : va_P (dC, dI) zcl (zwW adW adT adR adG adF adH adD adP ++ zwT adT adT_bytes cB cI cL sT ++ zwR adR adT cB cI cL sR ++ zwG adG adG_places cB cI cL sG ++ zwH adH adH_parts cB cI cL sH) H) (hD : va_D A (zwW adW adT adR adG adF adH adD adP ++ zwT adT adT_bytes cB cI cL sT ++ zwR adR adT cB cI cL sR ++ zwG adG adG_places cB cI cL sG ++ zwH adH adH_parts cB cI cL sH)) (hS : va_S A s.heap H locs) (ls : Array Slot) (hl : lv_has ls 8 [(0, .ref adW)]) : W p l e R s m args below meth c H locs cells slots (zMQ below (q_W_datagram dC dI cB cI cL A adW adT adT_bytes adR adG adH adH_parts adF adD adP sT a) args s tc tz A) (F0 m 185 ls []) := by
  obtain ⟨hx, hb, hr, hml, hown, hts, hlocks, hRf, hRl⟩ := id X
  unfold g_W_datagram_185 at hG
  refine lv_aload_n hx hb d_W_datagram_185 rfl (lv_at hl 0 rfl) ?_
  refine va_get (D := (dC, dI)) (ci := 0) (v := .ref adG) (C := R_W) (T := F_W) (N := 7) hx hb hts zi_W hown zz.1 hP 0 rfl rfl 2 (by decide) (hts (.fieldLink R_W 28 "WireCodec" "reading" "LWireCodec$Reading;") zin_W_28) (fun _ h9 => h9) rfl d_W_datagram_186 ?_
  refine va_get (D := (dC, dI)) (ci := 3) (v := .int (zG_packetCount sG)) (C := R_G) (T := F_G) (N := 7) hx hb hts zi_G hown zz.1 hP 4 rfl rfl 2 (by decide) (hts (.fieldLink R_W 252 "WireCodec$Reading" "packetCount" "I") zin_W_252) (fun _ h9 => h9) rfl d_W_datagram_189 ?_
  obtain ⟨hG, e91, e92⟩ := zc0 hG
  refine W.widen (k := tc) (n := tz) (Nat.le.intro kc) (Nat.le.intro kz) ?_
  exact zxreti (u := (sR, sG, sH, adG_places)) (v := zG_packetCount sG) X hlocks (hG) hP hD hS d_W_datagram_192
set_option maxRecDepth 100000 in
set_option maxHeartbeats 4000000 in
theorem k_W_datagram_143 {p : Program} {l : Launch} {e : Env} {R : Room} {s : State} {m : MethodId} {args : Array Value} {below : List Frame} {meth : Method} {c : Code} {dC : Nat → ClassId} {dI : Nat → Nat → Nat} {cB cI cL : ClassId} {A : Nat → Prop} {adF adD adP : Nat} (tc tz : Nat) (kr : zT → zR → zG → zH → Int32 → Int32 → Int32 → Int32 → Int32 → Option (((Int32 ⊕ Nat) × zR × zG × zH) × Nat × Nat)) (hrec : ∀ (sT : zT) (sR : zR) (sG : zG) (sH : zH) (v2 : Int32) (v3 : Int32) (v4 : Int32) (v5 : Int32) (v6 : Int32) (a : (Int32 ⊕ Nat) × zR × zG × zH) (c9 z9 cells slots : Nat), kr sT sR sG sH v2 v3 v4 v5 v6 = some (a, c9, z9) → cells + c9 = tc → slots + z9 = tz → ∀ (adW adT adT_bytes adR adG adG_places adH adH_parts : Nat) (H : Heap) (locs : List Loc), va_P (dC, dI) zcl (zwW adW adT adR adG adF adH adD adP ++ zwT adT adT_bytes cB cI cL sT ++ zwR adR adT cB cI cL sR ++ zwG adG adG_places cB cI cL sG ++ zwH adH adH_parts cB cI cL sH) H → va_D A (zwW adW adT adR adG adF adH adD adP ++ zwT adT adT_bytes cB cI cL sT ++ zwR adR adT cB cI cL sR ++ zwG adG adG_places cB cI cL sG ++ zwH adH adH_parts cB cI cL sH) → va_S A s.heap H locs → ∀ ls : Array Slot, lv_has ls 8 [(0, .ref adW), (2, .int v2), (3, .int v3), (4, .int v4), (5, .int v5), (6, .int v6)] → W p l e R s m args below meth c H locs cells slots (zMQ below (q_W_datagram dC dI cB cI cL A adW adT adT_bytes adR adG adH adH_parts adF adD adP sT a) args s tc tz A) (F0 m 35 ls [])) (X : zx p s m args meth c R R_W b_W_datagram (some .int) 8 7 142) (hA : ∀ q, s.heap.size ≤ q → A q) (zz : zk dC dI cB cI cL A s) (htr : l.stackTraces = false) (hnh : c.exceptionTable.isEmpty = true) (hAs : ∀ q, A q → ∀ cell, s.heap[q]? = some cell → cell.vm.isStatics = false)  (N : Nat) (sT : zT) (sR : zR) (sG : zG) (sH : zH) (v2 : Int32) (v3 : Int32) (v4 : Int32) (v5 : Int32) (v6 : Int32) (v7 : Int32) (a : (Int32 ⊕ Nat) × zR × zG × zH) (c9 z9 cells slots : Nat) (hG : g_W_datagram_143 N kr sT sR sG sH v2 v3 v4 v5 v6 v7 = some (a, c9, z9)) (kc : cells + c9 = tc) (kz : slots + z9 = tz) (hRc : tc ≤ R.cells) (hRz : tz ≤ R.slots) (adW adT adT_bytes adR adG adG_places adH adH_parts : Nat) (H : Heap) (locs : List Loc) (hP : va_P (dC, dI) zcl (zwW adW adT adR adG adF adH adD adP ++ zwT adT adT_bytes cB cI cL sT ++ zwR adR adT cB cI cL sR ++ zwG adG adG_places cB cI cL sG ++ zwH adH adH_parts cB cI cL sH) H) (hD : va_D A (zwW adW adT adR adG adF adH adD adP ++ zwT adT adT_bytes cB cI cL sT ++ zwR adR adT cB cI cL sR ++ zwG adG adG_places cB cI cL sG ++ zwH adH adH_parts cB cI cL sH)) (hS : va_S A s.heap H locs) (ls : Array Slot) (hl : lv_has ls 8 [(0, .ref adW), (2, .int v2), (3, .int v3), (4, .int v4), (5, .int v5), (6, .int v6), (7, .int v7)]) : W p l e R s m args below meth c H locs cells slots (zMQ below (q_W_datagram dC dI cB cI cL A adW adT adT_bytes adR adG adH adH_parts adF adD adP sT a) args s tc tz A) (F0 m 143 ls []) := by
  obtain ⟨hx, hb, hr, hml, hown, hts, hlocks, hRf, hRl⟩ := id X
  unfold g_W_datagram_143 at hG
  refine lv_iload hx hb d_W_datagram_143 (lv_at hl 6 rfl) ?_
  refine lv_if_eq (tgt := 161) hx hb d_W_datagram_145 (by decide) (fun hc => ?_) (fun hc => ?_)
  · have hG := zt hG hc
    refine lv_aload_n hx hb d_W_datagram_161 rfl (lv_at hl 0 rfl) ?_
    refine va_get (D := (dC, dI)) (ci := 0) (v := .ref adG) (C := R_W) (T := F_W) (N := 7) hx hb hts zi_W hown zz.1 hP 0 rfl rfl 2 (by decide) (hts (.fieldLink R_W 28 "WireCodec" "reading" "LWireCodec$Reading;") zin_W_28) (fun _ h9 => h9) rfl d_W_datagram_162 ?_
    refine lv_iload_n hx hb d_W_datagram_165 rfl (lv_at hl 2 rfl) ?_
    obtain ⟨a_166, c_166, z_166, c9, z9, hx_166, hG, kc, kz⟩ := zcbde hG kc kz
    have hr_166 := zrunV (p := p) (e := e) (below := below) (meth := meth) (As := [.int v3]) (rest := []) (st0 := [.int v3, .ref adG]) (cells := cells) (slots := slots) X zz hP hD hS hA [4, 5] (by decide) rfl (c_G_keepPacket l dC dI cB cI cL H.size adG adG_places sG v3 _ _ _ hx_166) zy_G_keepPacket zv_G_keepPacket (hts (.methodLink R_W 242 y_G_keepPacket) zin_W_242) hl rfl rfl d_W_datagram_166 (lv_room (Nat.le_of_ble_eq_true rfl)) rfl rfl ⟨Nat.le_trans (Nat.le_of_ble_eq_true rfl) hRf, Nat.le_trans (Nat.le_of_ble_eq_true rfl) hRl⟩ ⟨zle kc hRc, zle kz hRz⟩ 0 3 rfl rfl
    refine zcallv (wr := (zwW adW adT adR adG adF adH adD adP ++ zwT adT adT_bytes cB cI cL sT ++ zwR adR adT cB cI cL sR ++ zwH adH adH_parts cB cI cL sH)) hr_166 hP hD hS hA [4, 5] [0, 1, 2, 3, 6, 7] rfl rfl (by decide) (by decide) (fun u_166 H locs hw_166 hP hD hS => ?_)
    obtain ⟨sG_166, qG_places_166⟩ := u_166
    subst hw_166
    have hP : va_P (dC, dI) zcl (zwW adW adT adR adG adF adH adD adP ++ zwT adT adT_bytes cB cI cL sT ++ zwR adR adT cB cI cL sR ++ zwH adH adH_parts cB cI cL sH ++ zwG adG qG_places_166 cB cI cL sG_166) H := hP
    have hD : va_D A (zwW adW adT adR adG adF adH adD adP ++ zwT adT adT_bytes cB cI cL sT ++ zwR adR adT cB cI cL sR ++ zwH adH adH_parts cB cI cL sH ++ zwG adG qG_places_166 cB cI cL sG_166) := hD
    have hG : g_W_datagram_c166 kr sT sR sH v2 v4 v5 v6 sG_166 = some (a, c9, z9) := hG
    unfold g_W_datagram_c166 at hG
    generalize cells + c_166 = cells at kc ⊢
    generalize slots + z_166 = slots at kz ⊢
    refine lv_aload_n hx hb d_W_datagram_169 rfl (lv_at hl 0 rfl) ?_
    refine va_get (D := (dC, dI)) (ci := 0) (v := .ref adH) (C := R_W) (T := F_W) (N := 7) hx hb hts zi_W hown zz.1 hP 0 rfl rfl 4 (by decide) (hts (.fieldLink R_W 42 "WireCodec" "loadedHeader" "LWireCodec$Header;") zin_W_42) (fun _ h9 => h9) rfl d_W_datagram_170 ?_
    refine va_get (D := (dC, dI)) (ci := 5) (v := .ref adH_parts) (C := R_H) (T := F_H) (N := 1) hx hb hts zi_H hown zz.1 hP 4 rfl rfl 0 (by decide) (hts (.fieldLink R_W 245 "WireCodec$Header" "parts" "[I") zin_W_245) (fun _ h9 => h9) rfl d_W_datagram_173 ?_
    refine lv_iconst (v := (5 : Int32)) hx hb d_W_datagram_176 (by decide) ?_
    obtain ⟨hin, hG⟩ := zgd hG
    refine va_iald hx hb zz.1 hP 5 1 rfl rfl hin d_W_datagram_177 ?_
    refine lv_istore_n (lv' := [(3, .int ((zH_parts sH) (5 : Int32).toNatClampNeg)), (0, .ref adW), (2, .int v2), (4, .int v4), (5, .int v5), (6, .int v6), (7, .int v7)]) hx hb d_W_datagram_178 rfl hl (by decide) rfl (fun ls hl => ?_)
    refine lv_iinc (v := v6 + 1) (lv' := [(6, .int (v6 + 1)), (3, .int ((zH_parts sH) (5 : Int32).toNatClampNeg)), (0, .ref adW), (2, .int v2), (4, .int v4), (5, .int v5), (7, .int v7)]) hx hb d_W_datagram_179 hl (k := 5) rfl rfl (by decide) rfl (fun ls hl => ?_)
    refine lv_goto (tgt := 35) hx hb d_W_datagram_182 (by decide) ?_
    exact hrec sT sR sG_166 sH v2 ((zH_parts sH) (5 : Int32).toNatClampNeg) v4 v5 (v6 + 1) _ _ _ _ _ hG kc kz adW adT adT_bytes adR adG qG_places_166 adH adH_parts _ _ (hP.sub [0, 1, 2, 3, 6, 7, 4, 5] rfl) (hD.sub [0, 1, 2, 3, 6, 7, 4, 5] (by decide) rfl) hS _ (lv_sub hl [2, 3, 1, 4, 5, 0] rfl)
  · have hG := zf hG hc
    refine lv_aload_n hx hb d_W_datagram_148 rfl (lv_at hl 0 rfl) ?_
    refine va_get (D := (dC, dI)) (ci := 0) (v := .ref adG) (C := R_W) (T := F_W) (N := 7) hx hb hts zi_W hown zz.1 hP 0 rfl rfl 2 (by decide) (hts (.fieldLink R_W 28 "WireCodec" "reading" "LWireCodec$Reading;") zin_W_28) (fun _ h9 => h9) rfl d_W_datagram_149 ?_
    refine lv_iload hx hb d_W_datagram_152 (lv_at hl 6 rfl) ?_
    refine lv_iload_n hx hb d_W_datagram_154 rfl (lv_at hl 2 rfl) ?_
    obtain ⟨a_155, hx_155, hG⟩ := zb hG
    have hr_155 := zrunV (p := p) (e := e) (below := below) (meth := meth) (As := [.int v7, .int v3]) (rest := []) (st0 := [.int v3, .int v7, .ref adG]) (cells := cells) (slots := slots) X zz hP hD hS hA [4, 5] (by decide) rfl (c_G_fail l dC dI cB cI cL H.size adG adG_places sG v7 v3 _ hx_155) zy_G_fail zv_G_fail (hts (.methodLink R_W 146 y_G_fail) zin_W_146) hl rfl rfl d_W_datagram_155 (lv_room (Nat.le_of_ble_eq_true rfl)) rfl rfl ⟨Nat.le_trans (Nat.le_of_ble_eq_true rfl) hRf, Nat.le_trans (Nat.le_of_ble_eq_true rfl) hRl⟩ ⟨zle kc hRc, zle kz hRz⟩ 0 3 rfl rfl
    refine zcallv (wr := (zwW adW adT adR adG adF adH adD adP ++ zwT adT adT_bytes cB cI cL sT ++ zwR adR adT cB cI cL sR ++ zwH adH adH_parts cB cI cL sH)) hr_155 hP hD hS hA [4, 5] [0, 1, 2, 3, 6, 7] rfl rfl (by decide) (by decide) (fun u_155 H locs hw_155 hP hD hS => ?_)
    obtain ⟨sG_155, rfl⟩ : ∃ z, z = u_155 := ⟨_, rfl⟩
    subst hw_155
    have hP : va_P (dC, dI) zcl (zwW adW adT adR adG adF adH adD adP ++ zwT adT adT_bytes cB cI cL sT ++ zwR adR adT cB cI cL sR ++ zwH adH adH_parts cB cI cL sH ++ zwG adG adG_places cB cI cL sG_155) H := hP
    have hD : va_D A (zwW adW adT adR adG adF adH adD adP ++ zwT adT adT_bytes cB cI cL sT ++ zwR adR adT cB cI cL sR ++ zwH adH adH_parts cB cI cL sH ++ zwG adG adG_places cB cI cL sG_155) := hD
    have hG : g_W_datagram_c155 N sT sR sH sG_155 = some (a, c9, z9) := hG
    unfold g_W_datagram_c155 at hG
    refine lv_goto (tgt := 185) hx hb d_W_datagram_158 (by decide) ?_
    exact k_W_datagram_185 X hA zz htr hnh hAs N sT sR sG_155 sH _ _ _ _ _ _ _ hG kc kz hRc hRz adW adT adT_bytes adR adG adG_places adH adH_parts _ _ (hP.sub [0, 1, 2, 3, 6, 7, 4, 5] rfl) (hD.sub [0, 1, 2, 3, 6, 7, 4, 5] (by decide) rfl) hS _ (lv_sub hl [0] rfl)
set_option maxRecDepth 100000 in
set_option maxHeartbeats 4000000 in
theorem k_W_datagram_116 {p : Program} {l : Launch} {e : Env} {R : Room} {s : State} {m : MethodId} {args : Array Value} {below : List Frame} {meth : Method} {c : Code} {dC : Nat → ClassId} {dI : Nat → Nat → Nat} {cB cI cL : ClassId} {A : Nat → Prop} {adF adD adP : Nat} (tc tz : Nat) (kr : zT → zR → zG → zH → Int32 → Int32 → Int32 → Int32 → Int32 → Option (((Int32 ⊕ Nat) × zR × zG × zH) × Nat × Nat)) (hrec : ∀ (sT : zT) (sR : zR) (sG : zG) (sH : zH) (v2 : Int32) (v3 : Int32) (v4 : Int32) (v5 : Int32) (v6 : Int32) (a : (Int32 ⊕ Nat) × zR × zG × zH) (c9 z9 cells slots : Nat), kr sT sR sG sH v2 v3 v4 v5 v6 = some (a, c9, z9) → cells + c9 = tc → slots + z9 = tz → ∀ (adW adT adT_bytes adR adG adG_places adH adH_parts : Nat) (H : Heap) (locs : List Loc), va_P (dC, dI) zcl (zwW adW adT adR adG adF adH adD adP ++ zwT adT adT_bytes cB cI cL sT ++ zwR adR adT cB cI cL sR ++ zwG adG adG_places cB cI cL sG ++ zwH adH adH_parts cB cI cL sH) H → va_D A (zwW adW adT adR adG adF adH adD adP ++ zwT adT adT_bytes cB cI cL sT ++ zwR adR adT cB cI cL sR ++ zwG adG adG_places cB cI cL sG ++ zwH adH adH_parts cB cI cL sH) → va_S A s.heap H locs → ∀ ls : Array Slot, lv_has ls 8 [(0, .ref adW), (2, .int v2), (3, .int v3), (4, .int v4), (5, .int v5), (6, .int v6)] → W p l e R s m args below meth c H locs cells slots (zMQ below (q_W_datagram dC dI cB cI cL A adW adT adT_bytes adR adG adH adH_parts adF adD adP sT a) args s tc tz A) (F0 m 35 ls [])) (X : zx p s m args meth c R R_W b_W_datagram (some .int) 8 7 142) (hA : ∀ q, s.heap.size ≤ q → A q) (zz : zk dC dI cB cI cL A s) (htr : l.stackTraces = false) (hnh : c.exceptionTable.isEmpty = true) (hAs : ∀ q, A q → ∀ cell, s.heap[q]? = some cell → cell.vm.isStatics = false)  (N : Nat) (sT : zT) (sR : zR) (sG : zG) (sH : zH) (v2 : Int32) (v3 : Int32) (v4 : Int32) (v5 : Int32) (v6 : Int32) (v7 : Int32) (a : (Int32 ⊕ Nat) × zR × zG × zH) (c9 z9 cells slots : Nat) (hG : g_W_datagram_116 N kr sT sR sG sH v2 v3 v4 v5 v6 v7 = some (a, c9, z9)) (kc : cells + c9 = tc) (kz : slots + z9 = tz) (hRc : tc ≤ R.cells) (hRz : tz ≤ R.slots) (adW adT adT_bytes adR adG adG_places adH adH_parts : Nat) (H : Heap) (locs : List Loc) (hP : va_P (dC, dI) zcl (zwW adW adT adR adG adF adH adD adP ++ zwT adT adT_bytes cB cI cL sT ++ zwR adR adT cB cI cL sR ++ zwG adG adG_places cB cI cL sG ++ zwH adH adH_parts cB cI cL sH) H) (hD : va_D A (zwW adW adT adR adG adF adH adD adP ++ zwT adT adT_bytes cB cI cL sT ++ zwR adR adT cB cI cL sR ++ zwG adG adG_places cB cI cL sG ++ zwH adH adH_parts cB cI cL sH)) (hS : va_S A s.heap H locs) (ls : Array Slot) (hl : lv_has ls 8 [(0, .ref adW), (2, .int v2), (3, .int v3), (4, .int v4), (5, .int v5), (6, .int v6), (7, .int v7)]) : W p l e R s m args below meth c H locs cells slots (zMQ below (q_W_datagram dC dI cB cI cL A adW adT adT_bytes adR adG adH adH_parts adF adD adP sT a) args s tc tz A) (F0 m 116 ls []) := by
  obtain ⟨hx, hb, hr, hml, hown, hts, hlocks, hRf, hRl⟩ := id X
  unfold g_W_datagram_116 at hG
  refine lv_iload hx hb d_W_datagram_116 (lv_at hl 6 rfl) ?_
  refine lv_if_ne (tgt := 143) hx hb d_W_datagram_118 (by decide) (fun hc => ?_) (fun hc => ?_)
  · have hG := zf hG hc
    exact k_W_datagram_143 _ _ kr hrec X hA zz htr hnh hAs N sT sR sG sH v2 v3 v4 v5 v6 v7 _ _ _ _ _ hG kc kz hRc hRz adW adT adT_bytes adR adG adG_places adH adH_parts _ _ hP hD hS _ (lv_sub hl [0, 1, 2, 3, 4, 5, 6] rfl)
  · have hG := zt hG hc
    refine lv_aload_n hx hb d_W_datagram_121 rfl (lv_at hl 0 rfl) ?_
    refine va_get (D := (dC, dI)) (ci := 0) (v := .ref adH) (C := R_W) (T := F_W) (N := 7) hx hb hts zi_W hown zz.1 hP 0 rfl rfl 4 (by decide) (hts (.fieldLink R_W 42 "WireCodec" "loadedHeader" "LWireCodec$Header;") zin_W_42) (fun _ h9 => h9) rfl d_W_datagram_122 ?_
    refine lv_aload_n hx hb d_W_datagram_125 rfl (lv_at hl 0 rfl) ?_
    refine va_get (D := (dC, dI)) (ci := 0) (v := .ref adT) (C := R_W) (T := F_W) (N := 7) hx hb hts zi_W hown zz.1 hP 0 rfl rfl 0 (by decide) (hts (.fieldLink R_W 12 "WireCodec" "tape" "LWireCodec$Tape;") zin_W_12) (fun _ h9 => h9) rfl d_W_datagram_126 ?_
    refine lv_iload hx hb d_W_datagram_129 (lv_at hl 3 rfl) ?_
    refine lv_iload hx hb d_W_datagram_131 (lv_at hl 4 rfl) ?_
    obtain ⟨a_133, hx_133, hG⟩ := zb hG
    have hr_133 := zrunV (p := p) (e := e) (below := below) (meth := meth) (As := [.ref adT, .int v4, .int v5]) (rest := []) (st0 := [.int v5, .int v4, .ref adT, .ref adH]) (cells := cells) (slots := slots) X zz hP hD hS hA [1, 2, 6, 7] (by decide) rfl (c_H_goesTo l dC dI cB cI cL H.size adT adT_bytes adH adH_parts N sT sH v4 v5 _ hx_133) zy_H_goesTo zv_H_goesTo (hts (.methodLink R_W 248 y_H_goesTo) zin_W_248) hl rfl rfl d_W_datagram_133 (lv_room (Nat.le_of_ble_eq_true rfl)) rfl rfl ⟨Nat.le_trans (Nat.le_of_ble_eq_true rfl) hRf, Nat.le_trans (Nat.le_of_ble_eq_true rfl) hRl⟩ ⟨zle kc hRc, zle kz hRz⟩ 2 5 rfl rfl
    refine zcalli (wr := (zwW adW adT adR adG adF adH adD adP ++ zwR adR adT cB cI cL sR ++ zwG adG adG_places cB cI cL sG)) hr_133 hP hD hS hA [1, 2, 6, 7] [0, 3, 4, 5] rfl rfl (by decide) (by decide) (fun r_133 u_133 H locs hw_133 hP hD hS => ?_)
    subst hw_133
    have hP : va_P (dC, dI) zcl (zwW adW adT adR adG adF adH adD adP ++ zwR adR adT cB cI cL sR ++ zwG adG adG_places cB cI cL sG ++ zwT adT adT_bytes cB cI cL sT ++ zwH adH adH_parts cB cI cL sH) H := hP
    have hD : va_D A (zwW adW adT adR adG adF adH adD adP ++ zwR adR adT cB cI cL sR ++ zwG adG adG_places cB cI cL sG ++ zwT adT adT_bytes cB cI cL sT ++ zwH adH adH_parts cB cI cL sH) := hD
    have hG : g_W_datagram_c133 N kr sT sR sG sH v2 v3 v4 v5 v6 v7 r_133 = some (a, c9, z9) := hG
    unfold g_W_datagram_c133 at hG
    refine lv_if_ne (tgt := 143) hx hb d_W_datagram_136 (by decide) (fun hc => ?_) (fun hc => ?_)
    · have hG := zf hG hc
      exact k_W_datagram_143 _ _ kr hrec X hA zz htr hnh hAs N sT sR sG sH v2 v3 v4 v5 v6 v7 _ _ _ _ _ hG kc kz hRc hRz adW adT adT_bytes adR adG adG_places adH adH_parts _ _ (hP.sub [0, 4, 5, 1, 2, 3, 6, 7] rfl) (hD.sub [0, 4, 5, 1, 2, 3, 6, 7] (by decide) rfl) hS _ (lv_sub hl [0, 1, 2, 3, 4, 5, 6] rfl)
    · have hG := zt hG hc
      refine lv_bipush (v := (6 : Int32)) hx hb d_W_datagram_139 (by decide) ?_
      refine lv_istore (lv' := [(7, .int (6 : Int32)), (0, .ref adW), (2, .int v2), (3, .int v3), (4, .int v4), (5, .int v5), (6, .int v6)]) hx hb d_W_datagram_141 hl (by decide) rfl (fun ls hl => ?_)
      exact k_W_datagram_143 _ _ kr hrec X hA zz htr hnh hAs N sT sR sG sH v2 v3 v4 v5 v6 (6 : Int32) _ _ _ _ _ hG kc kz hRc hRz adW adT adT_bytes adR adG adG_places adH adH_parts _ _ (hP.sub [0, 4, 5, 1, 2, 3, 6, 7] rfl) (hD.sub [0, 4, 5, 1, 2, 3, 6, 7] (by decide) rfl) hS _ (lv_sub hl [1, 2, 3, 4, 5, 6, 0] rfl)
set_option maxRecDepth 100000 in
set_option maxHeartbeats 4000000 in
theorem k_W_datagram_35_b {p : Program} {l : Launch} {e : Env} {R : Room} {s : State} {m : MethodId} {args : Array Value} {below : List Frame} {meth : Method} {c : Code} {dC : Nat → ClassId} {dI : Nat → Nat → Nat} {cB cI cL : ClassId} {A : Nat → Prop} {adF adD adP : Nat} (tc tz : Nat) (kr : zT → zR → zG → zH → Int32 → Int32 → Int32 → Int32 → Int32 → Option (((Int32 ⊕ Nat) × zR × zG × zH) × Nat × Nat)) (hrec : ∀ (sT : zT) (sR : zR) (sG : zG) (sH : zH) (v2 : Int32) (v3 : Int32) (v4 : Int32) (v5 : Int32) (v6 : Int32) (a : (Int32 ⊕ Nat) × zR × zG × zH) (c9 z9 cells slots : Nat), kr sT sR sG sH v2 v3 v4 v5 v6 = some (a, c9, z9) → cells + c9 = tc → slots + z9 = tz → ∀ (adW adT adT_bytes adR adG adG_places adH adH_parts : Nat) (H : Heap) (locs : List Loc), va_P (dC, dI) zcl (zwW adW adT adR adG adF adH adD adP ++ zwT adT adT_bytes cB cI cL sT ++ zwR adR adT cB cI cL sR ++ zwG adG adG_places cB cI cL sG ++ zwH adH adH_parts cB cI cL sH) H → va_D A (zwW adW adT adR adG adF adH adD adP ++ zwT adT adT_bytes cB cI cL sT ++ zwR adR adT cB cI cL sR ++ zwG adG adG_places cB cI cL sG ++ zwH adH adH_parts cB cI cL sH) → va_S A s.heap H locs → ∀ ls : Array Slot, lv_has ls 8 [(0, .ref adW), (2, .int v2), (3, .int v3), (4, .int v4), (5, .int v5), (6, .int v6)] → W p l e R s m args below meth c H locs cells slots (zMQ below (q_W_datagram dC dI cB cI cL A adW adT adT_bytes adR adG adH adH_parts adF adD adP sT a) args s tc tz A) (F0 m 35 ls [])) (X : zx p s m args meth c R R_W b_W_datagram (some .int) 8 7 142) (hA : ∀ q, s.heap.size ≤ q → A q) (zz : zk dC dI cB cI cL A s) (htr : l.stackTraces = false) (hnh : c.exceptionTable.isEmpty = true) (hAs : ∀ q, A q → ∀ cell, s.heap[q]? = some cell → cell.vm.isStatics = false)  (N : Nat) (sT : zT) (sR : zR) (sG : zG) (sH : zH) (v2 : Int32) (v3 : Int32) (v4 : Int32) (v5 : Int32) (v6 : Int32) (a : (Int32 ⊕ Nat) × zR × zG × zH) (c9 z9 cells slots : Nat) (hG : g_W_datagram_35_b N kr sT sR sG sH v2 v3 v4 v5 v6 = some (a, c9, z9)) (kc : cells + c9 = tc) (kz : slots + z9 = tz) (hRc : tc ≤ R.cells) (hRz : tz ≤ R.slots) (adW adT adT_bytes adR adG adG_places adH adH_parts : Nat) (H : Heap) (locs : List Loc) (hP : va_P (dC, dI) zcl (zwW adW adT adR adG adF adH adD adP ++ zwT adT adT_bytes cB cI cL sT ++ zwR adR adT cB cI cL sR ++ zwG adG adG_places cB cI cL sG ++ zwH adH adH_parts cB cI cL sH) H) (hD : va_D A (zwW adW adT adR adG adF adH adD adP ++ zwT adT adT_bytes cB cI cL sT ++ zwR adR adT cB cI cL sR ++ zwG adG adG_places cB cI cL sG ++ zwH adH adH_parts cB cI cL sH)) (hS : va_S A s.heap H locs) (ls : Array Slot) (hl : lv_has ls 8 [(0, .ref adW), (2, .int v2), (3, .int v3), (4, .int v4), (5, .int v5), (6, .int v6)]) : W p l e R s m args below meth c H locs cells slots (zMQ below (q_W_datagram dC dI cB cI cL A adW adT adT_bytes adR adG adH adH_parts adF adD adP sT a) args s tc tz A) (F0 m 35 ls []) := by
  obtain ⟨hx, hb, hr, hml, hown, hts, hlocks, hRf, hRl⟩ := id X
  unfold g_W_datagram_35_b at hG
  refine lv_iload hx hb d_W_datagram_35 (lv_at hl 5 rfl) ?_
  refine lv_ldc (v := (65536 : Int32)) hx hb hown (hts (.constant R_W 135 (65536 : Int32)) zin_W_135) d_W_datagram_37 ?_
  refine lv_icmp_ge (tgt := 185) hx hb d_W_datagram_39 (by decide) (fun hc => ?_) (fun hc => ?_)
  · have hG := zt hG hc
    exact k_W_datagram_185 X hA zz htr hnh hAs N sT sR sG sH _ _ _ _ _ _ _ hG kc kz hRc hRz adW adT adT_bytes adR adG adG_places adH adH_parts _ _ hP hD hS _ (lv_sub hl [0] rfl)
  · have hG := zf hG hc
    refine lv_iload_n hx hb d_W_datagram_42 rfl (lv_at hl 2 rfl) ?_
    refine lv_aload_n hx hb d_W_datagram_43 rfl (lv_at hl 0 rfl) ?_
    refine va_get (D := (dC, dI)) (ci := 0) (v := .ref adG) (C := R_W) (T := F_W) (N := 7) hx hb hts zi_W hown zz.1 hP 0 rfl rfl 2 (by decide) (hts (.fieldLink R_W 28 "WireCodec" "reading" "LWireCodec$Reading;") zin_W_28) (fun _ h9 => h9) rfl d_W_datagram_44 ?_
    refine va_get (D := (dC, dI)) (ci := 3) (v := .int (zG_limit sG)) (C := R_G) (T := F_G) (N := 7) hx hb hts zi_G hown zz.1 hP 4 rfl rfl 3 (by decide) (hts (.fieldLink R_W 132 "WireCodec$Reading" "limit" "I") zin_W_132) (fun _ h9 => h9) rfl d_W_datagram_47 ?_
    refine lv_icmp_ge (tgt := 185) hx hb d_W_datagram_50 (by decide) (fun hc => ?_) (fun hc => ?_)
    · have hG := zt hG hc
      exact k_W_datagram_185 X hA zz htr hnh hAs N sT sR sG sH _ _ _ _ _ _ _ hG kc kz hRc hRz adW adT adT_bytes adR adG adG_places adH adH_parts _ _ hP hD hS _ (lv_sub hl [0] rfl)
    · have hG := zf hG hc
      refine lv_aload_n hx hb d_W_datagram_53 rfl (lv_at hl 0 rfl) ?_
      refine va_get (D := (dC, dI)) (ci := 0) (v := .ref adR) (C := R_W) (T := F_W) (N := 7) hx hb hts zi_W hown zz.1 hP 0 rfl rfl 1 (by decide) (hts (.fieldLink R_W 21 "WireCodec" "reader" "LWireCodec$Reader;") zin_W_21) (fun _ h9 => h9) rfl d_W_datagram_54 ?_
      refine lv_iload_n hx hb d_W_datagram_57 rfl (lv_at hl 2 rfl) ?_
      refine lv_aload_n hx hb d_W_datagram_58 rfl (lv_at hl 0 rfl) ?_
      refine va_get (D := (dC, dI)) (ci := 0) (v := .ref adG) (C := R_W) (T := F_W) (N := 7) hx hb hts zi_W hown zz.1 hP 0 rfl rfl 2 (by decide) (hts (.fieldLink R_W 28 "WireCodec" "reading" "LWireCodec$Reading;") zin_W_28) (fun _ h9 => h9) rfl d_W_datagram_59 ?_
      refine va_get (D := (dC, dI)) (ci := 3) (v := .int (zG_limit sG)) (C := R_G) (T := F_G) (N := 7) hx hb hts zi_G hown zz.1 hP 4 rfl rfl 3 (by decide) (hts (.fieldLink R_W 132 "WireCodec$Reading" "limit" "I") zin_W_132) (fun _ h9 => h9) rfl d_W_datagram_62 ?_
      obtain ⟨a_65, hx_65, hG⟩ := zb hG
      have hr_65 := zrunV (p := p) (e := e) (below := below) (meth := meth) (As := [.int v3, .int (zG_limit sG)]) (rest := []) (st0 := [.int (zG_limit sG), .int v3, .ref adR]) (cells := cells) (slots := slots) X zz hP hD hS hA [3] (by decide) rfl (c_R_start l dC dI cB cI cL H.size adR adT sR v3 (zG_limit sG) _ hx_65) zy_R_start zv_R_start (hts (.methodLink R_W 114 y_R_start) zin_W_114) hl rfl rfl d_W_datagram_65 (lv_room (Nat.le_of_ble_eq_true rfl)) rfl rfl ⟨Nat.le_trans (Nat.le_of_ble_eq_true rfl) hRf, Nat.le_trans (Nat.le_of_ble_eq_true rfl) hRl⟩ ⟨zle kc hRc, zle kz hRz⟩ 0 2 rfl rfl
      refine zcallv (wr := (zwW adW adT adR adG adF adH adD adP ++ zwT adT adT_bytes cB cI cL sT ++ zwG adG adG_places cB cI cL sG ++ zwH adH adH_parts cB cI cL sH)) hr_65 hP hD hS hA [3] [0, 1, 2, 4, 5, 6, 7] rfl rfl (by decide) (by decide) (fun u_65 H locs hw_65 hP hD hS => ?_)
      obtain ⟨sR_65, rfl⟩ : ∃ z, z = u_65 := ⟨_, rfl⟩
      subst hw_65
      have hP : va_P (dC, dI) zcl (zwW adW adT adR adG adF adH adD adP ++ zwT adT adT_bytes cB cI cL sT ++ zwG adG adG_places cB cI cL sG ++ zwH adH adH_parts cB cI cL sH ++ zwR adR adT cB cI cL sR_65) H := hP
      have hD : va_D A (zwW adW adT adR adG adF adH adD adP ++ zwT adT adT_bytes cB cI cL sT ++ zwG adG adG_places cB cI cL sG ++ zwH adH adH_parts cB cI cL sH ++ zwR adR adT cB cI cL sR_65) := hD
      have hG : g_W_datagram_c65 N kr sT sG sH v2 v3 v4 v5 v6 sR_65 = some (a, c9, z9) := hG
      unfold g_W_datagram_c65 at hG
      refine lv_aload_n hx hb d_W_datagram_68 rfl (lv_at hl 0 rfl) ?_
      refine va_get (D := (dC, dI)) (ci := 0) (v := .ref adH) (C := R_W) (T := F_W) (N := 7) hx hb hts zi_W hown zz.1 hP 0 rfl rfl 4 (by decide) (hts (.fieldLink R_W 42 "WireCodec" "loadedHeader" "LWireCodec$Header;") zin_W_42) (fun _ h9 => h9) rfl d_W_datagram_69 ?_
      refine lv_aload_n hx hb d_W_datagram_72 rfl (lv_at hl 0 rfl) ?_
      refine va_get (D := (dC, dI)) (ci := 0) (v := .ref adR) (C := R_W) (T := F_W) (N := 7) hx hb hts zi_W hown zz.1 hP 0 rfl rfl 1 (by decide) (hts (.fieldLink R_W 21 "WireCodec" "reader" "LWireCodec$Reader;") zin_W_21) (fun _ h9 => h9) rfl d_W_datagram_73 ?_
      refine lv_iload_n hx hb d_W_datagram_76 rfl (lv_at hl 1 rfl) ?_
      obtain ⟨a_77, hx_77, hG⟩ := zb hG
      have hr_77 := zrunV (p := p) (e := e) (below := below) (meth := meth) (As := [.ref adR, .int v2]) (rest := []) (st0 := [.int v2, .ref adR, .ref adH]) (cells := cells) (slots := slots) X zz hP hD hS hA [1, 2, 7, 5, 6] (by decide) rfl (c_H_parse l dC dI cB cI cL H.size adT adT_bytes adR adH adH_parts N sT sR_65 sH v2 _ hx_77) zy_H_parse zv_H_parse (hts (.methodLink R_W 241 y_H_parse) zin_W_241) hl rfl rfl d_W_datagram_77 (lv_room (Nat.le_of_ble_eq_true rfl)) rfl rfl ⟨Nat.le_trans (Nat.le_of_ble_eq_true rfl) hRf, Nat.le_trans (Nat.le_of_ble_eq_true rfl) hRl⟩ ⟨zle kc hRc, zle kz hRz⟩ 3 5 rfl rfl
      refine zcalli (wr := (zwW adW adT adR adG adF adH adD adP ++ zwG adG adG_places cB cI cL sG)) hr_77 hP hD hS hA [1, 2, 7, 5, 6] [0, 3, 4] rfl rfl (by decide) (by decide) (fun r_77 u_77 H locs hw_77 hP hD hS => ?_)
      obtain ⟨sR_77, sH_77⟩ := u_77
      subst hw_77
      have hP : va_P (dC, dI) zcl (zwW adW adT adR adG adF adH adD adP ++ zwG adG adG_places cB cI cL sG ++ zwT adT adT_bytes cB cI cL sT ++ zwR adR adT cB cI cL sR_77 ++ zwH adH adH_parts cB cI cL sH_77) H := hP
      have hD : va_D A (zwW adW adT adR adG adF adH adD adP ++ zwG adG adG_places cB cI cL sG ++ zwT adT adT_bytes cB cI cL sT ++ zwR adR adT cB cI cL sR_77 ++ zwH adH adH_parts cB cI cL sH_77) := hD
      have hG : g_W_datagram_c77 N kr sT sG v2 v3 v4 v5 v6 sR_77 sH_77 r_77 = some (a, c9, z9) := hG
      unfold g_W_datagram_c77 at hG
      refine lv_istore (lv' := [(7, .int r_77), (0, .ref adW), (2, .int v2), (3, .int v3), (4, .int v4), (5, .int v5), (6, .int v6)]) hx hb d_W_datagram_80 hl (by decide) rfl (fun ls hl => ?_)
      refine lv_iload hx hb d_W_datagram_82 (lv_at hl 0 rfl) ?_
      refine lv_if_ne (tgt := 116) hx hb d_W_datagram_84 (by decide) (fun hc => ?_) (fun hc => ?_)
      · have hG := zf hG hc
        exact k_W_datagram_116 _ _ kr hrec X hA zz htr hnh hAs N sT sR_77 sG sH_77 v2 v3 v4 v5 v6 r_77 _ _ _ _ _ hG kc kz hRc hRz adW adT adT_bytes adR adG adG_places adH adH_parts _ _ (hP.sub [0, 3, 4, 5, 1, 2, 6, 7] rfl) (hD.sub [0, 3, 4, 5, 1, 2, 6, 7] (by decide) rfl) hS _ (lv_sub hl [1, 2, 3, 4, 5, 6, 0] rfl)
      · have hG := zt hG hc
        refine lv_iload hx hb d_W_datagram_87 (lv_at hl 6 rfl) ?_
        refine lv_if_ne (tgt := 116) hx hb d_W_datagram_89 (by decide) (fun hc => ?_) (fun hc => ?_)
        · have hG := zf hG hc
          exact k_W_datagram_116 _ _ kr hrec X hA zz htr hnh hAs N sT sR_77 sG sH_77 v2 v3 v4 v5 v6 r_77 _ _ _ _ _ hG kc kz hRc hRz adW adT adT_bytes adR adG adG_places adH adH_parts _ _ (hP.sub [0, 3, 4, 5, 1, 2, 6, 7] rfl) (hD.sub [0, 3, 4, 5, 1, 2, 6, 7] (by decide) rfl) hS _ (lv_sub hl [1, 2, 3, 4, 5, 6, 0] rfl)
        · have hG := zt hG hc
          refine lv_aload_n hx hb d_W_datagram_92 rfl (lv_at hl 1 rfl) ?_
          refine va_get (D := (dC, dI)) (ci := 0) (v := .ref adH) (C := R_W) (T := F_W) (N := 7) hx hb hts zi_W hown zz.1 hP 0 rfl rfl 4 (by decide) (hts (.fieldLink R_W 42 "WireCodec" "loadedHeader" "LWireCodec$Header;") zin_W_42) (fun _ h9 => h9) rfl d_W_datagram_93 ?_
          refine va_get (D := (dC, dI)) (ci := 5) (v := .ref adH_parts) (C := R_H) (T := F_H) (N := 1) hx hb hts zi_H hown zz.1 hP 6 rfl rfl 0 (by decide) (hts (.fieldLink R_W 245 "WireCodec$Header" "parts" "[I") zin_W_245) (fun _ h9 => h9) rfl d_W_datagram_96 ?_
          refine lv_bipush (v := (6 : Int32)) hx hb d_W_datagram_99 (by decide) ?_
          obtain ⟨hin, hG⟩ := zgd hG
          refine va_iald hx hb zz.1 hP 7 1 rfl rfl hin d_W_datagram_101 ?_
          refine lv_istore (lv' := [(4, .int ((zH_parts sH_77) (6 : Int32).toNatClampNeg)), (7, .int r_77), (0, .ref adW), (2, .int v2), (3, .int v3), (5, .int v5), (6, .int v6)]) hx hb d_W_datagram_102 hl (by decide) rfl (fun ls hl => ?_)
          refine lv_aload_n hx hb d_W_datagram_104 rfl (lv_at hl 2 rfl) ?_
          refine va_get (D := (dC, dI)) (ci := 0) (v := .ref adH) (C := R_W) (T := F_W) (N := 7) hx hb hts zi_W hown zz.1 hP 0 rfl rfl 4 (by decide) (hts (.fieldLink R_W 42 "WireCodec" "loadedHeader" "LWireCodec$Header;") zin_W_42) (fun _ h9 => h9) rfl d_W_datagram_105 ?_
          refine va_get (D := (dC, dI)) (ci := 5) (v := .ref adH_parts) (C := R_H) (T := F_H) (N := 1) hx hb hts zi_H hown zz.1 hP 6 rfl rfl 0 (by decide) (hts (.fieldLink R_W 245 "WireCodec$Header" "parts" "[I") zin_W_245) (fun _ h9 => h9) rfl d_W_datagram_108 ?_
          refine lv_bipush (v := (7 : Int32)) hx hb d_W_datagram_111 (by decide) ?_
          obtain ⟨hin, hG⟩ := zgd hG
          refine va_iald hx hb zz.1 hP 7 1 rfl rfl hin d_W_datagram_113 ?_
          refine lv_istore (lv' := [(5, .int ((zH_parts sH_77) (7 : Int32).toNatClampNeg)), (4, .int ((zH_parts sH_77) (6 : Int32).toNatClampNeg)), (7, .int r_77), (0, .ref adW), (2, .int v2), (3, .int v3), (6, .int v6)]) hx hb d_W_datagram_114 hl (by decide) rfl (fun ls hl => ?_)
          exact k_W_datagram_116 _ _ kr hrec X hA zz htr hnh hAs N sT sR_77 sG sH_77 v2 v3 ((zH_parts sH_77) (6 : Int32).toNatClampNeg) ((zH_parts sH_77) (7 : Int32).toNatClampNeg) v6 r_77 _ _ _ _ _ hG kc kz hRc hRz adW adT adT_bytes adR adG adG_places adH adH_parts _ _ (hP.sub [0, 3, 4, 5, 1, 2, 6, 7] rfl) (hD.sub [0, 3, 4, 5, 1, 2, 6, 7] (by decide) rfl) hS _ (lv_sub hl [3, 4, 5, 1, 0, 6, 2] rfl)
theorem k_W_datagram_35 {p : Program} {l : Launch} {e : Env} {R : Room} {s : State} {m : MethodId} {args : Array Value} {below : List Frame} {meth : Method} {c : Code} {dC : Nat → ClassId} {dI : Nat → Nat → Nat} {cB cI cL : ClassId} {A : Nat → Prop} {adF adD adP : Nat} (X : zx p s m args meth c R R_W b_W_datagram (some .int) 8 7 142) (hA : ∀ q, s.heap.size ≤ q → A q) (zz : zk dC dI cB cI cL A s) (htr : l.stackTraces = false) (hnh : c.exceptionTable.isEmpty = true) (hAs : ∀ q, A q → ∀ cell, s.heap[q]? = some cell → cell.vm.isStatics = false)  (N : Nat) (tc tz : Nat) (hRc : tc ≤ R.cells) (hRz : tz ≤ R.slots) : ∀ (k : Nat) (sT : zT) (sR : zR) (sG : zG) (sH : zH) (v2 : Int32) (v3 : Int32) (v4 : Int32) (v5 : Int32) (v6 : Int32) (a : (Int32 ⊕ Nat) × zR × zG × zH) (c9 z9 cells slots : Nat) (hG : g_W_datagram_35 N k sT sR sG sH v2 v3 v4 v5 v6 = some (a, c9, z9)) (kc : cells + c9 = tc) (kz : slots + z9 = tz) (adW adT adT_bytes adR adG adG_places adH adH_parts : Nat) (H : Heap) (locs : List Loc) (hP : va_P (dC, dI) zcl (zwW adW adT adR adG adF adH adD adP ++ zwT adT adT_bytes cB cI cL sT ++ zwR adR adT cB cI cL sR ++ zwG adG adG_places cB cI cL sG ++ zwH adH adH_parts cB cI cL sH) H) (hD : va_D A (zwW adW adT adR adG adF adH adD adP ++ zwT adT adT_bytes cB cI cL sT ++ zwR adR adT cB cI cL sR ++ zwG adG adG_places cB cI cL sG ++ zwH adH adH_parts cB cI cL sH)) (hS : va_S A s.heap H locs) (ls : Array Slot) (hl : lv_has ls 8 [(0, .ref adW), (2, .int v2), (3, .int v3), (4, .int v4), (5, .int v5), (6, .int v6)]), W p l e R s m args below meth c H locs cells slots (zMQ below (q_W_datagram dC dI cB cI cL A adW adT adT_bytes adR adG adH adH_parts adF adD adP sT a) args s tc tz A) (F0 m 35 ls []) := by
  intro k
  induction k with
  | zero => intro sT sR sG sH v2 v3 v4 v5 v6 a c9 z9 cells slots hG; exact absurd hG (by unfold g_W_datagram_35; simp)
  | succ k ih => intro sT sR sG sH v2 v3 v4 v5 v6 a c9 z9 cells slots hG kc kz adW adT adT_bytes adR adG adG_places adH adH_parts H locs hP hD hS ls hl; exact k_W_datagram_35_b tc tz _ ih X hA zz htr hnh hAs N sT sR sG sH v2 v3 v4 v5 v6 a c9 z9 cells slots hG kc kz hRc hRz adW adT adT_bytes adR adG adG_places adH adH_parts H locs hP hD hS ls hl
set_option maxRecDepth 100000 in
set_option maxHeartbeats 4000000 in
theorem k_W_datagram_0 {p : Program} {l : Launch} {e : Env} {R : Room} {s : State} {m : MethodId} {args : Array Value} {below : List Frame} {meth : Method} {c : Code} {dC : Nat → ClassId} {dI : Nat → Nat → Nat} {cB cI cL : ClassId} {A : Nat → Prop} {adF adD adP : Nat} (X : zx p s m args meth c R R_W b_W_datagram (some .int) 8 7 142) (hA : ∀ q, s.heap.size ≤ q → A q) (zz : zk dC dI cB cI cL A s) (htr : l.stackTraces = false) (hnh : c.exceptionTable.isEmpty = true) (hAs : ∀ q, A q → ∀ cell, s.heap[q]? = some cell → cell.vm.isStatics = false)  (N : Nat) (sT : zT) (sR : zR) (sG : zG) (sH : zH) (v1 : Int32) (v2 : Int32) (a : (Int32 ⊕ Nat) × zR × zG × zH) (c9 z9 cells slots tc tz : Nat) (hG : g_W_datagram N sT sR sG sH v1 v2 = some (a, c9, z9)) (kc : cells + c9 = tc) (kz : slots + z9 = tz) (hRc : tc ≤ R.cells) (hRz : tz ≤ R.slots) (adW adT adT_bytes adR adG adG_places adH adH_parts : Nat) (H : Heap) (locs : List Loc) (hP : va_P (dC, dI) zcl (zwW adW adT adR adG adF adH adD adP ++ zwT adT adT_bytes cB cI cL sT ++ zwR adR adT cB cI cL sR ++ zwG adG adG_places cB cI cL sG ++ zwH adH adH_parts cB cI cL sH) H) (hD : va_D A (zwW adW adT adR adG adF adH adD adP ++ zwT adT adT_bytes cB cI cL sT ++ zwR adR adT cB cI cL sR ++ zwG adG adG_places cB cI cL sG ++ zwH adH adH_parts cB cI cL sH)) (hS : va_S A s.heap H locs) (ls : Array Slot) (hl : lv_has ls 8 [(0, .ref adW), (1, .int v1), (2, .int v2)]) : W p l e R s m args below meth c H locs cells slots (zMQ below (q_W_datagram dC dI cB cI cL A adW adT adT_bytes adR adG adH adH_parts adF adD adP sT a) args s tc tz A) (F0 m 0 ls []) := by
  obtain ⟨hx, hb, hr, hml, hown, hts, hlocks, hRf, hRl⟩ := id X
  unfold g_W_datagram at hG
  refine lv_aload_n hx hb d_W_datagram_0 rfl (lv_at hl 0 rfl) ?_
  refine lv_iload_n hx hb d_W_datagram_1 rfl (lv_at hl 1 rfl) ?_
  obtain ⟨a_2, hx_2, hG⟩ := zb hG
  obtain ⟨c9, z9, hG, kc, kz⟩ := zcae hG kc kz
  have hr_2 := zrunXV (p := p) (e := e) (below := below) (meth := meth) (As := [.int v1]) (rest := []) (st0 := [.int v1, .ref adW]) (cells := cells) (slots := slots) X zz hP hD hS hA [0, 1, 2] (by decide) rfl (c_W_requirePlace l dC dI cB cI cL H.size adW adT adT_bytes adR adG adF adH adD adP sT v1 _ hx_2 htr) zy_W_requirePlace zv_W_requirePlace (hts (.methodLink R_W 127 y_W_requirePlace) zin_W_127) hl rfl rfl d_W_datagram_2 (lv_room (Nat.le_of_ble_eq_true rfl)) rfl rfl ⟨Nat.le_trans (Nat.le_of_ble_eq_true rfl) hRf, Nat.le_trans (Nat.le_of_ble_eq_true rfl) hRl⟩ ⟨zle kc hRc, zle kz hRz⟩ 0 0 rfl rfl
  refine zcallX (wr := (zwR adR adT cB cI cL sR ++ zwG adG adG_places cB cI cL sG ++ zwH adH adH_parts cB cI cL sH)) hr_2 hP hD hS hA [0, 1, 2] [3, 4, 5, 6, 7] rfl rfl (by decide) (by decide) hnh hlocks (Nat.le.intro kc) (Nat.le.intro kz) (fun k_2 u_2 t9 q9 hw_2 hP hD hF9 ht9 => ?_) (fun r_2 u_2 H locs hw_2 hP hD hS => ?_)
  · subst hw_2
    have hP : va_P (dC, dI) zcl (zwR adR adT cB cI cL sR ++ zwG adG adG_places cB cI cL sG ++ zwH adH adH_parts cB cI cL sH ++ zwW adW adT adR adG adF adH adD adP ++ zwT adT adT_bytes cB cI cL sT) t9.heap := hP
    have hD : va_D A (zwR adR adT cB cI cL sR ++ zwG adG adG_places cB cI cL sG ++ zwH adH adH_parts cB cI cL sH ++ zwW adW adT adR adG adF adH adD adP ++ zwT adT adT_bytes cB cI cL sT) := hD
    obtain ⟨hG, e91, e92⟩ := zc0 (show some _ = some _ from hG)
    exact ⟨(sR, sG, sH, adG_places), (hP.sub [5, 6, 7, 0, 1, 2, 3, 4] rfl), (hD.sub [5, 6, 7, 0, 1, 2, 3, 4] (by decide) rfl), hF9, Or.inr ⟨k_2, q9, rfl, hG, ht9⟩⟩
  subst hw_2
  have hP : va_P (dC, dI) zcl (zwR adR adT cB cI cL sR ++ zwG adG adG_places cB cI cL sG ++ zwH adH adH_parts cB cI cL sH ++ zwW adW adT adR adG adF adH adD adP ++ zwT adT adT_bytes cB cI cL sT) H := hP
  have hD : va_D A (zwR adR adT cB cI cL sR ++ zwG adG adG_places cB cI cL sG ++ zwH adH adH_parts cB cI cL sH ++ zwW adW adT adR adG adF adH adD adP ++ zwT adT adT_bytes cB cI cL sT) := hD
  have hG : g_W_datagram_c2 N sT sR sG sH v1 v2 = some (a, c9, z9) := hG
  unfold g_W_datagram_c2 at hG
  generalize cells + 1 = cells at kc ⊢
  generalize slots + 6 = slots at kz ⊢
  refine lv_iload_n hx hb d_W_datagram_5 rfl (lv_at hl 2 rfl) ?_
  obtain ⟨a_6, hx_6, hG⟩ := zb hG
  obtain ⟨c9, z9, hG, kc, kz⟩ := zcae hG kc kz
  have hr_6 := zrunXS (p := p) (e := e) (below := below) (meth := meth) (As := [.int v2]) (rest := []) (st0 := [.int v2]) (cells := cells) (slots := slots) X zz hP hD hS hA [] (by decide) rfl (c_W_requireNames l dC dI cB cI cL H.size v2 _ hx_6 htr) zy_W_requireNames zv_W_requireNames (hts (.methodLink R_W 238 y_W_requireNames) zin_W_238) hl rfl rfl d_W_datagram_6 (lv_room (Nat.le_of_ble_eq_true rfl)) rfl rfl ⟨Nat.le_trans (Nat.le_of_ble_eq_true rfl) hRf, Nat.le_trans (Nat.le_of_ble_eq_true rfl) hRl⟩ ⟨zle kc hRc, zle kz hRz⟩
  refine zcallX (wr := (zwR adR adT cB cI cL sR ++ zwG adG adG_places cB cI cL sG ++ zwH adH adH_parts cB cI cL sH ++ zwW adW adT adR adG adF adH adD adP ++ zwT adT adT_bytes cB cI cL sT)) hr_6 hP hD hS hA [] [0, 1, 2, 3, 4, 5, 6, 7] rfl rfl (by decide) (by decide) hnh hlocks (Nat.le.intro kc) (Nat.le.intro kz) (fun k_6 u_6 t9 q9 hw_6 hP hD hF9 ht9 => ?_) (fun r_6 u_6 H locs hw_6 hP hD hS => ?_)
  · subst hw_6
    have hP : va_P (dC, dI) zcl (zwR adR adT cB cI cL sR ++ zwG adG adG_places cB cI cL sG ++ zwH adH adH_parts cB cI cL sH ++ zwW adW adT adR adG adF adH adD adP ++ zwT adT adT_bytes cB cI cL sT) t9.heap := hP
    have hD : va_D A (zwR adR adT cB cI cL sR ++ zwG adG adG_places cB cI cL sG ++ zwH adH adH_parts cB cI cL sH ++ zwW adW adT adR adG adF adH adD adP ++ zwT adT adT_bytes cB cI cL sT) := hD
    obtain ⟨hG, e91, e92⟩ := zc0 (show some _ = some _ from hG)
    exact ⟨(sR, sG, sH, adG_places), (hP.sub [5, 6, 7, 0, 1, 2, 3, 4] rfl), (hD.sub [5, 6, 7, 0, 1, 2, 3, 4] (by decide) rfl), hF9, Or.inr ⟨k_6, q9, rfl, hG, ht9⟩⟩
  subst hw_6
  have hP : va_P (dC, dI) zcl (zwR adR adT cB cI cL sR ++ zwG adG adG_places cB cI cL sG ++ zwH adH adH_parts cB cI cL sH ++ zwW adW adT adR adG adF adH adD adP ++ zwT adT adT_bytes cB cI cL sT) H := hP
  have hD : va_D A (zwR adR adT cB cI cL sR ++ zwG adG adG_places cB cI cL sG ++ zwH adH adH_parts cB cI cL sH ++ zwW adW adT adR adG adF adH adD adP ++ zwT adT adT_bytes cB cI cL sT) := hD
  have hG : g_W_datagram_c6 N sT sR sG sH v1 v2 = some (a, c9, z9) := hG
  unfold g_W_datagram_c6 at hG
  generalize cells + 1 = cells at kc ⊢
  generalize slots + 6 = slots at kz ⊢
  refine lv_aload_n hx hb d_W_datagram_9 rfl (lv_at hl 0 rfl) ?_
  refine va_get (D := (dC, dI)) (ci := 0) (v := .ref adG) (C := R_W) (T := F_W) (N := 7) hx hb hts zi_W hown zz.1 hP 5 rfl rfl 2 (by decide) (hts (.fieldLink R_W 28 "WireCodec" "reading" "LWireCodec$Reading;") zin_W_28) (fun _ h9 => h9) rfl d_W_datagram_10 ?_
  refine lv_aload_n hx hb d_W_datagram_13 rfl (lv_at hl 0 rfl) ?_
  refine va_get (D := (dC, dI)) (ci := 0) (v := .ref adT) (C := R_W) (T := F_W) (N := 7) hx hb hts zi_W hown zz.1 hP 5 rfl rfl 0 (by decide) (hts (.fieldLink R_W 12 "WireCodec" "tape" "LWireCodec$Tape;") zin_W_12) (fun _ h9 => h9) rfl d_W_datagram_14 ?_
  refine va_get (D := (dC, dI)) (ci := 1) (v := .int (zT_length sT)) (C := R_T) (T := F_T) (N := 3) hx hb hts zi_T hown zz.1 hP 6 rfl rfl 2 (by decide) (hts (.fieldLink R_W 95 "WireCodec$Tape" "length" "I") zin_W_95) (fun _ h9 => h9) rfl d_W_datagram_17 ?_
  refine lv_iload_n hx hb d_W_datagram_20 rfl (lv_at hl 2 rfl) ?_
  obtain ⟨a_21, hx_21, hG⟩ := zb hG
  have hr_21 := zrunV (p := p) (e := e) (below := below) (meth := meth) (As := [.int (zT_length sT), .int v2]) (rest := []) (st0 := [.int v2, .int (zT_length sT), .ref adG]) (cells := cells) (slots := slots) X zz hP hD hS hA [1, 2] (by decide) rfl (c_G_restart l dC dI cB cI cL H.size adG adG_places sG (zT_length sT) v2 _ hx_21) zy_G_restart zv_G_restart (hts (.methodLink R_W 99 y_G_restart) zin_W_99) hl rfl rfl d_W_datagram_21 (lv_room (Nat.le_of_ble_eq_true rfl)) rfl rfl ⟨Nat.le_trans (Nat.le_of_ble_eq_true rfl) hRf, Nat.le_trans (Nat.le_of_ble_eq_true rfl) hRl⟩ ⟨zle kc hRc, zle kz hRz⟩ 0 3 rfl rfl
  refine zcallv (wr := (zwR adR adT cB cI cL sR ++ zwH adH adH_parts cB cI cL sH ++ zwW adW adT adR adG adF adH adD adP ++ zwT adT adT_bytes cB cI cL sT)) hr_21 hP hD hS hA [1, 2] [0, 3, 4, 5, 6, 7] rfl rfl (by decide) (by decide) (fun u_21 H locs hw_21 hP hD hS => ?_)
  obtain ⟨sG_21, rfl⟩ : ∃ z, z = u_21 := ⟨_, rfl⟩
  subst hw_21
  have hP : va_P (dC, dI) zcl (zwR adR adT cB cI cL sR ++ zwH adH adH_parts cB cI cL sH ++ zwW adW adT adR adG adF adH adD adP ++ zwT adT adT_bytes cB cI cL sT ++ zwG adG adG_places cB cI cL sG_21) H := hP
  have hD : va_D A (zwR adR adT cB cI cL sR ++ zwH adH adH_parts cB cI cL sH ++ zwW adW adT adR adG adF adH adD adP ++ zwT adT adT_bytes cB cI cL sT ++ zwG adG adG_places cB cI cL sG_21) := hD
  have hG : g_W_datagram_c21 N sT sR sH v1 v2 sG_21 = some (a, c9, z9) := hG
  unfold g_W_datagram_c21 at hG
  refine lv_iload_n hx hb d_W_datagram_24 rfl (lv_at hl 1 rfl) ?_
  refine lv_istore_n (lv' := [(3, .int v1), (0, .ref adW), (1, .int v1), (2, .int v2)]) hx hb d_W_datagram_25 rfl hl (by decide) rfl (fun ls hl => ?_)
  refine lv_iconst (v := (0 : Int32)) hx hb d_W_datagram_26 (by decide) ?_
  refine lv_istore (lv' := [(4, .int (0 : Int32)), (3, .int v1), (0, .ref adW), (1, .int v1), (2, .int v2)]) hx hb d_W_datagram_27 hl (by decide) rfl (fun ls hl => ?_)
  refine lv_iconst (v := (0 : Int32)) hx hb d_W_datagram_29 (by decide) ?_
  refine lv_istore (lv' := [(5, .int (0 : Int32)), (4, .int (0 : Int32)), (3, .int v1), (0, .ref adW), (1, .int v1), (2, .int v2)]) hx hb d_W_datagram_30 hl (by decide) rfl (fun ls hl => ?_)
  refine lv_iconst (v := (0 : Int32)) hx hb d_W_datagram_32 (by decide) ?_
  refine lv_istore (lv' := [(6, .int (0 : Int32)), (5, .int (0 : Int32)), (4, .int (0 : Int32)), (3, .int v1), (0, .ref adW), (1, .int v1), (2, .int v2)]) hx hb d_W_datagram_33 hl (by decide) rfl (fun ls hl => ?_)
  exact k_W_datagram_35 X hA zz htr hnh hAs N _ _ hRc hRz N sT sR sG_21 sH v2 v1 (0 : Int32) (0 : Int32) (0 : Int32) _ _ _ _ _ hG kc kz adW adT adT_bytes adR adG adG_places adH adH_parts _ _ (hP.sub [3, 4, 5, 0, 6, 7, 1, 2] rfl) (hD.sub [3, 4, 5, 0, 6, 7, 1, 2] (by decide) rfl) hS _ (lv_sub hl [4, 6, 3, 2, 1, 0] rfl)
set_option maxRecDepth 100000 in
set_option maxHeartbeats 4000000 in
theorem c_W_datagram (l : Launch) (dC : Nat → ClassId) (dI : Nat → Nat → Nat) (cB cI cL : ClassId) (sz : Nat) (adW adT adT_bytes adR adG adG_places adH adH_parts adF adD adP : Nat) (N : Nat) (sT : zT) (sR : zR) (sG : zG) (sH : zH) (v1 : Int32) (v2 : Int32) (a : (Int32 ⊕ Nat) × zR × zG × zH) (c9 z9 : Nat) (hG : g_W_datagram N sT sR sG sH v1 v2 = some (a, c9, z9)) (htr : l.stackTraces = false) : zMet l y_W_datagram (zw y_W_datagram b_W_datagram 8 (some .int)) ({ frames := 7, cells := c9, slots := z9, locals := 142 }) (va_Pc [.ref adW, .int v1, .int v2] (zpre dC dI cB cI cL sz (zwW adW adT adR adG adF adH adD adP ++ zwT adT adT_bytes cB cI cL sT ++ zwR adR adT cB cI cL sR ++ zwG adG adG_places cB cI cL sG ++ zwH adH adH_parts cB cI cL sH))) (q_W_datagram dC dI cB cI cL (va_A (zwW adW adT adR adG adF adH adD adP ++ zwT adT adT_bytes cB cI cL sT ++ zwR adR adT cB cI cL sR ++ zwG adG adG_places cB cI cL sG ++ zwH adH adH_parts cB cI cL sH) sz) adW adT adT_bytes adR adG adH adH_parts adF adD adP sT a) c9 z9 (va_A (zwW adW adT adR adG adF adH adD adP ++ zwT adT adT_bytes cB cI cL sT ++ zwR adR adT cB cI cL sR ++ zwG adG adG_places cB cI cL sG ++ zwH adH adH_parts cB cI cL sH) sz) := by
  refine zMet.ofW (cc := b_W_datagram) (maxL := 8) (ret := (some .int)) (by decide) rfl ?_
  intro p e s m args below meth c s₁ B hml hv
  obtain ⟨rfl, hsz, hP, zz, hD0⟩ := hv
  subst hsz
  have X := zx_of (F := 7) (L := 142) B hml (Nat.le_refl _) (Nat.le_refl _)
  have hD := hD0.self (sz := s.heap.size)
  have hA : ∀ q : Nat, s.heap.size ≤ q → va_A (zwW adW adT adR adG adF adH adD adP ++ zwT adT adT_bytes cB cI cL sT ++ zwR adR adT cB cI cL sR ++ zwG adG adG_places cB cI cL sG ++ zwH adH adH_parts cB cI cL sH) s.heap.size q := fun q h => Or.inr h
  have hl := lv_entry ([.ref adW, .int v1, .int v2]) (n := 8) (Nat.le_of_ble_eq_true rfl)
  rw [lg_entry_eq]
  generalize (lg_sl ([.ref adW, .int v1, .int v2]) ++ List.replicate (8 - (lg_sl ([.ref adW, .int v1, .int v2])).length) Slot.unset).toArray = ls at hl ⊢
  have hnh := BodyLoose.noHandlers B (atoms_spec (ws := zw y_W_datagram b_W_datagram 8 (some .int)) B.pre _ List.mem_cons_self)
  have hAs := zstatics hP
  exact k_W_datagram_0 X hA zz htr hnh hAs N sT sR sG sH v1 v2 a c9 z9 0 0 c9 z9 hG (Nat.zero_add _) (Nat.zero_add _) (Nat.le_refl _) (Nat.le_refl _) adW adT adT_bytes adR adG adG_places adH adH_parts _ _ hP hD va_S.rf ls hl
noncomputable def g_W_packet_25 (N : Nat) (sT : zT) (sR : zR) (sG : zG) (sH : zH) : Option ((Int64 ⊕ Nat) × zR × zH) := some (.inr 3, sR, sH)
noncomputable def g_W_packet_c72 (v2 : Int32) (sR_72 : zR) (sH_72 : zH) : Option ((Int64 ⊕ Nat) × zR × zH) := zg (vp_in v2 12) (some (.inl (((zH_parts sH_72) v2.toNatClampNeg).toInt64), sR_72, sH_72))
noncomputable def g_W_packet_c54 (N : Nat) (sT : zT) (sG : zG) (sH : zH) (v2 : Int32) (sR_54 : zR) : Option ((Int64 ⊕ Nat) × zR × zH) := (g_H_parse N sT sR_54 sH (zG_names sG)).bind (fun a => g_W_packet_c72 v2 a.2.1 a.2.2)
noncomputable def g_W_packet_c44 (N : Nat) (sT : zT) (sR : zR) (sG : zG) (sH : zH) (v2 : Int32) (r_44 : Int32) : Option ((Int64 ⊕ Nat) × zR × zH) := (g_R_start sR r_44 (zG_limit sG)).bind (fun a => g_W_packet_c54 N sT sG sH v2 a)
noncomputable def g_W_packet (N : Nat) (sT : zT) (sR : zR) (sG : zG) (sH : zH) (v1 : Int32) (v2 : Int32) : Option ((Int64 ⊕ Nat) × zR × zH) := if v1 < (0 : Int32) then (g_W_packet_25 N sT sR sG sH) else (if (zG_packetCount sG) ≤ v1 then (g_W_packet_25 N sT sR sG sH) else (if v2 < (0 : Int32) then (g_W_packet_25 N sT sR sG sH) else (if v2 < (12 : Int32) then ((g_G_placeOf sG v1).bind (fun a => g_W_packet_c44 N sT sR sG sH v2 a)) else (g_W_packet_25 N sT sR sG sH))))
def q_W_packet (dC : Nat → ClassId) (dI : Nat → Nat → Nat) (cB cI cL : ClassId) (A : Nat → Prop) (adW : Nat) (adT : Nat) (adT_bytes : Nat) (adR : Nat) (adG : Nat) (adG_places : Nat) (adH : Nat) (adH_parts : Nat) (adF : Nat) (adD : Nat) (adP : Nat) (sT : zT) (sG : zG) (a : (Int64 ⊕ Nat) × zR × zH) : Array Value → State → Outcome → State → Prop := zQx (α := Int64) (fun r => some (.long r)) (fun r (u : zR × zH) => (r, u.1, u.2) = a) (dC, dI) (fun u => (zwW adW adT adR adG adF adH adD adP ++ zwT adT adT_bytes cB cI cL sT ++ zwR adR adT cB cI cL u.1 ++ zwG adG adG_places cB cI cL sG ++ zwH adH adH_parts cB cI cL u.2)) A
set_option maxRecDepth 100000 in
set_option maxHeartbeats 4000000 in
theorem k_W_packet_25 {p : Program} {l : Launch} {e : Env} {R : Room} {s : State} {m : MethodId} {args : Array Value} {below : List Frame} {meth : Method} {c : Code} {dC : Nat → ClassId} {dI : Nat → Nat → Nat} {cB cI cL : ClassId} {A : Nat → Prop} {adF adD adP : Nat} (X : zx p s m args meth c R R_W b_W_packet (some .long) 3 6 142) (hA : ∀ q, s.heap.size ≤ q → A q) (zz : zk dC dI cB cI cL A s) (htr : l.stackTraces = false) (hnh : c.exceptionTable.isEmpty = true) (hAs : ∀ q, A q → ∀ cell, s.heap[q]? = some cell → cell.vm.isStatics = false) (hRc : 1 ≤ R.cells) (hRz : 6 ≤ R.slots)  (N : Nat) (sT : zT) (sR : zR) (sG : zG) (sH : zH) (a : (Int64 ⊕ Nat) × zR × zH) (hG : g_W_packet_25 N sT sR sG sH = some a) (adW adT adT_bytes adR adG adG_places adH adH_parts : Nat) (H : Heap) (locs : List Loc) (hP : va_P (dC, dI) zcl (zwW adW adT adR adG adF adH adD adP ++ zwT adT adT_bytes cB cI cL sT ++ zwR adR adT cB cI cL sR ++ zwG adG adG_places cB cI cL sG ++ zwH adH adH_parts cB cI cL sH) H) (hD : va_D A (zwW adW adT adR adG adF adH adD adP ++ zwT adT adT_bytes cB cI cL sT ++ zwR adR adT cB cI cL sR ++ zwG adG adG_places cB cI cL sG ++ zwH adH adH_parts cB cI cL sH)) (hS : va_S A s.heap H locs) (ls : Array Slot) (hl : lv_has ls 3 []) : W p l e R s m args below meth c H locs 0 0 (zMQ below (q_W_packet dC dI cB cI cL A adW adT adT_bytes adR adG adG_places adH adH_parts adF adD adP sT sG a) args s 1 6 A) (F0 m 25 ls []) := by
  obtain ⟨hx, hb, hr, hml, hown, hts, hlocks, hRf, hRl⟩ := id X
  unfold g_W_packet_25 at hG
  exact zthrow htr X zz hnh hAs hA hS 3 (text := "no such packet, or no such part of it") zin_W_164 zini_3 (by decide +kernel) zat_W_168 zfit_3 hl d_W_packet_25 d_W_packet_28 d_W_packet_29 d_W_packet_31 d_W_packet_34 (Nat.le_trans (Nat.le_of_ble_eq_true rfl) hRf) (Nat.le_trans (Nat.le_of_ble_eq_true rfl) hRl) hRc hRz (by decide) (by decide) (fun t9 q9 hz9 ho9 ht9 => ⟨(sR, sH), va_P.kept hP (zold hP ho9), hD, zFr hS hz9 ho9, Or.inr ⟨3, q9, rfl, Option.some.inj hG, ht9⟩⟩)
set_option maxRecDepth 100000 in
set_option maxHeartbeats 4000000 in
theorem k_W_packet_0 {p : Program} {l : Launch} {e : Env} {R : Room} {s : State} {m : MethodId} {args : Array Value} {below : List Frame} {meth : Method} {c : Code} {dC : Nat → ClassId} {dI : Nat → Nat → Nat} {cB cI cL : ClassId} {A : Nat → Prop} {adF adD adP : Nat} (X : zx p s m args meth c R R_W b_W_packet (some .long) 3 6 142) (hA : ∀ q, s.heap.size ≤ q → A q) (zz : zk dC dI cB cI cL A s) (htr : l.stackTraces = false) (hnh : c.exceptionTable.isEmpty = true) (hAs : ∀ q, A q → ∀ cell, s.heap[q]? = some cell → cell.vm.isStatics = false) (hRc : 1 ≤ R.cells) (hRz : 6 ≤ R.slots)  (N : Nat) (sT : zT) (sR : zR) (sG : zG) (sH : zH) (v1 : Int32) (v2 : Int32) (a : (Int64 ⊕ Nat) × zR × zH) (hG : g_W_packet N sT sR sG sH v1 v2 = some a) (adW adT adT_bytes adR adG adG_places adH adH_parts : Nat) (H : Heap) (locs : List Loc) (hP : va_P (dC, dI) zcl (zwW adW adT adR adG adF adH adD adP ++ zwT adT adT_bytes cB cI cL sT ++ zwR adR adT cB cI cL sR ++ zwG adG adG_places cB cI cL sG ++ zwH adH adH_parts cB cI cL sH) H) (hD : va_D A (zwW adW adT adR adG adF adH adD adP ++ zwT adT adT_bytes cB cI cL sT ++ zwR adR adT cB cI cL sR ++ zwG adG adG_places cB cI cL sG ++ zwH adH adH_parts cB cI cL sH)) (hS : va_S A s.heap H locs) (ls : Array Slot) (hl : lv_has ls 3 [(0, .ref adW), (1, .int v1), (2, .int v2)]) : W p l e R s m args below meth c H locs 0 0 (zMQ below (q_W_packet dC dI cB cI cL A adW adT adT_bytes adR adG adG_places adH adH_parts adF adD adP sT sG a) args s 1 6 A) (F0 m 0 ls []) := by
  obtain ⟨hx, hb, hr, hml, hown, hts, hlocks, hRf, hRl⟩ := id X
  unfold g_W_packet at hG
  refine lv_iload_n hx hb d_W_packet_0 rfl (lv_at hl 1 rfl) ?_
  refine lv_if_lt (tgt := 25) hx hb d_W_packet_1 (by decide) (fun hc => ?_) (fun hc => ?_)
  · have hG := zt hG hc
    exact k_W_packet_25 X hA zz htr hnh hAs hRc hRz N sT sR sG sH _ hG adW adT adT_bytes adR adG adG_places adH adH_parts _ _ hP hD hS _ (lv_sub hl [] rfl)
  · have hG := zf hG hc
    refine lv_iload_n hx hb d_W_packet_4 rfl (lv_at hl 1 rfl) ?_
    refine lv_aload_n hx hb d_W_packet_5 rfl (lv_at hl 0 rfl) ?_
    refine va_get (D := (dC, dI)) (ci := 0) (v := .ref adG) (C := R_W) (T := F_W) (N := 7) hx hb hts zi_W hown zz.1 hP 0 rfl rfl 2 (by decide) (hts (.fieldLink R_W 28 "WireCodec" "reading" "LWireCodec$Reading;") zin_W_28) (fun _ h9 => h9) rfl d_W_packet_6 ?_
    refine va_get (D := (dC, dI)) (ci := 3) (v := .int (zG_packetCount sG)) (C := R_G) (T := F_G) (N := 7) hx hb hts zi_G hown zz.1 hP 4 rfl rfl 2 (by decide) (hts (.fieldLink R_W 252 "WireCodec$Reading" "packetCount" "I") zin_W_252) (fun _ h9 => h9) rfl d_W_packet_9 ?_
    refine lv_icmp_ge (tgt := 25) hx hb d_W_packet_12 (by decide) (fun hc => ?_) (fun hc => ?_)
    · have hG := zt hG hc
      exact k_W_packet_25 X hA zz htr hnh hAs hRc hRz N sT sR sG sH _ hG adW adT adT_bytes adR adG adG_places adH adH_parts _ _ hP hD hS _ (lv_sub hl [] rfl)
    · have hG := zf hG hc
      refine lv_iload_n hx hb d_W_packet_15 rfl (lv_at hl 2 rfl) ?_
      refine lv_if_lt (tgt := 25) hx hb d_W_packet_16 (by decide) (fun hc => ?_) (fun hc => ?_)
      · have hG := zt hG hc
        exact k_W_packet_25 X hA zz htr hnh hAs hRc hRz N sT sR sG sH _ hG adW adT adT_bytes adR adG adG_places adH adH_parts _ _ hP hD hS _ (lv_sub hl [] rfl)
      · have hG := zf hG hc
        refine lv_iload_n hx hb d_W_packet_19 rfl (lv_at hl 2 rfl) ?_
        refine lv_bipush (v := (12 : Int32)) hx hb d_W_packet_20 (by decide) ?_
        refine lv_icmp_lt (tgt := 35) hx hb d_W_packet_22 (by decide) (fun hc => ?_) (fun hc => ?_)
        · have hG := zt hG hc
          refine lv_aload_n hx hb d_W_packet_35 rfl (lv_at hl 0 rfl) ?_
          refine va_get (D := (dC, dI)) (ci := 0) (v := .ref adR) (C := R_W) (T := F_W) (N := 7) hx hb hts zi_W hown zz.1 hP 0 rfl rfl 1 (by decide) (hts (.fieldLink R_W 21 "WireCodec" "reader" "LWireCodec$Reader;") zin_W_21) (fun _ h9 => h9) rfl d_W_packet_36 ?_
          refine lv_aload_n hx hb d_W_packet_39 rfl (lv_at hl 0 rfl) ?_
          refine va_get (D := (dC, dI)) (ci := 0) (v := .ref adG) (C := R_W) (T := F_W) (N := 7) hx hb hts zi_W hown zz.1 hP 0 rfl rfl 2 (by decide) (hts (.fieldLink R_W 28 "WireCodec" "reading" "LWireCodec$Reading;") zin_W_28) (fun _ h9 => h9) rfl d_W_packet_40 ?_
          refine lv_iload_n hx hb d_W_packet_43 rfl (lv_at hl 1 rfl) ?_
          obtain ⟨a_44, hx_44, hG⟩ := zb hG
          have hr_44 := zrunV (p := p) (e := e) (below := below) (meth := meth) (As := [.int v1]) (rest := [.ref adR]) (st0 := [.int v1, .ref adG, .ref adR]) (cells := 0) (slots := 0) X zz hP hD hS hA [4, 5] (by decide) rfl (c_G_placeOf l dC dI cB cI cL H.size adG adG_places sG v1 _ hx_44) zy_G_placeOf zv_G_placeOf (hts (.methodLink R_W 257 y_G_placeOf) zin_W_257) hl rfl rfl d_W_packet_44 (lv_room (Nat.le_of_ble_eq_true rfl)) rfl rfl ⟨Nat.le_trans (Nat.le_of_ble_eq_true rfl) hRf, Nat.le_trans (Nat.le_of_ble_eq_true rfl) hRl⟩ ⟨Nat.zero_le _, Nat.zero_le _⟩ 0 3 rfl rfl
          refine zcalli (wr := (zwW adW adT adR adG adF adH adD adP ++ zwT adT adT_bytes cB cI cL sT ++ zwR adR adT cB cI cL sR ++ zwH adH adH_parts cB cI cL sH)) hr_44 hP hD hS hA [4, 5] [0, 1, 2, 3, 6, 7] rfl rfl (by decide) (by decide) (fun r_44 u_44 H locs hw_44 hP hD hS => ?_)
          subst hw_44
          have hP : va_P (dC, dI) zcl (zwW adW adT adR adG adF adH adD adP ++ zwT adT adT_bytes cB cI cL sT ++ zwR adR adT cB cI cL sR ++ zwH adH adH_parts cB cI cL sH ++ zwG adG adG_places cB cI cL sG) H := hP
          have hD : va_D A (zwW adW adT adR adG adF adH adD adP ++ zwT adT adT_bytes cB cI cL sT ++ zwR adR adT cB cI cL sR ++ zwH adH adH_parts cB cI cL sH ++ zwG adG adG_places cB cI cL sG) := hD
          have hG : g_W_packet_c44 N sT sR sG sH v2 r_44 = some a := hG
          unfold g_W_packet_c44 at hG
          refine lv_aload_n hx hb d_W_packet_47 rfl (lv_at hl 0 rfl) ?_
          refine va_get (D := (dC, dI)) (ci := 0) (v := .ref adG) (C := R_W) (T := F_W) (N := 7) hx hb hts zi_W hown zz.1 hP 0 rfl rfl 2 (by decide) (hts (.fieldLink R_W 28 "WireCodec" "reading" "LWireCodec$Reading;") zin_W_28) (fun _ h9 => h9) rfl d_W_packet_48 ?_
          refine va_get (D := (dC, dI)) (ci := 3) (v := .int (zG_limit sG)) (C := R_G) (T := F_G) (N := 7) hx hb hts zi_G hown zz.1 hP 6 rfl rfl 3 (by decide) (hts (.fieldLink R_W 132 "WireCodec$Reading" "limit" "I") zin_W_132) (fun _ h9 => h9) rfl d_W_packet_51 ?_
          obtain ⟨a_54, hx_54, hG⟩ := zb hG
          have hr_54 := zrunV (p := p) (e := e) (below := below) (meth := meth) (As := [.int r_44, .int (zG_limit sG)]) (rest := []) (st0 := [.int (zG_limit sG), .int r_44, .ref adR]) (cells := 0) (slots := 0) X zz hP hD hS hA [3] (by decide) rfl (c_R_start l dC dI cB cI cL H.size adR adT sR r_44 (zG_limit sG) _ hx_54) zy_R_start zv_R_start (hts (.methodLink R_W 114 y_R_start) zin_W_114) hl rfl rfl d_W_packet_54 (lv_room (Nat.le_of_ble_eq_true rfl)) rfl rfl ⟨Nat.le_trans (Nat.le_of_ble_eq_true rfl) hRf, Nat.le_trans (Nat.le_of_ble_eq_true rfl) hRl⟩ ⟨Nat.zero_le _, Nat.zero_le _⟩ 0 2 rfl rfl
          refine zcallv (wr := (zwW adW adT adR adG adF adH adD adP ++ zwT adT adT_bytes cB cI cL sT ++ zwH adH adH_parts cB cI cL sH ++ zwG adG adG_places cB cI cL sG)) hr_54 hP hD hS hA [3] [0, 1, 2, 4, 5, 6, 7] rfl rfl (by decide) (by decide) (fun u_54 H locs hw_54 hP hD hS => ?_)
          obtain ⟨sR_54, rfl⟩ : ∃ z, z = u_54 := ⟨_, rfl⟩
          subst hw_54
          have hP : va_P (dC, dI) zcl (zwW adW adT adR adG adF adH adD adP ++ zwT adT adT_bytes cB cI cL sT ++ zwH adH adH_parts cB cI cL sH ++ zwG adG adG_places cB cI cL sG ++ zwR adR adT cB cI cL sR_54) H := hP
          have hD : va_D A (zwW adW adT adR adG adF adH adD adP ++ zwT adT adT_bytes cB cI cL sT ++ zwH adH adH_parts cB cI cL sH ++ zwG adG adG_places cB cI cL sG ++ zwR adR adT cB cI cL sR_54) := hD
          have hG : g_W_packet_c54 N sT sG sH v2 sR_54 = some a := hG
          unfold g_W_packet_c54 at hG
          refine lv_aload_n hx hb d_W_packet_57 rfl (lv_at hl 0 rfl) ?_
          refine va_get (D := (dC, dI)) (ci := 0) (v := .ref adH) (C := R_W) (T := F_W) (N := 7) hx hb hts zi_W hown zz.1 hP 0 rfl rfl 4 (by decide) (hts (.fieldLink R_W 42 "WireCodec" "loadedHeader" "LWireCodec$Header;") zin_W_42) (fun _ h9 => h9) rfl d_W_packet_58 ?_
          refine lv_aload_n hx hb d_W_packet_61 rfl (lv_at hl 0 rfl) ?_
          refine va_get (D := (dC, dI)) (ci := 0) (v := .ref adR) (C := R_W) (T := F_W) (N := 7) hx hb hts zi_W hown zz.1 hP 0 rfl rfl 1 (by decide) (hts (.fieldLink R_W 21 "WireCodec" "reader" "LWireCodec$Reader;") zin_W_21) (fun _ h9 => h9) rfl d_W_packet_62 ?_
          refine lv_aload_n hx hb d_W_packet_65 rfl (lv_at hl 0 rfl) ?_
          refine va_get (D := (dC, dI)) (ci := 0) (v := .ref adG) (C := R_W) (T := F_W) (N := 7) hx hb hts zi_W hown zz.1 hP 0 rfl rfl 2 (by decide) (hts (.fieldLink R_W 28 "WireCodec" "reading" "LWireCodec$Reading;") zin_W_28) (fun _ h9 => h9) rfl d_W_packet_66 ?_
          refine va_get (D := (dC, dI)) (ci := 3) (v := .int (zG_names sG)) (C := R_G) (T := F_G) (N := 7) hx hb hts zi_G hown zz.1 hP 5 rfl rfl 4 (by decide) (hts (.fieldLink R_W 260 "WireCodec$Reading" "names" "I") zin_W_260) (fun _ h9 => h9) rfl d_W_packet_69 ?_
          obtain ⟨a_72, hx_72, hG⟩ := zb hG
          have hr_72 := zrunV (p := p) (e := e) (below := below) (meth := meth) (As := [.ref adR, .int (zG_names sG)]) (rest := []) (st0 := [.int (zG_names sG), .ref adR, .ref adH]) (cells := 0) (slots := 0) X zz hP hD hS hA [1, 2, 7, 3, 4] (by decide) rfl (c_H_parse l dC dI cB cI cL H.size adT adT_bytes adR adH adH_parts N sT sR_54 sH (zG_names sG) _ hx_72) zy_H_parse zv_H_parse (hts (.methodLink R_W 241 y_H_parse) zin_W_241) hl rfl rfl d_W_packet_72 (lv_room (Nat.le_of_ble_eq_true rfl)) rfl rfl ⟨Nat.le_trans (Nat.le_of_ble_eq_true rfl) hRf, Nat.le_trans (Nat.le_of_ble_eq_true rfl) hRl⟩ ⟨Nat.zero_le _, Nat.zero_le _⟩ 3 5 rfl rfl
          refine zcalli (wr := (zwW adW adT adR adG adF adH adD adP ++ zwG adG adG_places cB cI cL sG)) hr_72 hP hD hS hA [1, 2, 7, 3, 4] [0, 5, 6] rfl rfl (by decide) (by decide) (fun r_72 u_72 H locs hw_72 hP hD hS => ?_)
          obtain ⟨sR_72, sH_72⟩ := u_72
          subst hw_72
          have hP : va_P (dC, dI) zcl (zwW adW adT adR adG adF adH adD adP ++ zwG adG adG_places cB cI cL sG ++ zwT adT adT_bytes cB cI cL sT ++ zwR adR adT cB cI cL sR_72 ++ zwH adH adH_parts cB cI cL sH_72) H := hP
          have hD : va_D A (zwW adW adT adR adG adF adH adD adP ++ zwG adG adG_places cB cI cL sG ++ zwT adT adT_bytes cB cI cL sT ++ zwR adR adT cB cI cL sR_72 ++ zwH adH adH_parts cB cI cL sH_72) := hD
          have hG : g_W_packet_c72 v2 sR_72 sH_72 = some a := hG
          unfold g_W_packet_c72 at hG
          refine lv_pop hx hb d_W_packet_75 rfl ?_
          refine lv_aload_n hx hb d_W_packet_76 rfl (lv_at hl 0 rfl) ?_
          refine va_get (D := (dC, dI)) (ci := 0) (v := .ref adH) (C := R_W) (T := F_W) (N := 7) hx hb hts zi_W hown zz.1 hP 0 rfl rfl 4 (by decide) (hts (.fieldLink R_W 42 "WireCodec" "loadedHeader" "LWireCodec$Header;") zin_W_42) (fun _ h9 => h9) rfl d_W_packet_77 ?_
          refine va_get (D := (dC, dI)) (ci := 5) (v := .ref adH_parts) (C := R_H) (T := F_H) (N := 1) hx hb hts zi_H hown zz.1 hP 6 rfl rfl 0 (by decide) (hts (.fieldLink R_W 245 "WireCodec$Header" "parts" "[I") zin_W_245) (fun _ h9 => h9) rfl d_W_packet_80 ?_
          refine lv_iload_n hx hb d_W_packet_83 rfl (lv_at hl 2 rfl) ?_
          obtain ⟨hin, hG⟩ := zgd hG
          refine va_iald hx hb zz.1 hP 7 1 rfl rfl hin d_W_packet_84 ?_
          refine lv_i2l hx hb d_W_packet_85 rfl ?_
          refine W.widen (k := 1) (n := 6) (by decide) (by decide) ?_
          exact zxretl (u := (sR_72, sH_72)) (v := ((zH_parts sH_72) v2.toNatClampNeg).toInt64) X hlocks (Option.some.inj hG) (hP.sub [0, 3, 4, 5, 1, 2, 6, 7] rfl) (hD.sub [0, 3, 4, 5, 1, 2, 6, 7] (by decide) rfl) hS d_W_packet_86
        · have hG := zf hG hc
          exact k_W_packet_25 X hA zz htr hnh hAs hRc hRz N sT sR sG sH _ hG adW adT adT_bytes adR adG adG_places adH adH_parts _ _ hP hD hS _ (lv_sub hl [] rfl)
set_option maxRecDepth 100000 in
set_option maxHeartbeats 4000000 in
theorem c_W_packet (l : Launch) (dC : Nat → ClassId) (dI : Nat → Nat → Nat) (cB cI cL : ClassId) (sz : Nat) (adW adT adT_bytes adR adG adG_places adH adH_parts adF adD adP : Nat) (N : Nat) (sT : zT) (sR : zR) (sG : zG) (sH : zH) (v1 : Int32) (v2 : Int32) (a : (Int64 ⊕ Nat) × zR × zH) (hG : g_W_packet N sT sR sG sH v1 v2 = some a) (htr : l.stackTraces = false) : zMet l y_W_packet (zw y_W_packet b_W_packet 3 (some .long)) ({ frames := 6, cells := 1, slots := 6, locals := 142 }) (va_Pc [.ref adW, .int v1, .int v2] (zpre dC dI cB cI cL sz (zwW adW adT adR adG adF adH adD adP ++ zwT adT adT_bytes cB cI cL sT ++ zwR adR adT cB cI cL sR ++ zwG adG adG_places cB cI cL sG ++ zwH adH adH_parts cB cI cL sH))) (q_W_packet dC dI cB cI cL (va_A (zwW adW adT adR adG adF adH adD adP ++ zwT adT adT_bytes cB cI cL sT ++ zwR adR adT cB cI cL sR ++ zwG adG adG_places cB cI cL sG ++ zwH adH adH_parts cB cI cL sH) sz) adW adT adT_bytes adR adG adG_places adH adH_parts adF adD adP sT sG a) 1 6 (va_A (zwW adW adT adR adG adF adH adD adP ++ zwT adT adT_bytes cB cI cL sT ++ zwR adR adT cB cI cL sR ++ zwG adG adG_places cB cI cL sG ++ zwH adH adH_parts cB cI cL sH) sz) := by
  refine zMet.ofW (cc := b_W_packet) (maxL := 3) (ret := (some .long)) (by decide) rfl ?_
  intro p e s m args below meth c s₁ B hml hv
  obtain ⟨rfl, hsz, hP, zz, hD0⟩ := hv
  subst hsz
  have X := zx_of (F := 6) (L := 142) B hml (Nat.le_refl _) (Nat.le_refl _)
  have hD := hD0.self (sz := s.heap.size)
  have hA : ∀ q : Nat, s.heap.size ≤ q → va_A (zwW adW adT adR adG adF adH adD adP ++ zwT adT adT_bytes cB cI cL sT ++ zwR adR adT cB cI cL sR ++ zwG adG adG_places cB cI cL sG ++ zwH adH adH_parts cB cI cL sH) s.heap.size q := fun q h => Or.inr h
  have hl := lv_entry ([.ref adW, .int v1, .int v2]) (n := 3) (Nat.le_of_ble_eq_true rfl)
  rw [lg_entry_eq]
  generalize (lg_sl ([.ref adW, .int v1, .int v2]) ++ List.replicate (3 - (lg_sl ([.ref adW, .int v1, .int v2])).length) Slot.unset).toArray = ls at hl ⊢
  have hnh := BodyLoose.noHandlers B (atoms_spec (ws := zw y_W_packet b_W_packet 3 (some .long)) B.pre _ List.mem_cons_self)
  have hAs := zstatics hP
  exact k_W_packet_0 X hA zz htr hnh hAs (Nat.le_refl _) (Nat.le_refl _) N sT sR sG sH v1 v2 a hG adW adT adT_bytes adR adG adG_places adH adH_parts _ _ hP hD va_S.rf ls hl
